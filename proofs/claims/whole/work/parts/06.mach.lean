/-! The abstract machine: the state of both sides by numbers (objects, fields, arrays), and what the machine's rows say of it. -/
abbrev St : Type := (Nat → Nat → Int32) × (Nat → Nat → Option Nat) × (Nat → Nat → Int32) × (Nat → Nat → Int64)
def gI (st : St) (o k : Nat) : Int32 := st.1 o k
def gR (st : St) (o k : Nat) : Option Nat := st.2.1 o k
def gA (st : St) (a : Nat) : Nat → Int32 := st.2.2.1 a
def gL (st : St) (a : Nat) : Nat → Int64 := st.2.2.2 a
def sI (st : St) (o k : Nat) (v : Int32) : St := (fun a b => if a = o ∧ b = k then v else st.1 a b, st.2)
def sR (st : St) (o k : Nat) (v : Option Nat) : St := (st.1, (fun a b => if a = o ∧ b = k then v else st.2.1 a b), st.2.2)
def sF (st : St) (a : Nat) (f : Nat → Int32) : St := (st.1, st.2.1, (fun b => if b = a then f else st.2.2.1 b), st.2.2.2)
def sA (st : St) (a j : Nat) (x : Int32) : St := sF st a (upd (gA st a) j x)
def sL (st : St) (a j : Nat) (x : Int64) : St := (st.1, st.2.1, st.2.2.1, fun b => if b = a then vp_updL (gL st a) j x else st.2.2.2 b)
/-- each number's shape: 0 an int array, 1 a boolean array, 2 a long array, 3 an array of Strings, 4 an object of a class (its fields: 0 a number, 1 a changing reference, r + 2 the reference r) -/
def tb : List (Nat × Nat × List Nat) := [(4, 11, [3, 0, 0, 1, 4, 18, 0, 5, 32, 36, 38, 41]), (0, 700, []), (4, 1, [5, 9, 11, 17]), (4, 2, [1, 6, 7, 8]), (0, 110, []), (0, 8, []), (0, 6, []), (4, 0, [10, 0, 0]), (0, 4400, []), (4, 7, [12, 13, 14, 15, 16, 0]), (0, 8, []), (0, 8, []), (0, 8, []), (0, 8, []), (1, 8, []), (0, 3, []), (4, 1, [19, 23, 25, 31]), (4, 2, [1, 20, 21, 22]), (0, 110, []), (0, 8, []), (0, 6, []), (4, 0, [24, 0, 0]), (0, 4400, []), (4, 7, [26, 27, 28, 29, 30, 0]), (0, 8, []), (0, 8, []), (0, 8, []), (0, 8, []), (1, 8, []), (0, 3, []), (4, 2, [1, 33, 34, 35]), (0, 110, []), (0, 8, []), (0, 6, []), (4, 4, [37, 32, 1, 0, 0, 0, 0]), (4, 8, [3, 0, 0, 0, 0, 0, 0, 1, 0]), (4, 9, [5, 32, 11, 39, 40, 0]), (0, 6, []), (0, 4, []), (4, 6, [5, 58, 59]), (4, 3, [0, 0, 43, 44, 47]), (0, 9, []), (4, 5, [0, 45, 0, 46]), (0, 700, []), (0, 40, []), (4, 5, [0, 48, 0, 49]), (0, 700, []), (0, 40, []), (4, 3, [0, 0, 51, 52, 55]), (0, 9, []), (4, 5, [0, 53, 0, 54]), (0, 700, []), (0, 40, []), (4, 5, [0, 56, 0, 57]), (0, 700, []), (0, 40, []), (0, 54, []), (0, 512, []), (4, 12, [61, 62, 63, 1, 0, 64, 65, 66, 67, 68, 69, 70, 71, 72, 73, 74, 0, 0, 0, 0, 0, 0, 0, 0, 0, 0, 0, 75, 76, 77, 78, 79, 80, 81, 82, 83, 0, 0, 0, 0, 84, 85, 86, 87, 88, 89, 90, 91, 92, 93, 94, 95, 96, 97, 0, 98, 99, 0, 0, 0, 0, 100, 101, 102, 103, 104, 105, 106, 107]), (3, 4, [2000, 2001, 2002, 2003]), (3, 8, [2011, 2012, 2013, 2014, 2015, 2016, 2017, 2018]), (3, 5, [2011, 2012, 2013, 2014, 2015]), (0, 10, []), (0, 18, []), (0, 18, []), (0, 18, []), (0, 18, []), (0, 12, []), (0, 108, []), (0, 1400, []), (0, 1400, []), (0, 3, []), (0, 700, []), (0, 9, []), (0, 9, []), (0, 9, []), (0, 9, []), (0, 6, []), (0, 6, []), (0, 6, []), (0, 54, []), (0, 4400, []), (0, 8, []), (0, 64, []), (0, 6, []), (0, 110, []), (0, 6, []), (0, 3584, []), (0, 8, []), (0, 8, []), (0, 8, []), (0, 8, []), (0, 110, []), (1, 8, []), (0, 90, []), (0, 540, []), (0, 8, []), (0, 110, []), (0, 110, []), (0, 4400, []), (0, 8, []), (0, 8, []), (0, 8, []), (0, 8, []), (0, 3, []), (1, 8, []), (2, 1, [])]
abbrev NN : Nat := 107
theorem tb_len : tb.length = NN := by decide +kernel
def tbe (i : Nat) : Nat × Nat × List Nat := tb.getD i (9, 0, [])
theorem tbe_lt {i a b : Nat} {c : List Nat} (h : tbe i = (a, b, c)) (ha : a ≠ 9) : i < NN := by
  rcases Nat.lt_or_ge i NN with q | q
  · exact q
  · exfalso
    have h2 : tbe i = (9, 0, []) := by
      unfold tbe
      rw [List.getD_eq_getElem?_getD, List.getElem?_eq_none (by rw [tb_len]; exact q)]
      rfl
    rw [h2] at h
    injection h with h3
    exact ha h3.symm
abbrev En : Type := va_G × (Nat → Nat) × ClassId × ClassId × ClassId × ClassId
def eA (E : En) : Nat → Nat := E.2.1
def cv (E : En) (v : Value) : Value := match v with
  | .ref i => .ref (eA E i)
  | v => v
theorem cv_rf (E : En) (r : Option Nat) : cv E (va_rf r) = va_rf (r.map (eA E)) := by cases r <;> rfl
theorem cv_cat (E : En) (v : Value) : (cv E v).category = v.category := by cases v <;> rfl
def fv (E : En) (st : St) (i f k : Nat) : Value := match f with
  | 0 => .int (gI st i k)
  | 1 => va_rf ((gR st i k).map (eA E))
  | r + 2 => .ref (eA E r)
def fvs (E : En) (st : St) (i : Nat) : Nat → List Nat → List Value
  | _, [] => []
  | k, f :: l => fv E st i f k :: fvs E st i (k + 1) l
def cel (E : En) (st : St) (i : Nat) : va_E := match (tbe i).1 with
  | 0 => .inl (E.2.2.1, (tbe i).2.1, .inl (gA st i))
  | 1 => .inl (E.2.2.2.1, (tbe i).2.1, .inl (gA st i))
  | 2 => .inl (E.2.2.2.2.1, (tbe i).2.1, .inr (.inl (gL st i)))
  | 3 => .inl (E.2.2.2.2.2, (tbe i).2.1, .inr (.inr (.inr (.inr (fun j => ((tbe i).2.2[j]?).map (eA E))))))
  | _ => .inr ((tbe i).2.1, fvs E st i 0 (tbe i).2.2)
def wl (E : En) (st : St) : va_W := (List.range NN).map (fun i => (eA E i, cel E st i))
theorem wl_get (E : En) (st : St) {i : Nat} (h : i < NN) : (wl E st)[i]? = some (eA E i, cel E st i) := by
  simp only [wl, List.getElem?_map, List.getElem?_range h, Option.map_some]
theorem wl_lt (E : En) (st : St) {i : Nat} {q : Nat × va_E} (h : (wl E st)[i]? = some q) : i < NN ∧ q = (eA E i, cel E st i) := by
  have hl : i < (wl E st).length := (List.getElem?_eq_some_iff.mp h).1
  have hn : i < NN := by simpa [wl] using hl
  rw [wl_get E st hn] at h
  exact ⟨hn, (Option.some.inj h).symm⟩
theorem wl_set {E : En} {st st' : St} {i : Nat} {x : va_E} (h : i < NN) (he : cel E st' i = x) (ho : ∀ j, j ≠ i → cel E st' j = cel E st j) : (wl E st).set i (eA E i, x) = wl E st' := by
  apply List.ext_getElem?
  intro j
  by_cases hj : j = i
  · subst hj
    rw [List.getElem?_set_self (by simpa [wl] using h), wl_get E st' h, he]
  · rw [List.getElem?_set_ne (Ne.symm hj)]
    by_cases hn : j < NN
    · rw [wl_get E st hn, wl_get E st' hn, ho j hj]
    · rw [List.getElem?_eq_none (by simpa [wl] using hn), List.getElem?_eq_none (by simpa [wl] using hn)]
theorem fvs_get (E : En) (st : St) (i : Nat) : ∀ (l : List Nat) (k0 k : Nat), (fvs E st i k0 l)[k]? = (l[k]?).map (fun f => fv E st i f (k0 + k))
  | [], k0, k => by simp [fvs]
  | f :: l, k0, 0 => by simp [fvs]
  | f :: l, k0, k + 1 => by
    simp only [fvs, List.getElem?_cons_succ]
    rw [fvs_get E st i l (k0 + 1) k]
    congr 1
    funext g
    rw [Nat.add_right_comm k0 1 k, Nat.add_assoc]
theorem fvs_len (E : En) (st : St) (i : Nat) : ∀ (l : List Nat) (k0 : Nat), (fvs E st i k0 l).length = l.length
  | [], k0 => rfl
  | f :: l, k0 => by simp only [fvs, List.length_cons, fvs_len E st i l (k0 + 1)]
theorem fvs_set {E : En} {st st' : St} {i k : Nat} {l : List Nat} {f : Nat} {v : Value} (hf : l[k]? = some f) (hv : fv E st' i f k = v) (ho : ∀ j g, j ≠ k → fv E st' i g j = fv E st i g j) : (fvs E st i 0 l).set k v = fvs E st' i 0 l := by
  apply List.ext_getElem?
  intro j
  have hk : k < l.length := (List.getElem?_eq_some_iff.mp hf).1
  by_cases hj : j = k
  · subst hj
    rw [List.getElem?_set_self (by rw [fvs_len]; exact hk), fvs_get, hf, Nat.zero_add, Option.map_some, hv]
  · rw [List.getElem?_set_ne (Ne.symm hj), fvs_get, fvs_get]
    congr 1
    funext g
    rw [Nat.zero_add, ho j g hj]
theorem fvs_cong {E : En} {st st' : St} {i : Nat} (h : ∀ j g, fv E st' i g j = fv E st i g j) : ∀ (l : List Nat) (k0 : Nat), fvs E st' i k0 l = fvs E st i k0 l
  | [], k0 => rfl
  | f :: l, k0 => by simp only [fvs, h, fvs_cong h l (k0 + 1)]
theorem cel_obj {E : En} {st : St} {i c : Nat} {l : List Nat} (h : tbe i = (4, c, l)) : cel E st i = .inr (c, fvs E st i 0 l) := by simp only [cel, h]
theorem cel_int {E : En} {st : St} {i n : Nat} {l : List Nat} (h : tbe i = (0, n, l)) : cel E st i = .inl (E.2.2.1, n, .inl (gA st i)) := by simp only [cel, h]
theorem cel_boo {E : En} {st : St} {i n : Nat} {l : List Nat} (h : tbe i = (1, n, l)) : cel E st i = .inl (E.2.2.2.1, n, .inl (gA st i)) := by simp only [cel, h]
theorem cel_lon {E : En} {st : St} {i n : Nat} {l : List Nat} (h : tbe i = (2, n, l)) : cel E st i = .inl (E.2.2.2.2.1, n, .inr (.inl (gL st i))) := by simp only [cel, h]
theorem cel_str {E : En} {st : St} {i n : Nat} {l : List Nat} (h : tbe i = (3, n, l)) : cel E st i = .inl (E.2.2.2.2.2, n, .inr (.inr (.inr (.inr (fun j => (l[j]?).map (eA E)))))) := by simp only [cel, h]
theorem cel_cong {E : En} {st st' : St} {i : Nat} (hI : ∀ k, gI st' i k = gI st i k) (hR : ∀ k, gR st' i k = gR st i k) (hA : gA st' i = gA st i) (hL : gL st' i = gL st i) : cel E st' i = cel E st i := by
  unfold cel
  rw [hA, hL, fvs_cong (st := st) (st' := st') (fun j g => by
    match g with
    | 0 => simp only [fv, hI]
    | 1 => simp only [fv, hR]
    | r + 2 => rfl)]
theorem wl_sI {E : En} {st : St} {o c k : Nat} {l : List Nat} {v : Int32} (h : tbe o = (4, c, l)) (hk : l[k]? = some 0) : (wl E st).set o (eA E o, .inr (c, (fvs E st o 0 l).set k (.int v))) = wl E (sI st o k v) := by
  refine wl_set (tbe_lt h (by decide)) ?_ (fun j hj => cel_cong (fun k2 => by simp [gI, sI, hj]) (fun _ => rfl) rfl rfl)
  rw [cel_obj h, fvs_set (st := st) (st' := sI st o k v) hk (v := .int v) (by simp [fv, gI, sI]) (fun j g hj => by
    match g with
    | 0 => simp [fv, gI, sI, hj]
    | 1 => rfl
    | r + 2 => rfl)]
theorem wl_sR {E : En} {st : St} {o c k : Nat} {l : List Nat} {v : Option Nat} (h : tbe o = (4, c, l)) (hk : l[k]? = some 1) : (wl E st).set o (eA E o, .inr (c, (fvs E st o 0 l).set k (va_rf (v.map (eA E))))) = wl E (sR st o k v) := by
  refine wl_set (tbe_lt h (by decide)) ?_ (fun j hj => cel_cong (fun _ => rfl) (fun k2 => by simp [gR, sR, hj]) rfl rfl)
  rw [cel_obj h, fvs_set (st := st) (st' := sR st o k v) hk (v := va_rf (v.map (eA E))) (by simp [fv, gR, sR]) (fun j g hj => by
    match g with
    | 0 => rfl
    | 1 => simp [fv, gR, sR, hj]
    | r + 2 => rfl)]
theorem wl_sF {E : En} {st : St} {a n : Nat} {l : List Nat} {f : Nat → Int32} (h : tbe a = (0, n, l)) : (wl E st).set a (eA E a, .inl (E.2.2.1, n, .inl f)) = wl E (sF st a f) := by
  refine wl_set (tbe_lt h (by decide)) ?_ (fun j hj => cel_cong (fun _ => rfl) (fun _ => rfl) (by simp [gA, sF, hj]) rfl)
  rw [cel_int h]; simp [gA, sF]
theorem wl_sZ {E : En} {st : St} {a n : Nat} {l : List Nat} {f : Nat → Int32} (h : tbe a = (1, n, l)) : (wl E st).set a (eA E a, .inl (E.2.2.2.1, n, .inl f)) = wl E (sF st a f) := by
  refine wl_set (tbe_lt h (by decide)) ?_ (fun j hj => cel_cong (fun _ => rfl) (fun _ => rfl) (by simp [gA, sF, hj]) rfl)
  rw [cel_boo h]; simp [gA, sF]
theorem wl_sL {E : En} {st : St} {a n j : Nat} {l : List Nat} {x : Int64} (h : tbe a = (2, n, l)) : (wl E st).set a (eA E a, .inl (E.2.2.2.2.1, n, .inr (.inl (vp_updL (gL st a) j x)))) = wl E (sL st a j x) := by
  refine wl_set (tbe_lt h (by decide)) ?_ (fun j hj => cel_cong (fun _ => rfl) (fun _ => rfl) rfl (by simp [gL, sL, hj]))
  rw [cel_lon h]; simp [gL, sL]
/-- what a number is: the kind of a field of an object of the class c, the reference that it holds, the length of an array -/
def fk (o c k : Nat) : Option Nat := match tbe o with
  | (t, c', l) => if t = 4 ∧ c' = c then l[k]? else none
def rv (st : St) (o c k : Nat) : Option Nat := match fk o c k with
  | some (r + 2) => some r
  | some 1 => gR st o k
  | _ => none
def al (t a : Nat) : Nat := if (tbe a).1 = t then (tbe a).2.1 else 0
def isO (o c : Nat) : Prop := (tbe o).1 = 4 ∧ (tbe o).2.1 = c
theorem fk_obj {o c k f : Nat} (h : fk o c k = some f) : ∃ l, tbe o = (4, c, l) ∧ l[k]? = some f := by
  unfold fk at h
  generalize hq : tbe o = q at h
  obtain ⟨t, c', l⟩ := q
  dsimp only at h
  by_cases hc : t = 4 ∧ c' = c
  · rw [if_pos hc] at h
    obtain ⟨rfl, rfl⟩ := hc
    exact ⟨l, rfl, h⟩
  · rw [if_neg hc] at h; cases h
theorem al_in {t a : Nat} {i : Int32} (h : vp_in i (al t a)) : ∃ l, tbe a = (t, al t a, l) := by
  unfold al at h ⊢
  by_cases ht : (tbe a).1 = t
  · rw [if_pos ht]
    exact ⟨(tbe a).2.2, by rw [← ht]⟩
  · rw [if_neg ht] at h
    exact absurd (Or.inr (Nat.zero_le _)) h
theorem al_pos {t a : Nat} (h : 0 < al t a) : ∃ l, tbe a = (t, al t a, l) := by
  unfold al at h ⊢
  by_cases ht : (tbe a).1 = t
  · rw [if_pos ht]
    exact ⟨(tbe a).2.2, by rw [← ht]⟩
  · rw [if_neg ht] at h
    exact absurd h (Nat.lt_irrefl 0)
/-- the cells that a method may change: the world's, and those that come -/
def AA (E : En) (sz q : Nat) : Prop := (∃ i, i < NN ∧ q = eA E i) ∨ sz ≤ q
def adOK (E : En) : Prop := ∀ i j : Nat, i < NN → j < NN → eA E i = eA E j → i = j
theorem wl_D {E : En} (h : adOK E) (sz : Nat) (st : St) : va_D (AA E sz) (wl E st) := by
  refine ⟨fun i j x y hx hy hxy => ?_, fun k q hq => ?_⟩
  · obtain ⟨hi, rfl⟩ := wl_lt E st hx
    obtain ⟨hj, rfl⟩ := wl_lt E st hy
    exact h i j hi hj hxy
  · obtain ⟨hk, rfl⟩ := wl_lt E st hq
    exact Or.inl ⟨k, hk, rfl⟩
def tyE (E : En) : List (ClassId × FieldType) := [(E.2.2.1, .int), (E.2.2.2.1, .boolean), (E.2.2.2.2.1, .long), (E.2.2.2.2.2, .object "java/lang/String")]
abbrev CFt : Type := (Nat → Prop) → State → Heap → Prop
/-- constants stay: where the tables are alike, where the heap stays, for fewer cells -/
def CFok (CF : CFt) : Prop := (∀ A u U H, u.vm = U.vm → CF A u H → CF A U H) ∧ (∀ A s U H, s.WarmedH U.vm → CF A s H → CF A U H) ∧ (∀ A U H H1, (∀ a : Nat, a < H.size → ¬ A a → H1[a]? = H[a]?) → CF A U H → CF A U H1) ∧ (∀ A B U H, (∀ q, B q → A q) → CF A U H → CF B U H)
def Rm (L mc ms : Nat) : Room := { frames := L, cells := mc, slots := ms, locals := 64 * L }
def Cx (E : En) (CF : CFt) (cc : ByteArray) (nL : Nat) (own : String) (ret : Option FieldType) (XT : Code → Prop) (p : Program) (s : State) (m : MethodId) (args : Array Value) (meth : Method) (c : Code) (sz : Nat) : Prop :=
  p.tables.exec = Jvm.exec ∧ c.code = cc ∧ meth.sig.returnType = ret ∧ c.maxLocals = nL ∧ s.vm.findClass own = some m.cls ∧ (∀ w ∈ WL, w.before args s = true) ∧ meth.locks = false ∧ va_K E.1 vwCl (tyE E) s ∧ s.heap.size = sz ∧ adOK E ∧ CF (AA E sz) s s.heap ∧ CFok CF ∧ XT c
def lvc (E : En) (lv : List (Nat × Value)) : List (Nat × Value) := lv.map (fun q => (q.1, cv E q.2))
/-- the judgement: from pc on, with these locals and this stack, in this state, the machine comes to what QQ says -/
def Jg (l : Launch) (E : En) (CF : CFt) (R : Room) (cc : ByteArray) (nL : Nat) (own : String) (ret : Option FieldType) (XT : Code → Prop) (QQ : List Frame → Array Value → State → Nat → State → Prop) (k n pc : Nat) (lv : List (Nat × Value)) (stk : List Value) (st : St) : Prop :=
  ∀ (p : Program) (e : Env) (s : State) (m : MethodId) (args : Array Value) (below : List Frame) (meth : Method) (c : Code) (sz : Nat) (H : Heap) (locs : List Loc) (ls : Array Slot), Cx E CF cc nL own ret XT p s m args meth c sz → va_P E.1 vwCl (wl E st) H → va_S (AA E sz) s.heap H locs → lv_has ls nL (lvc E lv) → W p l e R s m args below meth c H locs k n (QQ below args s sz) (F0 m pc ls (stk.map (cv E)))
theorem lvc_at {E : En} {lv : List (Nat × Value)} {j i : Nat} {v : Value} (h : lv[j]? = some (i, v)) : (lvc E lv)[j]? = some (i, cv E v) := by
  simp only [lvc, List.getElem?_map, h, Option.map_some]
def lvs (i : Nat) (v : Value) (lv : List (Nat × Value)) : List (Nat × Value) := (i, v) :: lv.filter (fun q => !(q.1 == i) && !(q.1 + 1 == i && q.2.category == 2))
theorem lvc_set {E : En} {lv : List (Nat × Value)} {i : Nat} {v : Value} : (i, cv E v) :: (lvc E lv).filter (fun q => !(q.1 == i) && !(q.1 + 1 == i && q.2.category == 2)) = lvc E (lvs i v lv) := by
  simp only [lvs, lvc, List.map_cons, List.cons.injEq, true_and]
  rw [List.filter_map]
  congr 1
  apply List.filter_congr
  intro q _
  simp only [Function.comp, cv_cat]
