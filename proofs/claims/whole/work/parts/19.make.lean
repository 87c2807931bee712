/-! the making: worlds that grow, the j-th new cell at B + j -/
theorem CFc_ld {E : En} {A : Nat → Prop} {U : State} {H : Heap} (F : CFc E A U H) {own tx : String} {ix i : Nat} (hq : (own, ix, tx, i) ∈ ldcL) : vk_R own ix tx (eA E i) U := F.2.2.2.2.2.2.2.1 (own, ix, tx, i) hq
abbrev AC : Type := Nat × Nat × List Value
def rfO (E : En) (v : Value) : Option Nat := match v with
  | .ref i => some (eA E i)
  | _ => none
def cN (E : En) (x : AC) : va_E := match x.1 with
  | 0 => .inl (E.2.2.1, x.2.1, .inl (fun _ => 0))
  | 1 => .inl (E.2.2.2.1, x.2.1, .inl (fun _ => 0))
  | 2 => .inl (E.2.2.2.2.1, x.2.1, .inr (.inl (fun _ => 0)))
  | 3 => .inl (E.2.2.2.2.2, x.2.1, .inr (.inr (.inr (.inr (fun j => (x.2.2[j]?).bind (rfO E))))))
  | _ => .inr (x.2.1, x.2.2.map (cv E))
def wN (E : En) (cs : List AC) : va_W := cs.zipIdx.map (fun q => (eA E q.2, cN E q.1))
theorem wN_get (E : En) (cs : List AC) (i : Nat) : (wN E cs)[i]? = (cs[i]?).map (fun x => (eA E i, cN E x)) := by
  simp only [wN, List.getElem?_map, List.getElem?_zipIdx, Option.map_map]
  cases cs[i]? with
  | none => rfl
  | some x => simp
theorem wN_len (E : En) (cs : List AC) : (wN E cs).length = cs.length := by simp [wN]
theorem wN_set (E : En) (cs : List AC) (i : Nat) (x : AC) : wN E (cs.set i x) = (wN E cs).set i (eA E i, cN E x) := by
  apply List.ext_getElem?
  intro j
  rw [wN_get]
  by_cases hj : i = j
  · subst hj
    by_cases hl : i < cs.length
    · rw [List.getElem?_set_self hl, List.getElem?_set_self (by rw [wN_len]; exact hl)]; rfl
    · rw [List.getElem?_eq_none (by simpa using hl), List.getElem?_eq_none (by simpa [wN_len] using hl)]; rfl
  · rw [List.getElem?_set_ne hj, List.getElem?_set_ne hj, wN_get]
theorem wN_app (E : En) (cs : List AC) (x : AC) : wN E (cs ++ [x]) = wN E cs ++ [(eA E cs.length, cN E x)] := by
  simp [wN, List.zipIdx_append]
theorem wN_D {E : En} {B : Nat} {cs : List AC} (hE : ∀ j, j < 1000 → eA E j = B + j) (hl : cs.length ≤ 1000) : va_D (fun q => B ≤ q) (wN E cs) := by
  have key : ∀ (i : Nat) (q : Nat × va_E), (wN E cs)[i]? = some q → q.1 = B + i := by
    intro i q hq
    have hi : i < cs.length := by
      have := (List.getElem?_eq_some_iff.mp hq).1
      rwa [wN_len] at this
    rw [wN_get, List.getElem?_eq_getElem hi] at hq
    rw [← Option.some.inj hq]
    exact hE i (by omega)
  refine ⟨fun i j p q hp hq h => ?_, fun k q hq => ?_⟩
  · rw [key i p hp, key j q hq] at h; omega
  · show B ≤ q.1
    rw [key k q hq]; omega
def nestL : List (String × Nat × MethodName) := [(RX11, 15, yX3_init), (RX3, 17, yX5_init), (RX1, 11, yX0_init), (RX1, 20, yX7_init)]
def CFk (E : En) : CFt := fun A U H => CFc E A U H ∧ va_AO "java/lang/String" U ∧ ∀ q ∈ nestL, va_Nw (.methodLinkNest q.1 q.2.1 q.2.2 "GivenAway") U
theorem CFk_ok (E : En) : CFok (CFk E) := by
  obtain ⟨c1, c2, c3, c4⟩ := CFc_ok E
  refine ⟨fun A u U H hv h => ⟨c1 A u U H hv h.1, h.2.1.moved (by rw [hv]; exact Vm.Alike.refl _), fun q hq => (h.2.2 q hq).same rfl hv⟩, fun A s U H hW h => ⟨c2 A s U H hW h.1, h.2.1.moved hW.alike, fun q hq => (h.2.2 q hq).warmM hW⟩, fun A U H H1 hq h => ⟨c3 A U H H1 hq h.1, h.2⟩, fun A B U H hAB h => ⟨c4 A B U H hAB h.1, h.2⟩⟩
def KCx (E : En) (B : Nat) (cc : ByteArray) (nL : Nat) (own : String) (ret : Option FieldType) (nm : Prop) (p : Program) (s : State) (m : MethodId) (args : Array Value) (meth : Method) (c : Code) : Prop :=
  p.tables.exec = Jvm.exec ∧ c.code = cc ∧ meth.sig.returnType = ret ∧ c.maxLocals = nL ∧ s.vm.findClass own = some m.cls ∧ (∀ w ∈ WL, w.before args s = true) ∧ meth.locks = false ∧ va_K E.1 vwCl (tyE E) s ∧ B ≤ s.heap.size ∧ (∀ j, j < 1000 → eA E j = B + j) ∧ CFk E (fun q => B ≤ q) s s.heap ∧ (nm → meth.name = "<init>")
def Kg (l : Launch) (E : En) (B : Nat) (R : Room) (cc : ByteArray) (nL : Nat) (own : String) (ret : Option FieldType) (nm : Prop) (QQ : List Frame → Array Value → State → State → Prop) (k n pc : Nat) (lv : List (Nat × Value)) (stk : List Value) (cs : List AC) : Prop :=
  ∀ (p : Program) (e : Env) (s : State) (m : MethodId) (args : Array Value) (below : List Frame) (meth : Method) (c : Code) (H : Heap) (locs : List Loc) (ls : Array Slot), KCx E B cc nL own ret nm p s m args meth c → va_P E.1 vwCl (wN E cs) H → H.size = B + cs.length → cs.length ≤ 1000 → va_S (fun q => B ≤ q) s.heap H locs → lv_has ls nL (lvc E lv) → W p l e R s m args below meth c H locs k n (QQ below args s) (F0 m pc ls (stk.map (cv E)))
section KR
variable {l : Launch} {E : En} {B : Nat} {R : Room} {cc : ByteArray} {nL : Nat} {own : String} {ret : Option FieldType} {nm : Prop} {QQ : List Frame → Array Value → State → State → Prop} {k n pc : Nat} {lv : List (Nat × Value)} {rest : List Value} {cs : List AC}
theorem K_aload_n {z : Fin 4} {i : Nat} {x : Nat} (j : Nat) (hdg : decode cc pc = .ok (.aload_n z, 1)) (hi : (z : Nat) = i) (hj : lv[j]? = some (i, .ref x)) (kk : Kg l E B R cc nL own ret nm QQ (k) (n) (pc + 1) (lv) (.ref x :: rest) (cs)) : Kg l E B R cc nL own ret nm QQ (k) (n) (pc) (lv) (rest) (cs) := by
  intro p e s m args below meth c H locs ls C hP hz hcl hS hl
  exact lv_aload_n C.1 C.2.1 hdg hi (lv_at hl j (lvc_at hj)) (kk p e s m args below meth c H locs ls C hP hz hcl hS hl)
theorem K_iconst {z : Int} (v : Int32) (hdg : decode cc pc = .ok (.iconst z, 1)) (hv : Int32.ofInt z = v) (kk : Kg l E B R cc nL own ret nm QQ (k) (n) (pc + 1) (lv) (.int v :: rest) (cs)) : Kg l E B R cc nL own ret nm QQ (k) (n) (pc) (lv) (rest) (cs) := by
  intro p e s m args below meth c H locs ls C hP hz hcl hS hl
  exact lv_iconst C.1 C.2.1 hdg hv (kk p e s m args below meth c H locs ls C hP hz hcl hS hl)
theorem K_bipush {z : Int} (v : Int32) (hdg : decode cc pc = .ok (.bipush z, 2)) (hv : (Int8.ofInt z).toInt32 = v) (kk : Kg l E B R cc nL own ret nm QQ (k) (n) (pc + 2) (lv) (.int v :: rest) (cs)) : Kg l E B R cc nL own ret nm QQ (k) (n) (pc) (lv) (rest) (cs) := by
  intro p e s m args below meth c H locs ls C hP hz hcl hS hl
  exact lv_bipush C.1 C.2.1 hdg hv (kk p e s m args below meth c H locs ls C hP hz hcl hS hl)
theorem K_sipush {z : Int} (v : Int32) (hdg : decode cc pc = .ok (.sipush z, 3)) (hv : (Int16.ofInt z).toInt32 = v) (kk : Kg l E B R cc nL own ret nm QQ (k) (n) (pc + 3) (lv) (.int v :: rest) (cs)) : Kg l E B R cc nL own ret nm QQ (k) (n) (pc) (lv) (rest) (cs) := by
  intro p e s m args below meth c H locs ls C hP hz hcl hS hl
  exact lv_sipush C.1 C.2.1 hdg hv (kk p e s m args below meth c H locs ls C hP hz hcl hS hl)
theorem K_dup {x : Nat} (hdg : decode cc pc = .ok (.dup, 1)) (kk : Kg l E B R cc nL own ret nm QQ (k) (n) (pc + 1) (lv) (.ref x :: .ref x :: rest) (cs)) : Kg l E B R cc nL own ret nm QQ (k) (n) (pc) (lv) (.ref x :: rest) (cs) := by
  intro p e s m args below meth c H locs ls C hP hz hcl hS hl
  exact lv_dup (va := cv E (.ref x)) C.1 C.2.1 hdg (cv_cat E _) (kk p e s m args below meth c H locs ls C hP hz hcl hS hl)
theorem K_ldS {ix i : Nat} {tx : String} (hw : (own, ix, tx, i) ∈ ldcL) (hdg : decode cc pc = .ok (.ldc ix, 2)) (kk : Kg l E B R cc nL own ret nm QQ (k) (n) (pc + 2) (lv) (.ref i :: rest) (cs)) : Kg l E B R cc nL own ret nm QQ (k) (n) (pc) (lv) (rest) (cs) := by
  intro p e s m args below meth c H locs ls C hP hz hcl hS hl
  have F : CFc E (fun q => B ≤ q) s s.heap := C.2.2.2.2.2.2.2.2.2.2.1.1
  have hZ : vk_R own ix tx (eA E i) s := CFc_ld F hw
  have h9 := (kk p e s m args below meth c H locs ls C hP hz hcl hS hl)
  rw [List.map_cons] at h9
  exact va_ldcS C.1 C.2.1 C.2.2.2.2.1 hZ hdg h9
theorem K_astore_n {z : Fin 4} {i : Nat} {x : Nat} (lv2 : List (Nat × Value)) (hdg : decode cc pc = .ok (.astore_n z, 1)) (hi : (z : Nat) = i) (hn : i < nL) (h2 : lvs i (.ref x) lv = lv2) (kk : Kg l E B R cc nL own ret nm QQ (k) (n) (pc + 1) (lv2) (rest) (cs)) : Kg l E B R cc nL own ret nm QQ (k) (n) (pc) (lv) (.ref x :: rest) (cs) := by
  intro p e s m args below meth c H locs ls C hP hz hcl hS hl
  subst h2
  exact lv_astore_n C.1 C.2.1 hdg hi hl hn (lvc_set (E := E) (lv := lv) (i := i) (v := .ref x)) (fun ls hl => kk p e s m args below meth c H locs ls C hP hz hcl hS hl)
theorem K_istore {i : Nat} {x : Int32} (lv2 : List (Nat × Value)) (hdg : decode cc pc = .ok (.istore i, 2)) (hn : i < nL) (h2 : lvs i (.int x) lv = lv2) (kk : Kg l E B R cc nL own ret nm QQ (k) (n) (pc + 2) (lv2) (rest) (cs)) : Kg l E B R cc nL own ret nm QQ (k) (n) (pc) (lv) (.int x :: rest) (cs) := by
  intro p e s m args below meth c H locs ls C hP hz hcl hS hl
  subst h2
  exact lv_istore C.1 C.2.1 hdg hl hn (lvc_set (E := E) (lv := lv) (i := i) (v := .int x)) (fun ls hl => kk p e s m args below meth c H locs ls C hP hz hcl hS hl)
theorem K_obj {x ix : Nat} (hw : Cond.methodLink own ix objectInit ∈ WL) (h1 : 1 ≤ R.frames) (h2 : (rest.map fun v => v.category).sum + 12 ≤ R.locals) (hdg : decode cc pc = .ok (.invokespecial ix, 3)) (kk : Kg l E B R cc nL own ret nm QQ (k) (n) (pc + 3) (lv) (rest) (cs)) : Kg l E B R cc nL own ret nm QQ (k) (n) (pc) (lv) (.ref x :: rest) (cs) := by
  intro p e s m args below meth c H locs ls C hP hz hcl hS hl
  exact W.objInit C.1 C.2.1 C.2.2.2.2.1 (C.2.2.2.2.2.1 _ hw) (C.2.2.2.2.2.1 _ k_2) (C.2.2.2.2.2.1 _ k_3) (g := F0 m pc ls ((.ref x :: rest).map (cv E))) rfl (by rw [C.2.2.2.1]; exact hl.1) rfl hdg h1 (by
    show 2 * 0 + ((rest.map (cv E)).map fun v => v.category).sum + 12 ≤ R.locals
    rw [cats]; simpa using h2) (kk p e s m args below meth c H locs ls C hP hz hcl hS hl)
theorem K_new {ci N index : Nat} {Cn : String} {T : u_T} {fs : List Value} (hin : ∀ w ∈ u_ws Cn T N, w ∈ WL) (ty : Nat → FieldType) (hty : ∀ j, j < N → parseFieldDescriptor (T j).2.2.1 = some (ty j)) (hlk : Cond.classLink own index Cn ∈ WL) (hinst : Cond.instantiable Cn N ∈ WL) (hini : Cond.initialized Cn ∈ WL) (hc : vwCl[ci]? = some (Cn, T, N)) (hfs : ∀ j, j < N → defaultValue (ty j) = vp_V (fs.map (cv E)) j) (hk : k + 1 ≤ R.cells) (hn : n + N ≤ R.slots) (hln : cs.length < 1000) (cs2 : List AC) (h2 : cs ++ [(4, ci, fs)] = cs2) (x : Nat) (hx : cs.length = x) (hdg : decode cc pc = .ok (.new index, 3)) (kk : Kg l E B R cc nL own ret nm QQ (k + 1) (n + N) (pc + 3) (lv) (.ref x :: rest) (cs2)) : Kg l E B R cc nL own ret nm QQ (k) (n) (pc) (lv) (rest) (cs) := by
  intro p e s m args below meth c H locs ls C hP hz hcl hS hl
  subst h2
  subst hx
  have hts := C.2.2.2.2.2.1
  have hK := C.2.2.2.2.2.2.2.1
  have hKn := hK.1 ci _ hc
  have hE := C.2.2.2.2.2.2.2.2.2.1
  refine W.newcK C.1 C.2.1 C.2.2.2.2.1 (hts _ hlk) (hts _ hinst) (hts _ hini) rfl hdg hk hn hKn.2.1 rfl fun H1 kC hkC e1 z1 o1 => ?_
  have hk9 : ∀ (k : Nat) (x : Nat × va_E), (wN E cs)[k]? = some x → H1[x.1]? = H[x.1]? := fun k x hx => o1 x.1 ((hP k x hx).lt)
  have ha : H.size = eA E cs.length := by rw [hz, hE _ hln]
  have h9 := kk p e s m args below meth c H1 locs ls C (by
    rw [wN_app]
    refine (hP.kept hk9).app (fun k x hx => ?_)
    have hz9 : k < 1 := (List.getElem?_eq_some_iff.mp hx).1
    rw [show k = 0 by omega] at hx
    cases hx
    rw [ha] at e1
    exact ⟨_, hc, (u_born ty hts hin hKn hkC e1 hty).to hfs⟩) (by rw [z1, hz, List.length_append]; simp; omega) (by rw [List.length_append]; simp; omega) ⟨Nat.le_trans hS.1 (by omega), fun x h1 h2 => (o1 x (Nat.lt_of_lt_of_le h1 hS.1)).trans (hS.2.1 x h1 h2), hS.2.2⟩ hl
  rw [List.map_cons, show cv E (.ref cs.length) = .ref (eA E cs.length) from rfl, ← ha] at h9
  exact h9
theorem K_newa0 {v : Int32} {N : Nat} (hw : Cond.arrayClass .int ∈ WL) (hv : ¬ v < 0) (hN : v.toNatClampNeg = N) (hb : N * 8 ≤ 536870912) (hk : k + 1 ≤ R.cells) (hn : n + N ≤ R.slots) (hln : cs.length < 1000) (cs2 : List AC) (h2 : cs ++ [(0, N, [])] = cs2) (x : Nat) (hx : cs.length = x) (hdg : decode cc pc = .ok (.newarray .int, 2)) (kk : Kg l E B R cc nL own ret nm QQ (k + 1) (n + N) (pc + 2) (lv) (.ref x :: rest) (cs2)) : Kg l E B R cc nL own ret nm QQ (k) (n) (pc) (lv) (.int v :: rest) (cs) := by
  intro p e s m args below meth c H locs ls C hP hz hcl hS hl
  subst h2
  subst hx
  have hts := C.2.2.2.2.2.1
  have hK := C.2.2.2.2.2.2.2.1
  have hE := C.2.2.2.2.2.2.2.2.2.1
  refine va_newaK C.1 C.2.1 (atype := .int) (hts _ hw) (g := F0 m pc ls ((.int v :: rest).map (cv E))) rfl hdg rfl hv hN (Nat.le_trans (Nat.mul_le_mul_left N (by decide)) hb) hk hn rfl fun H1 cA e1 z1 o1 hAr hNm => ?_
  have hcA : cA = E.2.2.1 := Option.some.inj (hNm.symm.trans (hK.2 0 _ rfl).2)
  subst hcA
  have hk9 : ∀ (k : Nat) (x : Nat × va_E), (wN E cs)[k]? = some x → H1[x.1]? = H[x.1]? := fun k x hx => o1 x.1 ((hP k x hx).lt)
  have ha : H.size = eA E cs.length := by rw [hz, hE _ hln]
  have h9 := kk p e s m args below meth c H1 locs ls C (by
    rw [wN_app]
    refine (hP.kept hk9).app (fun k x hx => ?_)
    have hz9 : k < 1 := (List.getElem?_eq_some_iff.mp hx).1
    rw [show k = 0 by omega] at hx
    cases hx
    rw [ha] at e1
    exact e1) (by rw [z1, hz, List.length_append]; simp; omega) (by rw [List.length_append]; simp; omega) ⟨Nat.le_trans hS.1 (by omega), fun x h1 h2 => (o1 x (Nat.lt_of_lt_of_le h1 hS.1)).trans (hS.2.1 x h1 h2), hS.2.2⟩ hl
  rw [List.map_cons, show cv E (.ref cs.length) = .ref (eA E cs.length) from rfl, ← ha] at h9
  exact h9
theorem K_newa1 {v : Int32} {N : Nat} (hw : Cond.arrayClass .boolean ∈ WL) (hv : ¬ v < 0) (hN : v.toNatClampNeg = N) (hb : N * 8 ≤ 536870912) (hk : k + 1 ≤ R.cells) (hn : n + N ≤ R.slots) (hln : cs.length < 1000) (cs2 : List AC) (h2 : cs ++ [(1, N, [])] = cs2) (x : Nat) (hx : cs.length = x) (hdg : decode cc pc = .ok (.newarray .boolean, 2)) (kk : Kg l E B R cc nL own ret nm QQ (k + 1) (n + N) (pc + 2) (lv) (.ref x :: rest) (cs2)) : Kg l E B R cc nL own ret nm QQ (k) (n) (pc) (lv) (.int v :: rest) (cs) := by
  intro p e s m args below meth c H locs ls C hP hz hcl hS hl
  subst h2
  subst hx
  have hts := C.2.2.2.2.2.1
  have hK := C.2.2.2.2.2.2.2.1
  have hE := C.2.2.2.2.2.2.2.2.2.1
  refine va_newaK C.1 C.2.1 (atype := .boolean) (hts _ hw) (g := F0 m pc ls ((.int v :: rest).map (cv E))) rfl hdg rfl hv hN (Nat.le_trans (Nat.mul_le_mul_left N (by decide)) hb) hk hn rfl fun H1 cA e1 z1 o1 hAr hNm => ?_
  have hcA : cA = E.2.2.2.1 := Option.some.inj (hNm.symm.trans (hK.2 1 _ rfl).2)
  subst hcA
  have hk9 : ∀ (k : Nat) (x : Nat × va_E), (wN E cs)[k]? = some x → H1[x.1]? = H[x.1]? := fun k x hx => o1 x.1 ((hP k x hx).lt)
  have ha : H.size = eA E cs.length := by rw [hz, hE _ hln]
  have h9 := kk p e s m args below meth c H1 locs ls C (by
    rw [wN_app]
    refine (hP.kept hk9).app (fun k x hx => ?_)
    have hz9 : k < 1 := (List.getElem?_eq_some_iff.mp hx).1
    rw [show k = 0 by omega] at hx
    cases hx
    rw [ha] at e1
    exact e1) (by rw [z1, hz, List.length_append]; simp; omega) (by rw [List.length_append]; simp; omega) ⟨Nat.le_trans hS.1 (by omega), fun x h1 h2 => (o1 x (Nat.lt_of_lt_of_le h1 hS.1)).trans (hS.2.1 x h1 h2), hS.2.2⟩ hl
  rw [List.map_cons, show cv E (.ref cs.length) = .ref (eA E cs.length) from rfl, ← ha] at h9
  exact h9
theorem K_newa2 {v : Int32} {N : Nat} (hw : Cond.arrayClass .long ∈ WL) (hv : ¬ v < 0) (hN : v.toNatClampNeg = N) (hb : N * 8 ≤ 536870912) (hk : k + 1 ≤ R.cells) (hn : n + N ≤ R.slots) (hln : cs.length < 1000) (cs2 : List AC) (h2 : cs ++ [(2, N, [])] = cs2) (x : Nat) (hx : cs.length = x) (hdg : decode cc pc = .ok (.newarray .long, 2)) (kk : Kg l E B R cc nL own ret nm QQ (k + 1) (n + N) (pc + 2) (lv) (.ref x :: rest) (cs2)) : Kg l E B R cc nL own ret nm QQ (k) (n) (pc) (lv) (.int v :: rest) (cs) := by
  intro p e s m args below meth c H locs ls C hP hz hcl hS hl
  subst h2
  subst hx
  have hts := C.2.2.2.2.2.1
  have hK := C.2.2.2.2.2.2.2.1
  have hE := C.2.2.2.2.2.2.2.2.2.1
  refine va_newaK C.1 C.2.1 (atype := .long) (hts _ hw) (g := F0 m pc ls ((.int v :: rest).map (cv E))) rfl hdg rfl hv hN (Nat.le_trans (Nat.mul_le_mul_left N (by decide)) hb) hk hn rfl fun H1 cA e1 z1 o1 hAr hNm => ?_
  have hcA : cA = E.2.2.2.2.1 := Option.some.inj (hNm.symm.trans (hK.2 2 _ rfl).2)
  subst hcA
  have hk9 : ∀ (k : Nat) (x : Nat × va_E), (wN E cs)[k]? = some x → H1[x.1]? = H[x.1]? := fun k x hx => o1 x.1 ((hP k x hx).lt)
  have ha : H.size = eA E cs.length := by rw [hz, hE _ hln]
  have h9 := kk p e s m args below meth c H1 locs ls C (by
    rw [wN_app]
    refine (hP.kept hk9).app (fun k x hx => ?_)
    have hz9 : k < 1 := (List.getElem?_eq_some_iff.mp hx).1
    rw [show k = 0 by omega] at hx
    cases hx
    rw [ha] at e1
    exact e1) (by rw [z1, hz, List.length_append]; simp; omega) (by rw [List.length_append]; simp; omega) ⟨Nat.le_trans hS.1 (by omega), fun x h1 h2 => (o1 x (Nat.lt_of_lt_of_le h1 hS.1)).trans (hS.2.1 x h1 h2), hS.2.2⟩ hl
  rw [List.map_cons, show cv E (.ref cs.length) = .ref (eA E cs.length) from rfl, ← ha] at h9
  exact h9
theorem K_newq {v : Int32} {N index : Nat} (hlk : Cond.classLink own index "java/lang/String" ∈ WL) (hv : ¬ v < 0) (hN : v.toNatClampNeg = N) (hb : N * 4 ≤ 536870912) (hk : k + 1 ≤ R.cells) (hn : n + N ≤ R.slots) (hln : cs.length < 1000) (cs2 : List AC) (h2 : cs ++ [(3, N, List.replicate N .null)] = cs2) (x : Nat) (hx : cs.length = x) (hdg : decode cc pc = .ok (.anewarray index, 3)) (kk : Kg l E B R cc nL own ret nm QQ (k + 1) (n + N) (pc + 3) (lv) (.ref x :: rest) (cs2)) : Kg l E B R cc nL own ret nm QQ (k) (n) (pc) (lv) (.int v :: rest) (cs) := by
  intro p e s m args below meth c H locs ls C hP hz hcl hS hl
  subst h2
  subst hx
  subst hN
  have hts := C.2.2.2.2.2.1
  have hK := C.2.2.2.2.2.2.2.1
  have hE := C.2.2.2.2.2.2.2.2.2.1
  refine W.anew C.1 C.2.1 C.2.2.2.2.1 (hts _ hlk) (va_AO.use C.2.2.2.2.2.2.2.2.2.2.1.2.1) (g := F0 m pc ls ((.int v :: rest).map (cv E))) rfl hdg rfl hv hb hk hn fun cA kA comp f1 f2 f3 f4 => ?_
  have hcA : cA = E.2.2.2.2.2 := by
    obtain ⟨kA9, comp9, g1, g2, g3, g4⟩ := (hK.2 3 _ rfl).2
    exact Option.some.inj (f1.symm.trans g4)
  subst hcA
  generalize hH1 : H.push ({ cls := E.2.2.2.2.2, slots := Array.replicate v.toNatClampNeg .null, vm := .none } : Cell) = H1
  have z1 : H1.size = H.size + 1 := by rw [← hH1, Array.size_push]
  have e1 : H1[H.size]? = some (arrV E.2.2.2.2.2 v.toNatClampNeg (fun _ => .null)) := by rw [← hH1, Array.getElem?_push_size, ← arrV_new]
  have o1 : ∀ q : Nat, q < H.size → H1[q]? = H[q]? := fun q hq => by rw [← hH1, Array.getElem?_push, if_neg (Nat.ne_of_lt hq)]
  have hk9 : ∀ (k : Nat) (x : Nat × va_E), (wN E cs)[k]? = some x → H1[x.1]? = H[x.1]? := fun k x hx => o1 x.1 ((hP k x hx).lt)
  have ha : H.size = eA E cs.length := by rw [hz, hE _ hln]
  have h9 := kk p e s m args below meth c H1 locs ls C (by
    rw [wN_app]
    refine (hP.kept hk9).app (fun k x hx => ?_)
    have hz9 : k < 1 := (List.getElem?_eq_some_iff.mp hx).1
    rw [show k = 0 by omega] at hx
    cases hx
    rw [ha] at e1
    show H1[eA E cs.length]? = some (vp_cell _ _)
    rw [vp_cell_q, e1]
    congr 2
    funext j
    simp only
    by_cases hj : j < v.toNatClampNeg
    · rw [List.getElem?_replicate_of_lt hj]; rfl
    · rw [List.getElem?_eq_none (by simpa using hj)]; rfl) (by rw [z1, hz, List.length_append]; simp; omega) (by rw [List.length_append]; simp; omega) ⟨Nat.le_trans hS.1 (by omega), fun x h1 h2 => (o1 x (Nat.lt_of_lt_of_le h1 hS.1)).trans (hS.2.1 x h1 h2), hS.2.2⟩ hl
  rw [List.map_cons, show cv E (.ref cs.length) = .ref (eA E cs.length) from rfl, ← ha] at h9
  exact h9
theorem K_aast {a v N : Nat} {i : Int32} {vs : List Value} (hcs : cs[a]? = some (3, N, vs)) (hv : kOk v) (hi : vp_in i N) (hlv : vs.length = N) (cs2 : List AC) (h2 : cs.set a (3, N, vs.set i.toNatClampNeg (.ref v)) = cs2) (hdg : decode cc pc = .ok (.aastore, 1)) (kk : Kg l E B R cc nL own ret nm QQ (k) (n) (pc + 1) (lv) (rest) (cs2)) : Kg l E B R cc nL own ret nm QQ (k) (n) (pc) (lv) (.ref v :: .int i :: .ref a :: rest) (cs) := by
  intro p e s m args below meth c H locs ls C hP hz hcl hS hl
  subst h2
  have hK := C.2.2.2.2.2.2.2.1
  have hE := C.2.2.2.2.2.2.2.2.2.1
  have F : CFc E (fun q => B ≤ q) s s.heap := C.2.2.2.2.2.2.2.2.2.2.1.1
  have hD := wN_D (cs := cs) hE hcl
  have ha : (wN E cs)[a]? = some (eA E a, .inl (E.2.2.2.2.2, N, .inr (.inr (.inr (.inr (fun j => (vs[j]?).bind (rfO E))))))) := by rw [wN_get, hcs]; rfl
  have hlt : i.toNatClampNeg < N := Nat.not_le.mp fun q => hi (Or.inr q)
  have h0 : ¬ i < 0 := fun q => hi (Or.inl q)
  obtain ⟨i0, rfl⟩ : ∃ i0, v = 2000 + i0 := ⟨v - 2000, by have := hv.1; omega⟩
  obtain ⟨cellV, g1, g3, g4⟩ := vk_recv (adK := fun k => eA E (2000 + k)) (i := i0) F.2.2.1 (by have := hv.2; omega) hS
  obtain ⟨kC, hkC, -⟩ := Vm.findClass_spec g4
  obtain ⟨kA, comp, k1, k2, k3, -⟩ := (hK.2 3 _ rfl).2
  have hcc : comp = cellV.cls := Option.some.inj (k3.symm.trans g4)
  obtain ⟨kE, hkE, -⟩ := Vm.findClass_spec k3
  refine W.aast C.1 C.2.1 (hP a _ ha) (fun q h => by cases h) (fun h => by cases h) k1 k2 rfl hkE ⟨h0, by show _ < (arrV _ _ _).slots.size; rw [arrV_size]; exact hlt⟩ g1 (fun q h => by rw [h] at g3; cases g3) hkC (by rw [hcc]; exact Vm.assignable_self _ _) rfl rfl hdg fun H1 e9 z oq => ?_
  refine kk p e s m args below meth c H1 _ ls C ?_ (by rw [z, hz, List.length_set]) (by rw [List.length_set]; exact hcl) (hS.put z oq (hD.2 a _ ha)) hl
  rw [wN_set]
  refine hP.set hD ha ?_ oq
  show H1[eA E a]? = some (vp_cell _ _)
  rw [e9, vp_cell_q, vp_cell_q, arrV_store]
  congr 2
  funext q
  simp only
  by_cases hq : q = i.toNatClampNeg
  · subst hq
    rw [List.getElem?_set_self (by rw [hlv]; exact hlt)]
    simp [updV, rfO, va_rf]
  · rw [List.getElem?_set_ne (Ne.symm hq)]
    simp [updV, hq]
theorem K_putF {ix ci N a : Nat} {Cn : String} {T : u_T} {fs : List Value} {ty : FieldType} {v : Value} (kf : Nat) (hin : ∀ w ∈ u_ws Cn T N, w ∈ WL) (ty0 : Nat → FieldType) (hty : ∀ k, k < N → parseFieldDescriptor (T k).2.2.1 = some (ty0 k)) (hnm : ∀ a, a < N → ∀ b, b < N → a ≠ b → (T a).2.1 ≠ (T b).2.1) (hc : vwCl[ci]? = some (Cn, T, N)) (hk : kf < N) (hlk : Cond.fieldLink own ix (T kf).1 (T kf).2.1 (T kf).2.2.1 ∈ WL) (hfin : (T kf).2.2.2 = true) (hnm9 : nm) (hdecl : (T kf).1 = own) (hd : parseFieldDescriptor (T kf).2.2.1 = some ty) (hn : narrow ty (cv E v) = cv E v) (hfit : fits ty (cv E v) = true) (hcs : cs[a]? = some (4, ci, fs)) (hlf : kf < fs.length) (cs2 : List AC) (h2 : cs.set a (4, ci, fs.set kf v) = cs2) (hdg : decode cc pc = .ok (.putfield ix, 3)) (kk : Kg l E B R cc nL own ret nm QQ (k) (n) (pc + 3) (lv) (rest) (cs2)) : Kg l E B R cc nL own ret nm QQ (k) (n) (pc) (lv) (v :: .ref a :: rest) (cs) := by
  intro p e s m args below meth c H locs ls C hP hz hcl hS hl
  subst h2
  have hts := C.2.2.2.2.2.1
  have hK := C.2.2.2.2.2.2.2.1
  have hE := C.2.2.2.2.2.2.2.2.2.1
  have hD := wN_D (cs := cs) hE hcl
  have he : (wN E cs)[a]? = some (eA E a, .inr (ci, fs.map (cv E))) := by rw [wN_get, hcs]; rfl
  have hap := va_apart (own := own) hts hin ty0 hty hnm hK hc
  obtain ⟨r, h1, cell, q1, q2, q3, q4⟩ := hP a _ he
  have hr : r = (Cn, T, N) := Option.some.inj (h1.symm.trans hc)
  subst hr
  obtain ⟨hS9, hfc, kC, hkC, hkind⟩ := hK.1 ci _ hc
  obtain ⟨cf, kf9, fi, f, hi, hsl⟩ := hS9 kf hk
  have hlay := hts _ (hin _ (u_in_lay hk))
  unfold u_lay at hlay
  rw [if_pos hfin] at hlay
  have hst := (u_facts hfc hkC (u_lays hts hin hk) hi).1
  have hcf : m.cls = cf := by
    obtain ⟨_, _, c', _, _, _, -, -, hf', -, -, -, hown2, -⟩ := Cond.laysFinal_spec hlay
    have e1 : c' = cf := by have := hi.symm.trans hf'; simp at this; exact this.1.symm
    rw [hdecl] at hown2
    rw [← e1]; exact Option.some.inj (C.2.2.2.2.1.symm.trans hown2)
  have h6 := u_fits hfc hkC hkind (Or.inr hlay) hi hd hn hfit
  refine W.putFinK C.1 C.2.1 C.2.2.2.2.1 (hts _ hlk) hi hst hcf (C.2.2.2.2.2.2.2.2.2.2.2 hnm9) (by rw [q2]; exact h6) q1 q3 (by rw [hsl]; exact k2_hasslot (q4 kf hk)) rfl rfl hdg fun H' e1 e2 e3 => ?_
  rw [hsl] at e1 ⊢
  refine kk p e s m args below meth c H' _ ls C ?_ (by rw [e2, hz, List.length_set]) (by rw [List.length_set]; exact hcl) (hS.put e2 e3 (hD.2 a _ he)) hl
  rw [wN_set]
  have hm : cN E (4, ci, fs.set kf v) = .inr (ci, (fs.map (cv E)).set kf (cv E v)) := by
    show Sum.inr (ci, (fs.set kf v).map (cv E)) = _
    rw [List.map_set]
  rw [hm]
  exact hP.set hD he ⟨_, hc, t_OB.to (V := updV (vp_V (fs.map (cv E))) kf (cv E v)) ⟨_, e1, q2, q3, t_set q4 hap hk (cv E v)⟩ (fun j _ => vp_updV_set (by rw [List.length_map]; exact hlf) (cv E v) j)⟩ e3
theorem K_put {ix ci N a : Nat} {Cn : String} {T : u_T} {fs : List Value} {ty : FieldType} {v : Value} (kf : Nat) (hin : ∀ w ∈ u_ws Cn T N, w ∈ WL) (ty0 : Nat → FieldType) (hty : ∀ k, k < N → parseFieldDescriptor (T k).2.2.1 = some (ty0 k)) (hnm : ∀ a, a < N → ∀ b, b < N → a ≠ b → (T a).2.1 ≠ (T b).2.1) (hc : vwCl[ci]? = some (Cn, T, N)) (hk : kf < N) (hlk : Cond.fieldLink own ix (T kf).1 (T kf).2.1 (T kf).2.2.1 ∈ WL) (hfin : (T kf).2.2.2 = false) (hd : parseFieldDescriptor (T kf).2.2.1 = some ty) (hn : narrow ty (cv E v) = cv E v) (hfit : fits ty (cv E v) = true) (hcs : cs[a]? = some (4, ci, fs)) (hlf : kf < fs.length) (cs2 : List AC) (h2 : cs.set a (4, ci, fs.set kf v) = cs2) (hdg : decode cc pc = .ok (.putfield ix, 3)) (kk : Kg l E B R cc nL own ret nm QQ (k) (n) (pc + 3) (lv) (rest) (cs2)) : Kg l E B R cc nL own ret nm QQ (k) (n) (pc) (lv) (v :: .ref a :: rest) (cs) := by
  intro p e s m args below meth c H locs ls C hP hz hcl hS hl
  subst h2
  have hts := C.2.2.2.2.2.1
  have hK := C.2.2.2.2.2.2.2.1
  have hE := C.2.2.2.2.2.2.2.2.2.1
  have hD := wN_D (cs := cs) hE hcl
  have he : (wN E cs)[a]? = some (eA E a, .inr (ci, fs.map (cv E))) := by rw [wN_get, hcs]; rfl
  have hap := va_apart (own := own) hts hin ty0 hty hnm hK hc
  obtain ⟨r, h1, cell, q1, q2, q3, q4⟩ := hP a _ he
  have hr : r = (Cn, T, N) := Option.some.inj (h1.symm.trans hc)
  subst hr
  obtain ⟨hS9, hfc, kC, hkC, hkind⟩ := hK.1 ci _ hc
  obtain ⟨cf, kf9, fi, f, hi, hsl⟩ := hS9 kf hk
  have hlay := hts _ (hin _ (u_in_lay hk))
  unfold u_lay at hlay
  rw [if_neg (by rw [hfin]; decide)] at hlay
  have hst := (u_facts hfc hkC (u_lays hts hin hk) hi).1
  have h6 := u_store hfc hkC hkind hlay hi hd hn hfit
  refine W.putK C.1 C.2.1 (f := f) ⟨C.2.2.2.2.1, hts _ hlk, ⟨_, _, _, hi⟩, hst⟩ (by rw [q2]; exact h6) q1 q3 (by rw [hsl]; exact k2_hasslot (q4 kf hk)) rfl rfl hdg fun H' e1 e2 e3 => ?_
  rw [hsl] at e1 ⊢
  refine kk p e s m args below meth c H' _ ls C ?_ (by rw [e2, hz, List.length_set]) (by rw [List.length_set]; exact hcl) (hS.put e2 e3 (hD.2 a _ he)) hl
  rw [wN_set]
  have hm : cN E (4, ci, fs.set kf v) = .inr (ci, (fs.map (cv E)).set kf (cv E v)) := by
    show Sum.inr (ci, (fs.set kf v).map (cv E)) = _
    rw [List.map_set]
  rw [hm]
  exact hP.set hD he ⟨_, hc, t_OB.to (V := updV (vp_V (fs.map (cv E))) kf (cv E v)) ⟨_, e1, q2, q3, t_set q4 hap hk (cv E v)⟩ (fun j _ => vp_updV_set (by rw [List.length_map]; exact hlf) (cv E v) j)⟩ e3
theorem K_get {ix ci kf a : Nat} {fs : List Value} {v : Value} (hF : FL own ix ci kf) (hcs : cs[a]? = some (4, ci, fs)) (hv : fs[kf]? = some v) (hdg : decode cc pc = .ok (.getfield ix, 3)) (kk : Kg l E B R cc nL own ret nm QQ (k) (n) (pc + 3) (lv) (v :: rest) (cs)) : Kg l E B R cc nL own ret nm QQ (k) (n) (pc) (lv) (.ref a :: rest) (cs) := by
  intro p e s m args below meth c H locs ls C hP hz hcl hS hl
  have he : (wN E cs)[a]? = some (eA E a, .inr (ci, fs.map (cv E))) := by rw [wN_get, hcs]; rfl
  obtain ⟨Cn, T, N, hc, hin, hk, hT, hlk⟩ := hF
  exact va_get C.1 C.2.1 C.2.2.2.2.2.1 hin C.2.2.2.2.1 C.2.2.2.2.2.2.2.1 hP a he hc kf hk (C.2.2.2.2.2.1 _ hlk) (fun _ h => by rw [hT] at h; exact h) (by rw [List.getElem?_map, hv]; rfl) hdg (kk p e s m args below meth c H locs ls C hP hz hcl hS hl)
end KR
def BK (E : En) (B : Nat) (cs : List AC) (U : State) : Prop := U.heap.size = B + cs.length ∧ cs.length ≤ 1000 ∧ va_P E.1 vwCl (wN E cs) U.heap ∧ va_K E.1 vwCl (tyE E) U ∧ (∀ j, j < 1000 → eA E j = B + j) ∧ CFk E (fun q => B ≤ q) U U.heap
def BKo (E : En) (B : Nat) (cs : List AC) (_ : Unit) (U : State) : Prop := U.heap.size = B + cs.length ∧ cs.length ≤ 1000 ∧ va_P E.1 vwCl (wN E cs) U.heap
def QK (E : En) (B : Nat) (cs2 : List AC) (mc ms : Nat) : List Frame → Array Value → State → State → Prop := fun below args s => MQ below (va_Qv (fun _ => True) (BKo E B cs2) (fun q => B ≤ q)) args s mc ms (fun q => B ≤ q)
def CtK (l : Launch) (E : En) (B L mc ms : Nat) (y : MethodName) (cc : ByteArray) (nL : Nat) (av : List Value) (cs cs2 : List AC) : Prop := Met l y (Cond.code y cc nL none :: WL) (Rm L mc ms) (va_Pc (av.map (cv E)) (BK E B cs)) (va_Qv (fun _ => True) (BKo E B cs2) (fun q => B ≤ q)) mc ms (fun q => B ≤ q)
theorem ctK_of {l : Launch} {E : En} {B : Nat} {y : MethodName} {cc : ByteArray} {nL L mc ms : Nat} {av : List Value} {cs cs2 : List AC} (hy : plainName y.cls = true) (hi : y.name = "<init>") (hlen : (lg_sl av).length ≤ nL)
    (h : Kg l E B (Rm L mc ms) cc nL y.cls none True (QK E B cs2 mc ms) 0 0 0 (lv_args 0 av) [] cs) : CtK l E B L mc ms y cc nL av cs cs2 := by
  refine Met.ofW (cc := cc) (maxL := nL) (ret := none) hy rfl ?_
  intro p e s m args below meth c s₁ Bd hml hv
  obtain ⟨rfl, hsz, hcl, hP, hK, hE, hCF⟩ := hv
  rw [lg_entry_eq]
  have hl := lv_entry (av.map (cv E)) (n := nL) (by rw [lg_sl_cv]; exact hlen)
  rw [lv_args_cv] at hl
  exact h p e s m _ below meth c s.heap [] _ ⟨Bd.exec, Bd.bytes, Bd.returns, hml, findClass_of_methodNamed Bd.named, fun w hw => atoms_spec (ws := Cond.code y cc nL none :: WL) Bd.pre w (List.mem_cons_of_mem _ hw), Bd.notSynchronized, hK, by omega, hE, hCF, fun _ => ((name_of_methodNamed Bd.named Bd.method).1).trans hi⟩ hP hsz hcl va_S.rf hl
theorem K_retv {l : Launch} {E : En} {B : Nat} {R : Room} {cc : ByteArray} {nL : Nat} {own : String} {nm : Prop} {k n pc : Nat} {lv : List (Nat × Value)} {cs : List AC} (hdg : decode cc pc = .ok (.return_, 1)) : Kg l E B R cc nL own none nm (QK E B cs k n) k n pc lv [] cs := by
  intro p e s m args below meth c H locs ls C hP hz hcl hS hl
  exact W.vret C.1 C.2.1 C.2.2.1 (fun t ht hW => ⟨⟨(), rfl, trivial, by unfold BKo; rw [ht]; exact ⟨hz, hcl, hP⟩⟩, hS.F ht⟩) hS.2.2 hdg C.2.2.2.2.2.2.1
def MDi (y : MethodName) (cc : ByteArray) (nL n : Nat) : Prop := Cond.code y cc nL none ∈ WL ∧ Cond.instanceMethod y ∈ WL ∧ Cond.initialized y.cls ∈ WL ∧ y.name = "<init>" ∧ y.cls ≠ "java/lang/invoke/MethodHandle" ∧ y.cls ≠ "java/lang/invoke/VarHandle" ∧ (parseMethodDescriptor y.desc).map (fun d => d.parameters.length) = some n
section KCall
variable {l : Launch} {E : En} {B : Nat} {R : Room} {cc : ByteArray} {nL : Nat} {own : String} {ret : Option FieldType} {nm : Prop} {QQ : List Frame → Array Value → State → State → Prop} {k n pc : Nat} {lv : List (Nat × Value)} {stk rest : List Value} {cs cs2 : List AC} {y : MethodName} {cc' : ByteArray} {nL' n' ix L mc ms a : Nat} {As : List Value}
theorem BK_pass {p : Program} {s : State} {m : MethodId} {args : Array Value} {meth : Method} {c : Code} {H : Heap} {locs : List Loc} (C : KCx E B cc nL own ret nm p s m args meth c) (hP : va_P E.1 vwCl (wN E cs) H) (hz : H.size = B + cs.length) (hcl : cs.length ≤ 1000) (hS : va_S (fun q => B ≤ q) s.heap H locs) {U : State} (hU : U.heap = H) (hW : s.WarmedH U.vm) : BK E B cs U := by
  obtain ⟨_, _, _, _, _, _, _, hK, hB, hE, hCF, _⟩ := C
  have hok := CFk_ok E
  refine ⟨by rw [hU]; exact hz, hcl, by rw [hU]; exact hP, va_K.moved hW.alike hK, hE, ?_⟩
  rw [hU]
  exact hok.2.1 _ _ _ _ hW (hok.2.2.1 _ _ _ _ (fun a h1 h2 => hS.2.1 a h1 h2) hCF)
theorem BK_blind {av : List Value} : FrameBlind (va_Pc av (BK E B cs)) := fun a U g mk h => by
  obtain ⟨h0, h1, h2, h3, h4, h5, h6⟩ := h
  exact ⟨h0, h1, h2, h3, va_K.moved (u := U) (U := U.calling g mk a) (Vm.Alike.refl U.vm) h4, h5, (CFk_ok E).1 _ U (U.calling g mk a) _ rfl h6⟩
theorem K_cI (hM : MDi y cc' nL' n') (hlk : Cond.methodLink own ix y ∈ WL) (hn : As.length = n') (hstk : stk = As.reverse ++ .ref a :: rest) (hR : L + 1 ≤ R.frames ∧ 8 + (nL' + 11) + 64 * L ≤ R.locals) (hf : k + mc ≤ R.cells ∧ n + ms ≤ R.slots) (hW : (rest.map fun v => v.category).sum ≤ 8) (hdg : decode cc pc = .ok (.invokespecial ix, 3)) (cs3 : List AC) (h3 : cs2 = cs3)
    (hC : CtK l E B L mc ms y cc' nL' (.ref a :: As) cs cs2) (kk : Kg l E B R cc nL own ret nm QQ (k + mc) (n + ms) (pc + 3) lv rest cs3) : Kg l E B R cc nL own ret nm QQ k n pc lv stk cs := by
  subst h3
  intro p e s m args below meth c H locs ls C hP hz hcl hS hl
  obtain ⟨h1, h2, h4, h5, h6, h7, h8⟩ := hM
  have hts := C.2.2.2.2.2.1
  refine va_callv (va_runI (As := As.map (cv E)) (rest := rest.map (cv E)) (Ts := WL) ⟨C.1, C.2.1, C.2.2.2.1, C.2.2.2.2.1, hts⟩ hC (cwI n' hts (good_code h1) rfl rfl rfl (hts _ h4) (hts _ hlk) (hts _ h2) h5 ⟨h6, h7, h8⟩ hR) ⟨BK_blind, fun U hU hW => ⟨rfl, BK_pass C hP hz hcl hS hU hW⟩⟩ rfl (by rw [List.length_map]; exact hn) hl.1 (by rw [hstk, List.map_append, List.map_reverse]; rfl) (by rw [cats]; simpa using hW) hdg hf) hS (fun q _ h => h) (fun q h => h) (fun u t H1 locs1 ht hvm _ hB hz1 hk1 hS1 => ?_)
  obtain ⟨b1, b2, b3⟩ := hB
  rw [ht] at b1 b3
  exact kk p e s m args below meth c H1 locs1 ls C b3 b1 b2 hS1 hl
theorem K_cN (hM : MDi y cc' nL' n') (hlk : (own, ix, y) ∈ nestL) (hn : As.length = n') (hstk : stk = As.reverse ++ .ref a :: rest) (hR : L + 1 ≤ R.frames ∧ 8 + (nL' + 11) + 64 * L ≤ R.locals) (hf : k + mc ≤ R.cells ∧ n + ms ≤ R.slots) (hW : (rest.map fun v => v.category).sum ≤ 8) (hdg : decode cc pc = .ok (.invokespecial ix, 3)) (cs3 : List AC) (h3 : cs2 = cs3)
    (hC : CtK l E B L mc ms y cc' nL' (.ref a :: As) cs cs2) (kk : Kg l E B R cc nL own ret nm QQ (k + mc) (n + ms) (pc + 3) lv rest cs3) : Kg l E B R cc nL own ret nm QQ k n pc lv stk cs := by
  subst h3
  intro p e s m args below meth c H locs ls C hP hz hcl hS hl
  obtain ⟨h1, h2, h4, h5, h6, h7, h8⟩ := hM
  have hts := C.2.2.2.2.2.1
  have hnest := C.2.2.2.2.2.2.2.2.2.2.1.2.2 _ hlk
  refine va_callv (va_runIN (As := As.map (cv E)) (rest := rest.map (cv E)) (Ts := WL) ⟨C.1, C.2.1, C.2.2.2.1, C.2.2.2.2.1, hts⟩ hC ⟨va_cnB n' hts (good_code h1) rfl rfl rfl hnest (hts _ h4) ⟨h6, h7, h8⟩ hR, h5, hts _ h2⟩ ⟨BK_blind, fun U hU hW => ⟨rfl, BK_pass C hP hz hcl hS hU hW⟩⟩ rfl (by rw [List.length_map]; exact hn) hl.1 (by rw [hstk, List.map_append, List.map_reverse]; rfl) (by rw [cats]; simpa using hW) hdg hf) hS (fun q _ h => h) (fun q h => h) (fun u t H1 locs1 ht hvm _ hB hz1 hk1 hS1 => ?_)
  obtain ⟨b1, b2, b3⟩ := hB
  rw [ht] at b1 b3
  exact kk p e s m args below meth c H1 locs1 ls C b3 b1 b2 hS1 hl
end KCall
def wA (cs : List AC) (a : Nat) (x : AC) (ns : List AC) : List AC := cs.set a x ++ ns
theorem wA_len (cs : List AC) (a : Nat) (x : AC) (ns : List AC) : (wA cs a x ns).length = cs.length + ns.length := by simp [wA]
theorem wA_of {cs : List AC} {a : Nat} {x : AC} (h : cs[a]? = some x) : wA cs a x [] = cs := by
  unfold wA
  rw [List.append_nil]
  apply List.ext_getElem?
  intro j
  by_cases hj : a = j
  · subst hj
    rw [List.getElem?_set_self (List.getElem?_eq_some_iff.mp h).1, h]
  · rw [List.getElem?_set_ne hj]
theorem wA_this {cs : List AC} {a : Nat} (x : AC) (ns : List AC) (h : a < cs.length) : (wA cs a x ns)[a]? = some x := by
  unfold wA
  rw [List.getElem?_append_left (by simpa using h), List.getElem?_set_self h]
theorem wA_new {cs : List AC} {a N : Nat} (x : AC) (ns : List AC) (hN : cs.length = N) (j : Nat) {y : AC} (hj : ns[j]? = some y) : (wA cs a x ns)[N + j]? = some y := by
  unfold wA
  rw [List.getElem?_append_right (by simp; omega), List.length_set, ← hN, Nat.add_sub_cancel_left]
  exact hj
theorem wA_old {cs : List AC} {a i : Nat} (x : AC) (ns : List AC) (hi : i < cs.length) (hne : i ≠ a) : (wA cs a x ns)[i]? = cs[i]? := by
  unfold wA
  rw [List.getElem?_append_left (by simpa using hi), List.getElem?_set_ne (Ne.symm hne)]
theorem wA_setT {cs : List AC} {a : Nat} (x y : AC) (ns : List AC) (h : a < cs.length) : (wA cs a x ns).set a y = wA cs a y ns := by
  unfold wA
  rw [List.set_append_left _ _ (by simpa using h), List.set_set]
theorem wA_setN {cs : List AC} {a N : Nat} (x y : AC) (ns : List AC) (hN : cs.length = N) (j : Nat) : (wA cs a x ns).set (N + j) y = wA cs a x (ns.set j y) := by
  unfold wA
  rw [List.set_append_right _ _ (by simp; omega), List.length_set, ← hN, Nat.add_sub_cancel_left]
theorem wA_app {cs : List AC} {a : Nat} (x y : AC) (ns : List AC) : wA cs a x ns ++ [y] = wA cs a x (ns ++ [y]) := by
  unfold wA
  rw [List.append_assoc]
theorem wA_wA {cs : List AC} {a N : Nat} (x y : AC) (ns ms : List AC) (hN : cs.length = N) (j : Nat) : wA (wA cs a x ns) (N + j) y ms = wA cs a x (ns.set j y ++ ms) := by
  have h := wA_setN (a := a) x y ns hN j
  unfold wA at h ⊢
  rw [h, List.append_assoc]
