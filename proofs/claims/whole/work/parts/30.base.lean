/-! PURE: numbers, loops, frames; no machine from here on -/
def iN (n : Nat) : Int32 := Int32.ofNat n
theorem iN_toInt {n : Nat} (h : n < 2147483648) : (iN n).toInt = n := Int32.toInt_ofNat_of_lt h
theorem iN_cl {n : Nat} (h : n < 2147483648) : (iN n).toNatClampNeg = n := by
  show (iN n).toInt.toNat = n
  rw [iN_toInt h]; omega
theorem iN_add (a b : Nat) : iN (a + b) = iN a + iN b := Int32.ofNat_add a b
theorem iN_mul (a b : Nat) : iN (a * b) = iN a * iN b := Int32.ofNat_mul a b
theorem iN_s (n : Nat) : iN n + 1 = iN (n + 1) := (iN_add n 1).symm
theorem iN_lt {a b : Nat} (ha : a < 2147483648) (hb : b < 2147483648) : iN a < iN b ↔ a < b := by
  rw [Int32.lt_iff_toInt_lt, iN_toInt ha, iN_toInt hb]; omega
theorem iN_le {a b : Nat} (ha : a < 2147483648) (hb : b < 2147483648) : iN a ≤ iN b ↔ a ≤ b := by
  rw [Int32.le_iff_toInt_le, iN_toInt ha, iN_toInt hb]; omega
theorem iN_eq {a b : Nat} (ha : a < 2147483648) (hb : b < 2147483648) : iN a = iN b ↔ a = b := by
  constructor
  · intro h
    have := congrArg Int32.toInt h
    rw [iN_toInt ha, iN_toInt hb] at this; omega
  · intro h; rw [h]
theorem iN_vp {j n : Nat} (h : j < n) (hn : n < 2147483648) : vp_in (iN j) n := by
  unfold vp_in
  rw [iN_cl (by omega)]
  rintro (h1 | h1)
  · have h2 : iN j < iN 0 := h1
    rw [iN_lt (by omega) (by omega)] at h2; omega
  · omega
theorem nn_iN {x : Int32} (h : ¬ x < 0) : x = iN x.toNatClampNeg ∧ x.toNatClampNeg < 2147483648 := by
  have h1 : 0 ≤ x.toInt := by
    have h2 : (0 : Int32) ≤ x := Int32.not_lt.mp h
    rw [Int32.le_iff_toInt_le] at h2
    exact h2
  have h3 : x.toInt < 2147483648 := Int32.toInt_lt x
  have h4 : x.toNatClampNeg = x.toInt.toNat := rfl
  refine ⟨?_, by omega⟩
  apply Int32.toInt_inj.mp
  rw [iN_toInt (by omega), h4]; omega
/-- a loop from 0 on -/
def lp {α : Type} (f : Nat → α → α) (a : α) : Nat → α
  | 0 => a
  | n + 1 => f n (lp f a n)
/-- a loop of the machine that goes up to N, with what stands at each turn -/
theorem loop_up {α : Type} {P : Nat → Int32 → α → St → Prop} {N : Nat} (J : Nat → α → St → Prop)
    (hstep : ∀ i, i < N → ∀ a st n, J i a st → (∀ a' st', J (i + 1) a' st' → P n (iN (i + 1)) a' st') → P (n + 1) (iN i) a st)
    (hend : ∀ a st n, J N a st → P (n + 1) (iN N) a st) :
    ∀ (r i : Nat) (a : α) (st : St), i + r = N → J i a st → P (r + 1) (iN i) a st := by
  intro r
  induction r with
  | zero =>
    intro i a st hi hJ
    have : i = N := by omega
    subst this
    exact hend a st 0 hJ
  | succ r ih =>
    intro i a st hi hJ
    exact hstep i (by omega) a st (r + 1) hJ (fun a' st' h' => ih (i + 1) a' st' (by omega) h')
/-- states that are alike but for some int arrays -/
def Ex (S : Nat → Prop) (st st2 : St) : Prop := st2.1 = st.1 ∧ st2.2.1 = st.2.1 ∧ st2.2.2.2 = st.2.2.2 ∧ ∀ a, ¬ S a → st2.2.2.1 a = st.2.2.1 a
theorem Ex.rf {S : Nat → Prop} {st : St} : Ex S st st := ⟨rfl, rfl, rfl, fun _ _ => rfl⟩
theorem Ex.tr {S : Nat → Prop} {a b c : St} (h1 : Ex S a b) (h2 : Ex S b c) : Ex S a c := ⟨h2.1.trans h1.1, h2.2.1.trans h1.2.1, h2.2.2.1.trans h1.2.2.1, fun x hx => (h2.2.2.2 x hx).trans (h1.2.2.2 x hx)⟩
theorem Ex.wk {S S2 : Nat → Prop} {a b : St} (h : Ex S a b) (hs : ∀ x, S x → S2 x) : Ex S2 a b := ⟨h.1, h.2.1, h.2.2.1, fun x hx => h.2.2.2 x (fun q => hx (hs x q))⟩
theorem Ex.eI {S : Nat → Prop} {a b : St} (h : Ex S a b) (o k : Nat) : gI b o k = gI a o k := by unfold gI; rw [h.1]
theorem Ex.eR {S : Nat → Prop} {a b : St} (h : Ex S a b) (o k : Nat) : gR b o k = gR a o k := by unfold gR; rw [h.2.1]
theorem Ex.eL {S : Nat → Prop} {a b : St} (h : Ex S a b) (o : Nat) : gL b o = gL a o := by unfold gL; rw [h.2.2.1]
theorem Ex.eA {S : Nat → Prop} {a b : St} (h : Ex S a b) {x : Nat} (hx : ¬ S x) : gA b x = gA a x := h.2.2.2 x hx
theorem Ex.sa {S : Nat → Prop} {st : St} {a : Nat} (h : S a) (j : Nat) (x : Int32) : Ex S st (sA st a j x) := by
  refine ⟨rfl, rfl, rfl, fun b hb => ?_⟩
  show (if b = a then _ else _) = _
  rw [if_neg (fun e : b = a => hb (by rw [e]; exact h))]
theorem Ex.sf {S : Nat → Prop} {st : St} {a : Nat} (h : S a) (f : Nat → Int32) : Ex S st (sF st a f) := by
  refine ⟨rfl, rfl, rfl, fun b hb => ?_⟩
  show (if b = a then _ else _) = _
  rw [if_neg (fun e : b = a => hb (by rw [e]; exact h))]
theorem gA_sA (st : St) (a j : Nat) (x : Int32) : gA (sA st a j x) a = upd (gA st a) j x := by
  show (if a = a then _ else _) = _
  rw [if_pos rfl]
theorem gA_sA_ne {st : St} {a b j : Nat} {x : Int32} (h : b ≠ a) : gA (sA st a j x) b = gA st b := by
  show (if b = a then _ else _) = _
  rw [if_neg h]; rfl
theorem gA_sF (st : St) (a : Nat) (f : Nat → Int32) : gA (sF st a f) a = f := by
  show (if a = a then _ else _) = _
  rw [if_pos rfl]
theorem gA_sF_ne {st : St} {a b : Nat} {f : Nat → Int32} (h : b ≠ a) : gA (sF st a f) b = gA st b := by
  show (if b = a then _ else _) = _
  rw [if_neg h]; rfl
theorem upd_same (f : Nat → Int32) (j : Nat) (x : Int32) : upd f j x j = x := by simp [upd]
theorem upd_ne {f : Nat → Int32} {j k : Nat} {x : Int32} (h : k ≠ j) : upd f j x k = f k := by simp [upd, h]
/-! the table's children -/
def ch (o k : Nat) : Nat := (tbe o).2.2.getD k 0 - 2
theorem rv_of {st : St} {o c k r : Nat} (h : fk o c k = some (r + 2)) : rv st o c k = some r := by unfold rv; rw [h]
theorem rv_ch {st : St} {o c k : Nat} (h : fk o c k = some 1) : rv st o c k = gR st o k := by unfold rv; rw [h]
def isDa (d : Nat) : Prop := d = 3 ∨ d = 17 ∨ d = 30
def isPl (p : Nat) : Prop := p = 40 ∨ p = 48
def isRu (r : Nat) : Prop := r = 42 ∨ r = 45 ∨ r = 50 ∨ r = 53
theorem da_o {d : Nat} (hd : isDa d) : oC d 2 := by rcases hd with rfl | rfl | rfl <;> exact ⟨_, rfl⟩
theorem da_f {d : Nat} (hd : isDa d) : fk d 2 0 = some 1 := by rcases hd with rfl | rfl | rfl <;> rfl
theorem da_p {d : Nat} (hd : isDa d) (st : St) : rv st d 2 0 = gR st d 0 := rv_ch (da_f hd)
theorem da_c {d : Nat} (hd : isDa d) (st : St) : rv st d 2 1 = some (ch d 1) := by rcases hd with rfl | rfl | rfl <;> rfl
theorem da_v {d : Nat} (hd : isDa d) (st : St) : rv st d 2 2 = some (ch d 2) := by rcases hd with rfl | rfl | rfl <;> rfl
theorem da_w {d : Nat} (hd : isDa d) (st : St) : rv st d 2 3 = some (ch d 3) := by rcases hd with rfl | rfl | rfl <;> rfl
theorem da_ac {d : Nat} (hd : isDa d) : al 0 (ch d 1) = 110 := by rcases hd with rfl | rfl | rfl <;> rfl
theorem da_av {d : Nat} (hd : isDa d) : al 0 (ch d 2) = 8 := by rcases hd with rfl | rfl | rfl <;> rfl
theorem da_aw {d : Nat} (hd : isDa d) : al 0 (ch d 3) = 6 := by rcases hd with rfl | rfl | rfl <;> rfl
theorem pl_o {p : Nat} (hp : isPl p) : oC p 3 := by rcases hp with rfl | rfl <;> exact ⟨_, rfl⟩
theorem pl_0 {p : Nat} (hp : isPl p) : fk p 3 0 = some 0 := by rcases hp with rfl | rfl <;> rfl
theorem pl_1 {p : Nat} (hp : isPl p) : fk p 3 1 = some 0 := by rcases hp with rfl | rfl <;> rfl
theorem pl_k {p : Nat} (hp : isPl p) (st : St) : rv st p 3 2 = some (ch p 2) := by rcases hp with rfl | rfl <;> rfl
theorem pl_w {p : Nat} (hp : isPl p) (st : St) : rv st p 3 3 = some (ch p 3) := by rcases hp with rfl | rfl <;> rfl
theorem pl_m {p : Nat} (hp : isPl p) (st : St) : rv st p 3 4 = some (ch p 4) := by rcases hp with rfl | rfl <;> rfl
theorem pl_ak {p : Nat} (hp : isPl p) : al 0 (ch p 2) = 9 := by rcases hp with rfl | rfl <;> rfl
theorem pl_rw {p : Nat} (hp : isPl p) : isRu (ch p 3) := by rcases hp with rfl | rfl <;> unfold isRu <;> decide
theorem pl_rm {p : Nat} (hp : isPl p) : isRu (ch p 4) := by rcases hp with rfl | rfl <;> unfold isRu <;> decide
theorem ru_o {r : Nat} (hr : isRu r) : oC r 5 := by rcases hr with rfl | rfl | rfl | rfl <;> exact ⟨_, rfl⟩
theorem ru_0 {r : Nat} (hr : isRu r) : fk r 5 0 = some 0 := by rcases hr with rfl | rfl | rfl | rfl <;> rfl
theorem ru_2 {r : Nat} (hr : isRu r) : fk r 5 2 = some 0 := by rcases hr with rfl | rfl | rfl | rfl <;> rfl
theorem ru_w {r : Nat} (hr : isRu r) (st : St) : rv st r 5 1 = some (ch r 1) := by rcases hr with rfl | rfl | rfl | rfl <;> rfl
theorem ru_s {r : Nat} (hr : isRu r) (st : St) : rv st r 5 3 = some (ch r 3) := by rcases hr with rfl | rfl | rfl | rfl <;> rfl
theorem ru_aw {r : Nat} (hr : isRu r) : al 0 (ch r 1) = 700 := by rcases hr with rfl | rfl | rfl | rfl <;> rfl
theorem ru_as {r : Nat} (hr : isRu r) : al 0 (ch r 3) = 40 := by rcases hr with rfl | rfl | rfl | rfl <;> rfl
/-- scratch: a dale's values, the rules' stacks -/
def ScV (d a : Nat) : Prop := a = ch d 2 ∨ al 0 a = 40
theorem scv_c {d : Nat} (hd : isDa d) {e : Nat} (he : isDa e) : ¬ ScV d (ch e 1) := by
  rcases hd with rfl | rfl | rfl <;> rcases he with rfl | rfl | rfl <;> unfold ScV <;> decide
theorem scv_w {d : Nat} (hd : isDa d) {e : Nat} (he : isDa e) : ¬ ScV d (ch e 3) := by
  rcases hd with rfl | rfl | rfl <;> rcases he with rfl | rfl | rfl <;> unfold ScV <;> decide
theorem scv_k {d : Nat} (hd : isDa d) {p : Nat} (hp : isPl p) : ¬ ScV d (ch p 2) := by
  rcases hd with rfl | rfl | rfl <;> rcases hp with rfl | rfl <;> unfold ScV <;> decide
theorem scv_r {d : Nat} (hd : isDa d) {r : Nat} (hr : isRu r) : ¬ ScV d (ch r 1) := by
  rcases hd with rfl | rfl | rfl <;> rcases hr with rfl | rfl | rfl | rfl <;> unfold ScV <;> decide
/-! the places of a row of cells -/
theorem x_g (p k : Nat) : (2 + (iN p * 4)) + iN k = iN (2 + 4 * p + k) := by rw [iN_add, iN_add, iN_mul, Int32.mul_comm]; rfl
theorem x_b (b k : Nat) : (38 + (iN b * 3)) + iN k = iN (38 + 3 * b + k) := by rw [iN_add, iN_add, iN_mul, Int32.mul_comm]; rfl
theorem x_t (p b : Nat) : (56 + (iN p * 6)) + iN b = iN (56 + 6 * p + b) := by rw [iN_add, iN_add, iN_mul, Int32.mul_comm]; rfl
