/-! PURE: the reference's state, read as a row of cells -/
/-- states alike but for some numbers and some int arrays -/
def Fx (I : Nat → Nat → Prop) (S : Nat → Prop) (st st2 : St) : Prop := (∀ o k, ¬ I o k → gI st2 o k = gI st o k) ∧ st2.2.1 = st.2.1 ∧ st2.2.2.2 = st.2.2.2 ∧ ∀ a, ¬ S a → gA st2 a = gA st a
section Fxs
variable {I J : Nat → Nat → Prop} {S T : Nat → Prop} {a b c : St}
theorem Fx.rf : Fx I S a a := ⟨fun _ _ _ => rfl, rfl, rfl, fun _ _ => rfl⟩
theorem Fx.tr (h1 : Fx I S a b) (h2 : Fx I S b c) : Fx I S a c := ⟨fun o k h => (h2.1 o k h).trans (h1.1 o k h), h2.2.1.trans h1.2.1, h2.2.2.1.trans h1.2.2.1, fun x hx => (h2.2.2.2 x hx).trans (h1.2.2.2 x hx)⟩
theorem Fx.wk (h : Fx I S a b) (hi : ∀ o k, I o k → J o k) (hs : ∀ x, S x → T x) : Fx J T a b := ⟨fun o k q => h.1 o k (fun z => q (hi o k z)), h.2.1, h.2.2.1, fun x hx => h.2.2.2 x (fun q => hx (hs x q))⟩
theorem Ex.fx (h : Ex S a b) : Fx I S a b := ⟨fun o k _ => h.eI o k, h.2.1, h.2.2.1, fun _ hx => h.eA hx⟩
theorem Ex.fw (h : Ex S a b) (hs : ∀ x, S x → T x) : Fx I T a b := (Ex.fx h).wk (fun _ _ q => q) hs
theorem Fx.eI (h : Fx I S a b) {o k : Nat} (q : ¬ I o k) : gI b o k = gI a o k := h.1 o k q
theorem Fx.eR (h : Fx I S a b) (o k : Nat) : gR b o k = gR a o k := by unfold gR; rw [h.2.1]
theorem Fx.eL (h : Fx I S a b) (o : Nat) : gL b o = gL a o := by unfold gL; rw [h.2.2.1]
theorem Fx.eA (h : Fx I S a b) {x : Nat} (q : ¬ S x) : gA b x = gA a x := h.2.2.2 x q
theorem Fx.sa {x : Nat} (h : S x) (j : Nat) (v : Int32) : Fx I S a (sA a x j v) := Ex.fx (Ex.sa h j v)
theorem Fx.sf {x : Nat} (h : S x) (f : Nat → Int32) : Fx I S a (sF a x f) := Ex.fx (Ex.sf h f)
theorem Fx.si {o k : Nat} (h : I o k) (v : Int32) : Fx I S a (sI a o k v) := by
  refine ⟨fun o2 k2 q => ?_, rfl, rfl, fun _ _ => rfl⟩
  show (if o2 = o ∧ k2 = k then v else _) = _
  rw [if_neg (fun e => q (by rw [e.1, e.2]; exact h))]; rfl
end Fxs
theorem gI_sI (st : St) (o k : Nat) (v : Int32) : gI (sI st o k v) o k = v := by
  show (if o = o ∧ k = k then v else _) = _
  rw [if_pos ⟨rfl, rfl⟩]
theorem gI_sI_ne {st : St} {o k o2 k2 : Nat} {v : Int32} (h : ¬ (o2 = o ∧ k2 = k)) : gI (sI st o k v) o2 k2 = gI st o2 k2 := by
  show (if o2 = o ∧ k2 = k then v else _) = _
  rw [if_neg h]; rfl
theorem gI_sA (st : St) (a j : Nat) (x : Int32) (o k : Nat) : gI (sA st a j x) o k = gI st o k := rfl
theorem gA_sI (st : St) (o k : Nat) (v : Int32) (a : Nat) : gA (sI st o k v) a = gA st a := rfl
/-- the reference's arrays (and day, dogs) in the places of a row of cells -/
def rC (nb : Nat) (dy dg : Int32) (g t o l w h le ti : Nat → Int32) (j : Nat) : Int32 :=
  if j = 0 then dy else if j = 1 then dg else if j < 38 then (if (j - 2) % 4 = 0 then g ((j - 2) / 4) else if (j - 2) % 4 = 1 then t ((j - 2) / 4) else if (j - 2) % 4 = 2 then o ((j - 2) / 4) else l ((j - 2) / 4))
  else if j < 56 then (if (j - 38) % 3 = 0 then w ((j - 38) / 3) else if (j - 38) % 3 = 1 then h ((j - 38) / 3) else if (j - 38) / 3 < nb then le ((j - 38) / 3) else 0)
  else if j < 110 then ti (j - 56) else 0
section Rc
variable {nb : Nat} {dy dg : Int32} {g t o l w h le ti : Nat → Int32}
theorem rC_g {p : Nat} (hp : p < 9) : rC nb dy dg g t o l w h le ti (2 + 4 * p) = g p := by
  unfold rC
  rw [if_neg (by omega), if_neg (by omega), if_pos (by omega), if_pos (by omega), show (2 + 4 * p - 2) / 4 = p by omega]
theorem rC_t {p : Nat} (hp : p < 9) : rC nb dy dg g t o l w h le ti (2 + 4 * p + 1) = t p := by
  unfold rC
  rw [if_neg (by omega), if_neg (by omega), if_pos (by omega), if_neg (by omega), if_pos (by omega), show (2 + 4 * p + 1 - 2) / 4 = p by omega]
theorem rC_o {p : Nat} (hp : p < 9) : rC nb dy dg g t o l w h le ti (2 + 4 * p + 2) = o p := by
  unfold rC
  rw [if_neg (by omega), if_neg (by omega), if_pos (by omega), if_neg (by omega), if_neg (by omega), if_pos (by omega), show (2 + 4 * p + 2 - 2) / 4 = p by omega]
theorem rC_l {p : Nat} (hp : p < 9) : rC nb dy dg g t o l w h le ti (2 + 4 * p + 3) = l p := by
  unfold rC
  rw [if_neg (by omega), if_neg (by omega), if_pos (by omega), if_neg (by omega), if_neg (by omega), if_neg (by omega), show (2 + 4 * p + 3 - 2) / 4 = p by omega]
theorem rC_w {b : Nat} (hb : b < 6) : rC nb dy dg g t o l w h le ti (38 + 3 * b) = w b := by
  unfold rC
  rw [if_neg (by omega), if_neg (by omega), if_neg (by omega), if_pos (by omega), if_pos (by omega), show (38 + 3 * b - 38) / 3 = b by omega]
theorem rC_h {b : Nat} (hb : b < 6) : rC nb dy dg g t o l w h le ti (38 + 3 * b + 1) = h b := by
  unfold rC
  rw [if_neg (by omega), if_neg (by omega), if_neg (by omega), if_pos (by omega), if_neg (by omega), if_pos (by omega), show (38 + 3 * b + 1 - 38) / 3 = b by omega]
theorem rC_le {b : Nat} (hb : b < nb) (h6 : b < 6) : rC nb dy dg g t o l w h le ti (38 + 3 * b + 2) = le b := by
  unfold rC
  rw [if_neg (by omega), if_neg (by omega), if_neg (by omega), if_pos (by omega), if_neg (by omega), if_neg (by omega), if_pos (by omega), show (38 + 3 * b + 2 - 38) / 3 = b by omega]
theorem rC_ti {k : Nat} (hk : k < 54) : rC nb dy dg g t o l w h le ti (56 + k) = ti k := by
  unfold rC
  rw [if_neg (by omega), if_neg (by omega), if_neg (by omega), if_neg (by omega), if_pos (by omega), show 56 + k - 56 = k by omega]
theorem rC_t2 {p b : Nat} (hp : p < 9) (hb : b < 6) : rC nb dy dg g t o l w h le ti (56 + 6 * p + b) = ti (6 * p + b) := by
  rw [show 56 + 6 * p + b = 56 + (6 * p + b) by omega]; exact rC_ti (by omega)
theorem rC_0 : rC nb dy dg g t o l w h le ti 0 = dy := rfl
theorem rC_1 : rC nb dy dg g t o l w h le ti 1 = dg := rfl
theorem updq (f : Nat → Int32) (j k : Nat) (x : Int32) : upd f j x k = if k = j then x else f k := rfl
theorem rC_ug {p : Nat} {x : Int32} (hp : p < 9) : rC nb dy dg (upd g p x) t o l w h le ti = upd (rC nb dy dg g t o l w h le ti) (2 + 4 * p) x := by
  funext j
  simp only [updq, rC]
  repeat' split
  all_goals first | rfl | (exfalso; omega)
theorem rC_ut {p : Nat} {x : Int32} (hp : p < 9) : rC nb dy dg g (upd t p x) o l w h le ti = upd (rC nb dy dg g t o l w h le ti) (2 + 4 * p + 1) x := by
  funext j
  simp only [updq, rC]
  repeat' split
  all_goals first | rfl | (exfalso; omega)
theorem rC_uo {p : Nat} {x : Int32} (hp : p < 9) : rC nb dy dg g t (upd o p x) l w h le ti = upd (rC nb dy dg g t o l w h le ti) (2 + 4 * p + 2) x := by
  funext j
  simp only [updq, rC]
  repeat' split
  all_goals first | rfl | (exfalso; omega)
theorem rC_ul {p : Nat} {x : Int32} (hp : p < 9) : rC nb dy dg g t o (upd l p x) w h le ti = upd (rC nb dy dg g t o l w h le ti) (2 + 4 * p + 3) x := by
  funext j
  simp only [updq, rC]
  repeat' split
  all_goals first | rfl | (exfalso; omega)
theorem rC_uw {b : Nat} {x : Int32} (hp : b < 6) : rC nb dy dg g t o l (upd w b x) h le ti = upd (rC nb dy dg g t o l w h le ti) (38 + 3 * b) x := by
  funext j
  simp only [updq, rC]
  repeat' split
  all_goals first | rfl | (exfalso; omega)
theorem rC_uh {b : Nat} {x : Int32} (hp : b < 6) : rC nb dy dg g t o l w (upd h b x) le ti = upd (rC nb dy dg g t o l w h le ti) (38 + 3 * b + 1) x := by
  funext j
  simp only [updq, rC]
  repeat' split
  all_goals first | rfl | (exfalso; omega)
theorem rC_ule {b : Nat} {x : Int32} (hp : b < nb ∧ b < 6) : rC nb dy dg g t o l w h (upd le b x) ti = upd (rC nb dy dg g t o l w h le ti) (38 + 3 * b + 2) x := by
  funext j
  simp only [updq, rC]
  repeat' split
  all_goals first | rfl | (exfalso; omega)
theorem rC_uti {k : Nat} {x : Int32} (hp : k < 54) : rC nb dy dg g t o l w h le (upd ti k x) = upd (rC nb dy dg g t o l w h le ti) (56 + k) x := by
  funext j
  simp only [updq, rC]
  repeat' split
  all_goals first | rfl | (exfalso; omega)
theorem rC_ud {x : Int32} : rC nb x dg g t o l w h le ti = upd (rC nb dy dg g t o l w h le ti) 0 x := by
  funext j
  simp only [updq, rC]
  repeat' split
  all_goals first | rfl | (exfalso; omega)
theorem rC_uk {x : Int32} : rC nb dy x g t o l w h le ti = upd (rC nb dy dg g t o l w h le ti) 1 x := by
  funext j
  simp only [updq, rC]
  repeat' split
  all_goals first | rfl | (exfalso; omega)
end Rc
/-- the reference's dale as it stands -/
def mC (nb : Nat) (st : St) : Nat → Int32 := rC nb (gI st 58 36) (gI st 58 37) (gA st 73) (gA st 74) (gA st 75) (gA st 76) (gA st 77) (gA st 78) (gA st 79) (gA st 80)
/-- the arrays that make it -/
def isM (a : Nat) : Prop := 73 ≤ a ∧ a ≤ 80
theorem mC_fx {I : Nat → Nat → Prop} {S : Nat → Prop} {a b : St} (h : Fx I S a b) (h1 : ¬ I 58 36) (h2 : ¬ I 58 37) (hS : ∀ x, S x → ¬ isM x) (nb : Nat) : mC nb b = mC nb a := by
  have key : ∀ x, 73 ≤ x → x ≤ 80 → gA b x = gA a x := fun x q1 q2 => h.eA (fun z => hS x z ⟨q1, q2⟩)
  unfold mC
  rw [h.eI h1, h.eI h2, key 73 (by decide) (by decide), key 74 (by decide) (by decide), key 75 (by decide) (by decide), key 76 (by decide) (by decide), key 77 (by decide) (by decide), key 78 (by decide) (by decide), key 79 (by decide) (by decide), key 80 (by decide) (by decide)]
