/-! PURE: what stands between the calls -/
/-- a book: cells; acts (how many, their rows); what is seen (how many; bride, days, one, other, more); refused -/
abbrev Bk : Type := (Nat → Int32) × (Nat × (Nat → Nat → Int32)) × (Nat × (Nat → Nat → Int32)) × (Nat → Int32)
def nrm (f : Nat → Int32) : Nat → Int32 := fun j => if j < 110 then f j else 0
def rowC (nb : Nat) (r : Nat → Int32) : Nat → Int32 := rC nb (r 0) (r 1) (fun p => r (2 + p)) (fun p => r (11 + p)) (fun p => r (20 + p)) (fun p => r (29 + p)) (fun b => r (38 + b)) (fun b => r (44 + b)) (fun b => r (50 + b)) (fun k => r (56 + k))
def mseN (k : Nat) : Nat := [88, 89, 90, 91, 93].getD k 0
def mseT (k : Nat) : Nat := [100, 101, 102, 103, 105].getD k 0
def AcC (st : St) (o : Nat) (n : Nat) (ar : Nat → Nat → Int32) : Prop := ∃ f, f < 40 ∧ gI st (7 + o) 1 = iN f ∧ gI st (7 + o) 2 = iN n ∧ ∀ k, k < n → nrm (fun j => gA st (8 + o) (((f + k) % 40) * 110 + j)) = ar k
def BkC (st : St) (o : Nat) (v : Bk) : Prop := gA st (4 + o) = v.1 ∧ AcC st o v.2.1.1 v.2.1.2 ∧ gI st (9 + o) 5 = iN v.2.2.1.1 ∧ (∀ i, i < v.2.2.1.1 → ∀ k, k < 5 → gA st (10 + o + k) i = v.2.2.1.2 i k) ∧ ∀ k, k < 3 → gA st (15 + o) k = v.2.2.2 k
def BkM (st : St) (nb : Nat) (v : Bk) : Prop := mC nb st = v.1 ∧ gI st 58 38 = iN v.2.1.1 ∧ (∀ k, k < v.2.1.1 → rowC nb (fun i => gA st 81 (110 * k + i)) = v.2.1.2 k) ∧ gI st 58 39 = iN v.2.2.1.1 ∧ (∀ i, i < v.2.2.1.1 → ∀ k, k < 5 → gA st (mseN k) i = v.2.2.1.2 i k) ∧ ∀ k, k < 3 → gA st 71 k = v.2.2.2 k
def BkT (st : St) (nb : Nat) (v : Bk) : Prop := rowC nb (gA st 98) = v.1 ∧ gI st 58 59 = iN v.2.1.1 ∧ (∀ k, k < v.2.1.1 → rowC nb (fun i => gA st 99 (110 * k + i)) = v.2.1.2 k) ∧ gI st 58 60 = iN v.2.2.1.1 ∧ (∀ i, i < v.2.2.1.1 → ∀ k, k < 5 → gA st (mseT k) i = v.2.2.1.2 i k) ∧ ∀ k, k < 3 → gA st 104 k = v.2.2.2 k
def CB (q : PD) (c : Nat → Int32) : Prop := CI q c ∧ (∀ j, 110 ≤ j → c j = 0) ∧ (∃ n, n ≤ 999 ∧ c 0 = iN n) ∧ (∀ b, b < q.2.1 → 0 ≤ c (38 + 3 * b)) ∧ ∀ b, b < q.2.1 → c (38 + 3 * b + 1) = 1 → c 0 ≤ c (38 + 3 * b)
def SeOk (q : PD) (e : Nat → Int32) : Prop := (∃ b, b < q.2.1 ∧ e 0 = iN b) ∧ (∃ n, n ≤ 20 ∧ e 1 = iN n) ∧ (∃ p, p < q.1 ∧ e 2 = iN p) ∧ (∃ p, p < q.1 ∧ e 3 = iN p) ∧ (e 4 = 0 ∨ e 4 = 1)
def BkOk (q : PD) (v : Bk) : Prop := CB q v.1 ∧ v.2.1.1 ≤ 40 ∧ (∀ k, k < v.2.1.1 → CB q (v.2.1.2 k)) ∧ v.2.2.1.1 ≤ 8 ∧ ∀ i, i < v.2.2.1.1 → SeOk q (v.2.2.1.2 i)
/-- all that the answers hang on: plan, book, image, tape, place of a fault -/
abbrev AV : Type := PD × Bk × Option Bk × (Nat × (Nat → Int32)) × Int32
def AvOk (v : AV) : Prop := PDok v.1 ∧ okM v.1.2.2.2.2 ∧ BkOk v.1 v.2.1 ∧ (∀ w, v.2.2.1 = some w → BkOk v.1 w) ∧ v.2.2.2.1.1 ≤ 700 ∧ ∀ j, j < v.2.2.2.1.1 → ∃ k, k < 256 ∧ v.2.2.2.1.2 j = iN k
def InvC (st : St) (v : AV) : Prop := ∃ p p', DSt st 3 p v.1 ∧ isPl p' ∧ p' ≠ p ∧ gR st 0 3 = some p' ∧ (∃ pt, isPl pt ∧ gR st 30 0 = some pt) ∧ (∃ pp, isPl pp ∧ gR st 17 0 = some pp ∧ ∀ j, 110 ≤ j → gA st 18 j = 0) ∧ BkC st 0 v.2.1 ∧ (v.2.2.1 = none → gI st 0 6 = 0) ∧ (∀ w, v.2.2.1 = some w → gI st 0 6 = 1 ∧ gR st 17 0 = some p ∧ BkC st 14 w) ∧ gI st 0 1 = iN v.2.2.2.1.1 ∧ (∀ j, j < v.2.2.2.1.1 → gA st 1 j = v.2.2.2.1.2 j) ∧ gI st 0 2 = v.2.2.2.2
def Bo (st : St) : Prop := ∀ j, j < 8 → (gA st 93 j = 0 ∨ gA st 93 j = 1) ∧ (gA st 105 j = 0 ∨ gA st 105 j = 1)
theorem Bo.cg {a b : St} (h : Bo a) (h1 : gA b 93 = gA a 93) (h2 : gA b 105 = gA a 105) : Bo b := by unfold Bo at h ⊢; rw [h1, h2]; exact h
def InvM (st : St) (v : AV) : Prop := MPl st v.1 ∧ BkM st v.1.2.1 v.2.1 ∧ (v.2.2.1 = none → gI st 58 58 = 0) ∧ (∀ w, v.2.2.1 = some w → gI st 58 58 = 1 ∧ BkT st v.1.2.1 w) ∧ gI st 58 16 = iN v.2.2.2.1.1 ∧ (∀ j, j < v.2.2.2.1.1 → gA st 72 j = v.2.2.2.1.2 j) ∧ gI st 58 25 = v.2.2.2.2 ∧ Bo st
def Inv (st : St) : Prop := ∃ v, InvC st v ∧ InvM st v ∧ AvOk v
/-- what the class leaves alone; what the reference leaves alone -/
def CFr (a b : St) : Prop := (∀ o k, 58 ≤ o → gI b o k = gI a o k) ∧ (∀ o k, 58 ≤ o → gR b o k = gR a o k) ∧ ∀ x, 58 ≤ x → gA b x = gA a x
def MFr (a b : St) : Prop := (∀ o k, o < 58 → gI b o k = gI a o k) ∧ (∀ o k, o < 58 → gR b o k = gR a o k) ∧ (∀ x, x < 58 → gA b x = gA a x) ∧ ∀ x, gL b x = gL a x
theorem CFr.rf {a : St} : CFr a a := ⟨fun _ _ _ => rfl, fun _ _ _ => rfl, fun _ _ => rfl⟩
theorem CFr.tr {a b c : St} (h1 : CFr a b) (h2 : CFr b c) : CFr a c := ⟨fun o k h => (h2.1 o k h).trans (h1.1 o k h), fun o k h => (h2.2.1 o k h).trans (h1.2.1 o k h), fun x h => (h2.2.2 x h).trans (h1.2.2 x h)⟩
theorem MFr.rf {a : St} : MFr a a := ⟨fun _ _ _ => rfl, fun _ _ _ => rfl, fun _ _ => rfl, fun _ => rfl⟩
theorem MFr.tr {a b c : St} (h1 : MFr a b) (h2 : MFr b c) : MFr a c := ⟨fun o k h => (h2.1 o k h).trans (h1.1 o k h), fun o k h => (h2.2.1 o k h).trans (h1.2.1 o k h), fun x h => (h2.2.2.1 x h).trans (h1.2.2.1 x h), fun x => (h2.2.2.2 x).trans (h1.2.2.2 x)⟩
theorem CFr.sL {a : St} (x j : Nat) (y : Int64) : CFr a (sL a x j y) := ⟨fun _ _ _ => rfl, fun _ _ _ => rfl, fun _ _ => rfl⟩
theorem Fx.cfr {I : Nat → Nat → Prop} {S : Nat → Prop} {a b : St} (h : Fx I S a b) (hi : ∀ o k, I o k → o < 58) (hs : ∀ x, S x → x < 58) : CFr a b := ⟨fun o k q => h.eI (fun z => by have := hi o k z; omega), fun o k _ => h.eR o k, fun x q => h.eA (fun z => by have := hs x z; omega)⟩
theorem Fx.mfr {I : Nat → Nat → Prop} {S : Nat → Prop} {a b : St} (h : Fx I S a b) (hi : ∀ o k, I o k → 58 ≤ o) (hs : ∀ x, S x → 58 ≤ x) : MFr a b := ⟨fun o k q => h.eI (fun z => by have := hi o k z; omega), fun o k _ => h.eR o k, fun x q => h.eA (fun z => by have := hs x z; omega), fun x => h.eL x⟩
theorem isPl_lt {p : Nat} (h : isPl p) : p < 58 ∧ ch p 2 < 58 ∧ ch p 3 < 58 ∧ ch p 4 < 58 ∧ ch (ch p 3) 1 < 58 ∧ ch (ch p 4) 1 < 58 := by rcases h with rfl | rfl <;> decide
theorem DSt.mfr {a b : St} (h : MFr a b) {d p : Nat} {q : PD} (D : DSt a d p q) : DSt b d p q := by
  obtain ⟨h1, h2, h3, h4, h5, h6, h7, h8, h9⟩ := D
  obtain ⟨l1, l2, l3, l4, l5, l6⟩ := isPl_lt h2
  have hd : d < 58 := by rcases h1 with rfl | rfl | rfl <;> decide
  have e : pdOf b p = pdOf a p := by
    unfold pdOf rlOf
    rw [h.1 _ _ l1, h.1 _ _ l1, h.1 _ _ l3, h.1 _ _ l3, h.1 _ _ l4, h.1 _ _ l4, h.2.2.1 _ l2, h.2.2.1 _ l5, h.2.2.1 _ l6]
  exact ⟨h1, h2, by rw [h.2.1 _ _ hd]; exact h3, e.trans h4, by rw [h.1 _ _ l1]; exact h5, by rw [h.1 _ _ l1]; exact h6, by rw [h.1 _ _ l3]; exact h7, by rw [h.1 _ _ l4]; exact h8, h9⟩
theorem BkC.mfr {a b : St} (h : MFr a b) {o : Nat} (ho : o = 0 ∨ o = 14) {v : Bk} (B : BkC a o v) : BkC b o v := by
  obtain ⟨h1, ⟨f, f1, f2, f3, f4⟩, h3, h4, h5⟩ := B
  have l : o ≤ 14 := by rcases ho with rfl | rfl <;> decide
  refine ⟨by rw [h.2.2.1 _ (by omega)]; exact h1, ⟨f, f1, by rw [h.1 _ _ (by omega)]; exact f2, by rw [h.1 _ _ (by omega)]; exact f3, fun k hk => ?_⟩, by rw [h.1 _ _ (by omega)]; exact h3, fun i hi k hk => ?_, fun k hk => ?_⟩
  · rw [h.2.2.1 _ (by omega)]; exact f4 k hk
  · rw [h.2.2.1 _ (by omega)]; exact h4 i hi k hk
  · rw [h.2.2.1 _ (by omega)]; exact h5 k hk
theorem InvC.mfr {a b : St} (h : MFr a b) {v : AV} (H : InvC a v) : InvC b v := by
  obtain ⟨p, p', h1, h2, h3, h4, ⟨pt, h5, h5'⟩, ⟨pp, h6, h6'⟩, h7, h8, h9, h10, h11, h12⟩ := H
  refine ⟨p, p', h1.mfr h, h2, h3, by rw [h.2.1 _ _ (by decide)]; exact h4, ⟨pt, h5, by rw [h.2.1 _ _ (by decide)]; exact h5'⟩, ⟨pp, h6, by rw [h.2.1 _ _ (by decide)]; exact h6'.1, by rw [h.2.2.1 _ (by decide)]; exact h6'.2⟩, h7.mfr h (Or.inl rfl), fun e => by rw [h.1 _ _ (by decide)]; exact h8 e, fun w e => ?_, by rw [h.1 _ _ (by decide)]; exact h10, fun j hj => by rw [h.2.2.1 _ (by decide)]; exact h11 j hj, by rw [h.1 _ _ (by decide)]; exact h12⟩
  obtain ⟨q1, q2, q3⟩ := h9 w e
  exact ⟨by rw [h.1 _ _ (by decide)]; exact q1, by rw [h.2.1 _ _ (by decide)]; exact q2, q3.mfr h (Or.inr rfl)⟩
theorem mseN_ge : ∀ k, k < 5 → 58 ≤ mseN k := by decide
theorem mseT_ge : ∀ k, k < 5 → 58 ≤ mseT k := by decide
theorem InvM.cfr {a b : St} (h : CFr a b) {v : AV} (H : InvM a v) : InvM b v := by
  obtain ⟨h1, ⟨b1, b2, b3, b4, b5, b6⟩, h3, h4, h5, h6, h7⟩ := H
  have eA : ∀ x, 58 ≤ x → gA b x = gA a x := h.2.2
  have eI : ∀ k, gI b 58 k = gI a 58 k := fun k => h.1 58 k (Nat.le_refl _)
  have m : ∀ nb, mC nb b = mC nb a := fun nb => by
    unfold mC
    rw [eI, eI, eA 73 (by decide), eA 74 (by decide), eA 75 (by decide), eA 76 (by decide), eA 77 (by decide), eA 78 (by decide), eA 79 (by decide), eA 80 (by decide)]
  refine ⟨?_, ⟨(m _).trans b1, by rw [eI]; exact b2, fun k hk => by rw [eA 81 (by decide)]; exact b3 k hk, by rw [eI]; exact b4, fun i hi k hk => by rw [eA _ (mseN_ge k hk)]; exact b5 i hi k hk, fun k hk => by rw [eA 71 (by decide)]; exact b6 k hk⟩, fun e => by rw [eI]; exact h3 e, fun w e => ?_, by rw [eI]; exact h5, fun j hj => by rw [eA 72 (by decide)]; exact h6 j hj, by rw [eI]; exact h7.1, h7.2.cg (eA 93 (by decide)) (eA 105 (by decide))⟩
  · unfold MPl at h1 ⊢
    rw [eA 62 (by decide), eA 63 (by decide), eA 69 (by decide), eA 70 (by decide)]
    exact h1
  · obtain ⟨q1, t1, t2, t3, t4, t5, t6⟩ := h4 w e
    exact ⟨by rw [eI]; exact q1, by rw [eA 98 (by decide)]; exact t1, by rw [eI]; exact t2, fun k hk => by rw [eA 99 (by decide)]; exact t3 k hk, by rw [eI]; exact t4, fun i hi k hk => by rw [eA _ (mseT_ge k hk)]; exact t5 i hi k hk, fun k hk => by rw [eA 104 (by decide)]; exact t6 k hk⟩
/-! the start -/
def q0 : PD := (0, 0, fun _ => 0, (0, 0, fun _ => 0), (0, 0, fun _ => 0))
def v0 : AV := (q0, (fun _ => 0, (0, fun _ _ => 0), (0, fun _ _ => 0), fun _ => 0), none, (0, fun _ => 0), -1)
theorem inv0 : Inv st0 := by
  refine ⟨v0, ⟨40, 48, ⟨Or.inl rfl, Or.inl rfl, rfl, rfl, by decide, by decide, by decide, by decide, by decide, by decide, fun h => absurd rfl h, fun h => absurd rfl h⟩, Or.inr rfl, by decide, rfl, ⟨40, Or.inl rfl, rfl⟩, ⟨40, Or.inl rfl, rfl, fun _ _ => rfl⟩, ⟨rfl, ⟨0, by decide, rfl, rfl, fun k hk => absurd hk (Nat.not_lt_zero _)⟩, rfl, fun i hi => absurd hi (Nat.not_lt_zero _), fun k _ => rfl⟩, fun _ => rfl, (fun w e => absurd e (by intro z; cases z)), rfl, fun j hj => absurd hj (Nat.not_lt_zero _), rfl⟩, ⟨⟨rfl, rfl, fun p hp => absurd hp (Nat.not_lt_zero _), ⟨fun _ => rfl, fun h => absurd rfl h⟩, ⟨fun _ => rfl, fun h => absurd rfl h⟩, ⟨by decide, by decide, fun h => absurd rfl h, fun h => absurd rfl h⟩, fun h => absurd rfl h⟩, ⟨?_, rfl, fun k hk => absurd hk (Nat.not_lt_zero _), rfl, fun i hi => absurd hi (Nat.not_lt_zero _), fun k _ => rfl⟩, fun _ => rfl, (fun w e => absurd e (by intro z; cases z)), rfl, fun j hj => absurd hj (Nat.not_lt_zero _), rfl, fun j _ => ⟨Or.inl rfl, Or.inl rfl⟩⟩, ⟨⟨by decide, by decide, fun h => absurd rfl h, fun h => absurd rfl h⟩, fun h => absurd rfl h, ⟨⟨⟨fun p hp => absurd hp (Nat.not_lt_zero _), fun p hp => absurd hp (Nat.not_lt_zero _), fun b hb => absurd hb (Nat.not_lt_zero _)⟩, fun _ _ => rfl, ⟨0, by decide, rfl⟩, fun b hb => absurd hb (Nat.not_lt_zero _), fun b hb => absurd hb (Nat.not_lt_zero _)⟩, by decide, fun k hk => absurd hk (Nat.not_lt_zero _), by decide, fun i hi => absurd hi (Nat.not_lt_zero _)⟩, (fun w e => absurd e (by intro z; cases z)), by decide, fun j hj => absurd hj (Nat.not_lt_zero _)⟩⟩
  funext j
  unfold mC rC
  repeat' split
  all_goals rfl
