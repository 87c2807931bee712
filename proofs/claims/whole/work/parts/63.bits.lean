/-! PURE: sets of people and of brides as bits -/
theorem tb_all : ∀ k, k < 512 → ∀ p, p < 9 → ((iN k : Int32) >>> ((iN p : Int32) &&& 31)) &&& 1 = if k.testBit p then 1 else 0 := by decide +kernel
theorem tb_add : ∀ n, n < 9 → ∀ k, k < 2 ^ n → ∀ j, j < 9 → (k + 2 ^ n).testBit j = (k.testBit j || decide (j = n)) := by decide +kernel
theorem bits_set {P : Nat → Prop} [DecidablePred P] : ∀ n, n ≤ 9 → ∃ k, k < 2 ^ n ∧ lp (fun p s => if P p then s ||| bit p else s) 0 n = iN k ∧ ∀ j, j < 9 → (k.testBit j = true ↔ j < n ∧ P j) := by
  intro n
  induction n with
  | zero => intro _; exact ⟨0, by decide, rfl, fun j _ => ⟨fun h => by simp at h, fun h => by omega⟩⟩
  | succ n ih =>
    intro hn
    obtain ⟨k, h1, h2, h3⟩ := ih (by omega)
    rw [lp_s, h2]
    by_cases e : P n
    · rw [if_pos e, or_bit n (by omega) k h1]
      refine ⟨k + 2 ^ n, by rw [Nat.pow_succ]; omega, rfl, fun j hj => ?_⟩
      rw [tb_add n (by omega) k h1 j hj, Bool.or_eq_true, h3 j hj, decide_eq_true_eq]
      constructor
      · rintro (h | rfl)
        · exact ⟨by omega, h.2⟩
        · exact ⟨by omega, e⟩
      · rintro ⟨h, h'⟩
        by_cases ej : j = n
        · exact Or.inr ej
        · exact Or.inl ⟨by omega, h'⟩
    · rw [if_neg e]
      refine ⟨k, by rw [Nat.pow_succ]; omega, rfl, fun j hj => ?_⟩
      rw [h3 j hj]
      constructor
      · rintro ⟨h, h'⟩; exact ⟨by omega, h'⟩
      · rintro ⟨h, h'⟩
        by_cases ej : j = n
        · subst ej; exact absurd h' e
        · exact ⟨by omega, h'⟩
theorem s_isOf {k p : Nat} (hk : k < 512) (hp : p < 9) {st : St} {post : Int32 → St → Prop} (h : post (if k.testBit p then 1 else 0) st) : P_X12_isOf (iN k) (iN p) st post := by
  unfold P_X12_isOf P_X12_isOf_14
  rw [tb_all k hk p hp]
  by_cases e : k.testBit p = true
  · rw [if_pos e] at h ⊢
    exact ⟨fun hz => absurd rfl hz, fun _ => ⟨Or.inr rfl, h⟩⟩
  · rw [if_neg e] at h ⊢
    exact ⟨fun _ => ⟨Or.inl rfl, h⟩, fun hz => absurd hz (by decide)⟩
theorem tiedS_set {np : Nat} (h : np ≤ 9) (c : Nat → Int32) (b : Nat) : ∃ k, k < 2 ^ np ∧ tiedS np c b = iN k ∧ ∀ j, j < 9 → (k.testBit j = true ↔ j < np ∧ 0 < c (56 + 6 * j + b)) := bits_set (P := fun p => 0 < c (56 + 6 * p + b)) np h
theorem tiedB_set {nb : Nat} (h : nb ≤ 9) (c : Nat → Int32) (p : Nat) : ∃ k, k < 2 ^ nb ∧ tiedB nb c p = iN k ∧ ∀ j, j < 9 → (k.testBit j = true ↔ j < nb ∧ 0 < c (56 + 6 * p + j)) := bits_set (P := fun b => 0 < c (56 + 6 * p + b)) nb h
theorem homeB_set {nb : Nat} (h : nb ≤ 9) (c : Nat → Int32) : ∃ k, k < 2 ^ nb ∧ homeB nb c = iN k ∧ ∀ j, j < 9 → (k.testBit j = true ↔ j < nb ∧ c (38 + 3 * j + 1) = 1) := bits_set (P := fun b => c (38 + 3 * b + 1) = 1) nb h
