/-! PURE: dale: how both begin -/
def V0 (g : Nat → Int32) : LV := (0, 0, 0, fun _ => 0, fun j => if j < 110 then 0 else g j, (0, 0, fun _ => 0), (0, 0, fun _ => 0))
theorem V0c {g : Nat → Int32} {j : Nat} (h : j < 110) : lvC (V0 g) j = 0 := if_pos h
theorem V0ok (g : Nat → Int32) : VOk (V0 g) := by
  have ru : ∀ kv, RuOk kv ((0, 0, fun _ => 0) : Ru3) := fun kv => ⟨Nat.zero_le _, fun _ => rfl, Nat.zero_le _, fun z => absurd z (show ¬ (0 : Nat) = 1 by decide)⟩
  refine ⟨Nat.zero_le _, Nat.zero_le _, Nat.zero_le _, V0c (by decide), V0c (by decide), fun p hp => ⟨V0c (by omega), fun _ => ⟨V0c (by omega), V0c (by omega), V0c (by omega)⟩⟩, fun b hb => ⟨fun z => absurd z (Nat.not_lt_zero _), fun _ => ⟨V0c (by omega), V0c (by omega), V0c (by omega)⟩⟩, fun k hk => ?_, ru 8, ru 5⟩
  rw [V0c (by omega)]
  exact Int32.le_refl _
def IDl (o k : Nat) : Prop := o = 58 ∧ (k = 4 ∨ (16 ≤ k ∧ k ≤ 26))
def FD (a b : St) : Prop := (∀ o k, ¬ IDl o k → gI b o k = gI a o k) ∧ (∀ o k, ¬ (o = 58 ∧ k = 3) → gR b o k = gR a o k) ∧ (∀ x, ¬ (62 ≤ x ∧ x ≤ 70) → gA b x = gA a x) ∧ (∀ x j, 62 ≤ x → x ≤ 70 → j < hf x → gA b x j = gA a x j) ∧ ∀ x, gL b x = gL a x
theorem FD.tr {a b c : St} (h1 : FD a b) (h2 : FD b c) : FD a c := ⟨fun o k q => (h2.1 o k q).trans (h1.1 o k q), fun o k q => (h2.2.1 o k q).trans (h1.2.1 o k q), fun x q => (h2.2.2.1 x q).trans (h1.2.2.1 x q), fun x j q1 q2 q3 => (h2.2.2.2.1 x j q1 q2 q3).trans (h1.2.2.2.1 x j q1 q2 q3), fun x => (h2.2.2.2.2 x).trans (h1.2.2.2.2 x)⟩
theorem FD.mg {a b : St} (h : MG a b) : FD a b := ⟨fun o k q => h.1 o k (fun z => q ⟨z.1, Or.inr (by have := z.2; omega)⟩), h.2.1, h.2.2.1, h.2.2.2.1, h.2.2.2.2⟩
theorem FD.si {a : St} {k : Nat} (h : k = 4 ∨ (16 ≤ k ∧ k ≤ 26)) (v : Int32) : FD a (sI a 58 k v) := ⟨fun o k2 q => gI_sI_ne (fun z => q ⟨z.1, by rw [z.2]; exact h⟩), fun _ _ _ => rfl, fun _ _ => rfl, fun _ _ _ _ _ => rfl, fun _ => rfl⟩
theorem FD.mfr {a b : St} (h : FD a b) : MFr a b := ⟨fun o k q => h.1 o k (fun z => by have := z.1; omega), fun o k q => h.2.1 o k (fun z => by have := z.1; omega), fun x q => h.2.2.1 x (by omega), h.2.2.2.2⟩
theorem s_z72 {st : St} {a1 : Int32} {post : Int32 → St → Prop} (h : ∀ st1, Ex (Sa 68) st st1 → (∀ k, k < 54 → gA st1 68 (54 + k) = 0) → (∀ k, k < 54 → gA st1 68 k = gA st 68 k) → P_X12_stepOn 58 st1 (fun st_2 => ∃ n8, P_X12_dale_100 58 a1 post n8 0 st_2)) : ∃ n8, P_X12_dale_72 58 a1 post n8 0 st := by
  refine ⟨55, loop_up (α := Unit) (P := fun n i _ st => P_X12_dale_72 58 a1 post n i st) (N := 54) (fun i _ st' => Ex (Sa 68) st st' ∧ (∀ j, j < i → gA st' 68 (54 + j) = 0) ∧ ∀ j, j < 54 → gA st' 68 j = gA st 68 j) ?_ ?_ 54 0 () st (by omega) ⟨Ex.rf, fun j hj => absurd hj (Nat.not_lt_zero _), fun _ _ => rfl⟩⟩
  · rintro i hi _ st' k ⟨E, r, r2⟩ ih
    show P_X12_dale_72 58 a1 post (k + 1) (iN i) st'
    unfold P_X12_dale_72
    have e : 54 + iN i = iN (54 + i) := (iN_add 54 i).symm
    rw [e]
    refine ⟨fun hz => absurd hz (nle (a := 54) (by decide) hi), fun _ => ⟨68, rfl, (show vp_in (iN (54 + i)) 108 from iN_vp (by omega) (by decide)), ?_⟩⟩
    rw [iN_cl (by omega), iN_s]
    refine ih () _ ⟨E.tr (Ex.sa (S := Sa 68) rfl _ _), fun j hj => ?_, fun j hj => ?_⟩
    · rw [gA_sA]
      by_cases e2 : j = i
      · rw [e2, upd_same]
      · rw [upd_ne (by omega)]; exact r j (by omega)
    · rw [gA_sA, upd_ne (by omega)]; exact r2 j hj
  · rintro _ st' k ⟨E, r, r2⟩
    show P_X12_dale_72 58 a1 post (k + 1) (iN 54) st'
    unfold P_X12_dale_72
    exact ⟨fun _ => ⟨⟨_, rfl⟩, h st' E r r2⟩, fun hz => absurd (Int32.le_refl _) hz⟩
theorem s_z50 {st : St} {a1 : Int32} {post : Int32 → St → Prop} (h : ∀ st1, Ex (Sa 62) st st1 → (∀ k, k < 5 → gA st1 62 (5 + k) = 0) → (∀ k, k < 5 → gA st1 62 k = gA st 62 k) → ∃ n8, P_X12_dale_72 58 a1 post n8 0 st1) : ∃ n8, P_X12_dale_50 58 a1 post n8 0 st := by
  refine ⟨6, loop_up (α := Unit) (P := fun n i _ st => P_X12_dale_50 58 a1 post n i st) (N := 5) (fun i _ st' => Ex (Sa 62) st st' ∧ (∀ j, j < i → gA st' 62 (5 + j) = 0) ∧ ∀ j, j < 5 → gA st' 62 j = gA st 62 j) ?_ ?_ 5 0 () st (by omega) ⟨Ex.rf, fun j hj => absurd hj (Nat.not_lt_zero _), fun _ _ => rfl⟩⟩
  · rintro i hi _ st' k ⟨E, r, r2⟩ ih
    show P_X12_dale_50 58 a1 post (k + 1) (iN i) st'
    unfold P_X12_dale_50
    have e : 5 + iN i = iN (5 + i) := (iN_add 5 i).symm
    rw [e]
    refine ⟨fun hz => absurd hz (nle (a := 5) (by decide) hi), fun _ => ⟨62, rfl, (show vp_in (iN (5 + i)) 10 from iN_vp (by omega) (by decide)), ?_⟩⟩
    rw [iN_cl (by omega), iN_s]
    refine ih () _ ⟨E.tr (Ex.sa (S := Sa 62) rfl _ _), fun j hj => ?_, fun j hj => ?_⟩
    · rw [gA_sA]
      by_cases e2 : j = i
      · rw [e2, upd_same]
      · rw [upd_ne (by omega)]; exact r j (by omega)
    · rw [gA_sA, upd_ne (by omega)]; exact r2 j hj
  · rintro _ st' k ⟨E, r, r2⟩
    show P_X12_dale_50 58 a1 post (k + 1) (iN 5) st'
    unfold P_X12_dale_50
    exact ⟨fun _ => h st' E r r2, fun hz => absurd (Int32.le_refl _) hz⟩
section D1
variable {T : Nat → Int32} {τ : Nat → Tok}
theorem dlM0 {st : St} {n a : Nat} (hn : n ≤ 700) (ha : a ≤ n) (TK : Tks T a τ) (e16 : gI st 58 16 = iN n) (e72 : ∀ j, j < n → gA st 72 j = T j) (g : Nat → Int32) {post : Int32 → St → Prop} (h : ∀ s, FD st s → gI s 58 4 = 0 → gI s 58 16 = 0 → gI s 58 25 = -1 → MT T a τ s 0 → MV s (V0 g) → ∃ n8, P_X12_dale_100 58 (iN a) post n8 0 s) : P_X12_dale 58 (iN a) st post := by
  have lz : ¬ iN a < 0 := by rw [lt0, iN_toInt (by omega)]; omega
  refine ⟨rfl, fun z => absurd z lz, fun _ => ⟨rfl, fun _ => ⟨rfl, rfl, rfl, rfl, rfl, ?_⟩, fun z => absurd ?_ z⟩⟩
  · have F0 : FD st (sI (sI (sI (sI (sI (sI st 58 4 0) 58 16 0) 58 18 (iN a)) 58 17 0) 58 23 0) 58 25 (-1)) := (((((FD.si (k := 4) (by decide) _).tr (FD.si (k := 16) (by decide) _)).tr (FD.si (k := 18) (by decide) _)).tr (FD.si (k := 17) (by decide) _)).tr (FD.si (k := 23) (by decide) _)).tr (FD.si (k := 25) (by decide) _)
    have k4 : gI (sI (sI (sI (sI (sI (sI st 58 4 0) 58 16 0) 58 18 (iN a)) 58 17 0) 58 23 0) 58 25 (-1)) 58 4 = 0 := rfl
    have k16 : gI (sI (sI (sI (sI (sI (sI st 58 4 0) 58 16 0) 58 18 (iN a)) 58 17 0) 58 23 0) 58 25 (-1)) 58 16 = 0 := rfl
    have k18 : gI (sI (sI (sI (sI (sI (sI st 58 4 0) 58 16 0) 58 18 (iN a)) 58 17 0) 58 23 0) 58 25 (-1)) 58 18 = iN a := rfl
    have k17 : gI (sI (sI (sI (sI (sI (sI st 58 4 0) 58 16 0) 58 18 (iN a)) 58 17 0) 58 23 0) 58 25 (-1)) 58 17 = 0 := rfl
    have k23 : gI (sI (sI (sI (sI (sI (sI st 58 4 0) 58 16 0) 58 18 (iN a)) 58 17 0) 58 23 0) 58 25 (-1)) 58 23 = 0 := rfl
    have k25 : gI (sI (sI (sI (sI (sI (sI st 58 4 0) 58 16 0) 58 18 (iN a)) 58 17 0) 58 23 0) 58 25 (-1)) 58 25 = -1 := rfl
    generalize sI (sI (sI (sI (sI (sI st 58 4 0) 58 16 0) 58 18 (iN a)) 58 17 0) 58 23 0) 58 25 (-1) = s0 at *
    refine s_z50 (fun s1 E1 r1 w1 => s_z72 (fun s2 E2 r2 w2 => ?_))
    have F2 : FD s0 s2 := by
      refine ⟨fun o k _ => by rw [E2.eI, E1.eI], fun o k _ => by rw [E2.eR, E1.eR], fun x q => by rw [E2.eA (show ¬ Sa 68 x from fun z => q (by unfold Sa at z; omega)), E1.eA (show ¬ Sa 62 x from fun z => q (by unfold Sa at z; omega))], fun x j q1 q2 q3 => ?_, fun x => by rw [E2.eL, E1.eL]⟩
      by_cases x62 : x = 62
      · subst x62
        rw [E2.eA (show ¬ Sa 68 62 by unfold Sa; decide)]; exact w1 j q3
      · by_cases x68 : x = 68
        · subst x68
          rw [w2 j q3, E1.eA (show ¬ Sa 62 68 by unfold Sa; decide)]
        · rw [E2.eA (show ¬ Sa 68 x from x68), E1.eA (show ¬ Sa 62 x from x62)]
    have i2 : ∀ k, gI s2 58 k = gI s0 58 k := fun k => by rw [E2.eI, E1.eI]
    have X2 : TxM T a s2 := ⟨(i2 18).trans k18, fun j hj => by rw [F2.2.2.1 72 (by decide), F0.2.2.1 72 (by decide)]; exact e72 j (by omega)⟩
    refine (TK.2 0 (Nat.zero_le _)).2.2 s2 _ X2 ((i2 17).trans k17) (fun s3 F3 K3 => ?_)
    have G3 : MWl s2 s3 := MWl.fr F3
    have H3 : MV s2 (V0 g) := by
      have z : ∀ k, k < 5 → gA s2 62 (5 + k) = 0 := fun k hk => by rw [E2.eA (show ¬ Sa 68 62 by unfold Sa; decide)]; exact r1 k hk
      exact ⟨z 0 (by decide), z 1 (by decide), z 2 (by decide), z 3 (by decide), z 4 (by decide), fun x hx => absurd hx (Nat.not_lt_zero _), fun x hx => absurd hx (Nat.not_lt_zero _), fun k hk => by rw [V0c (by omega)]; exact r2 k hk, fun x hx => absurd hx (Nat.not_lt_zero _), fun x hx => absurd hx (Nat.not_lt_zero _)⟩
    exact h s3 ((F0.tr F2).tr (FD.mg (MG.wl G3))) ((F3.eI (by unfold ITk; decide)).trans ((i2 4).trans k4)) ((F3.eI (by unfold ITk; decide)).trans ((i2 16).trans k16)) ((F3.eI (by unfold ITk; decide)).trans ((i2 25).trans k25)) ⟨X2.fr F3, K3, (F3.eI (by unfold ITk; decide)).trans ((i2 23).trans k23), trivial⟩ (H3.wl G3)
  · rw [gI_sI_ne (by decide), e16]
    exact (iN_le (by omega) (by omega)).mpr ha
/-! the class -/
def FC (p : Nat) (a b : St) : Prop := (∀ o k, ¬ CGi p o → ¬ (o = 0 ∧ k = 1) → gI b o k = gI a o k) ∧ (∀ o k, o ≠ 34 → o ≠ 35 → ¬ (o = 30 ∧ k = 0) → gR b o k = gR a o k) ∧ (∀ x, ¬ CGa p x → gA b x = gA a x) ∧ gI b 0 1 = 0 ∧ gR b 30 0 = some p
theorem CGi_r {p o : Nat} (hp : isPl p) : CGi p o → 34 ≤ o ∧ o ≤ 55 := by rcases hp with rfl | rfl <;> rintro (rfl | rfl | rfl | rfl | rfl) <;> decide
theorem CGa_r {p x : Nat} (hp : isPl p) : CGa p x → 31 ≤ x ∧ x ≤ 55 := by rcases hp with rfl | rfl <;> rintro (rfl | rfl | rfl | rfl) <;> decide
theorem FC.cg {p : Nat} (hp : isPl p) {a b c : St} (h1 : FC p a b) (h2 : CG p b c) : FC p a c := by
  refine ⟨fun o k q1 q2 => (h2.1 o k q1).trans (h1.1 o k q1 q2), fun o k q1 q2 q3 => (h2.2.1 o k q1 q2).trans (h1.2.1 o k q1 q2 q3), fun x q => (h2.2.2 x q).trans (h1.2.2.1 x q), (h2.1 0 1 (fun z => ?_)).trans h1.2.2.2.1, (h2.2.1 30 0 (by decide) (by decide)).trans h1.2.2.2.2⟩
  have := CGi_r hp z
  omega
theorem pl_dis {p p' : Nat} (hp : isPl p) (hp' : isPl p') (h : p' ≠ p) : (¬ CGi p' p ∧ ¬ CGi p' (ch p 3) ∧ ¬ CGi p' (ch p 4)) ∧ ¬ CGa p' (ch p 2) ∧ ¬ CGa p' (ch (ch p 3) 1) ∧ ¬ CGa p' (ch (ch p 4) 1) := by
  rcases hp with rfl | rfl <;> rcases hp' with rfl | rfl
  · exact absurd rfl h
  · unfold CGi CGa; decide
  · unfold CGi CGa; decide
  · exact absurd rfl h
theorem s_zA {st : St} {p : Nat} {post : St → Prop} (h : ∀ st1, Ex (Sa 31) st st1 → (∀ j, j < 110 → gA st1 31 j = 0) → (∀ j, 110 ≤ j → gA st1 31 j = gA st 31 j) → post st1) : ∃ n8, P_X2_startAnew_14 30 p post n8 0 st := by
  refine ⟨111, loop_up (α := Unit) (P := fun n i _ st => P_X2_startAnew_14 30 p post n i st) (N := 110) (fun i _ st' => Ex (Sa 31) st st' ∧ (∀ j, j < i → gA st' 31 j = 0) ∧ ∀ j, 110 ≤ j → gA st' 31 j = gA st 31 j) ?_ ?_ 110 0 () st (by omega) ⟨Ex.rf, fun j hj => absurd hj (Nat.not_lt_zero _), fun _ _ => rfl⟩⟩
  · rintro i hi _ st' k ⟨E, r, r2⟩ ih
    show P_X2_startAnew_14 30 p post (k + 1) (iN i) st'
    unfold P_X2_startAnew_14
    refine ⟨fun hz => absurd hz (nle (a := 110) (by decide) hi), fun _ => ⟨31, rfl, (show vp_in (iN i) 110 from iN_vp hi (by decide)), ?_⟩⟩
    rw [iN_cl (by omega), iN_s]
    refine ih () _ ⟨E.tr (Ex.sa (S := Sa 31) rfl _ _), fun j hj => ?_, fun j hj => ?_⟩
    · rw [gA_sA]
      by_cases e2 : j = i
      · rw [e2, upd_same]
      · rw [upd_ne e2]; exact r j (by omega)
    · rw [gA_sA, upd_ne (by omega)]; exact r2 j hj
  · rintro _ st' k ⟨E, r, r2⟩
    show P_X2_startAnew_14 30 p post (k + 1) (iN 110) st'
    unfold P_X2_startAnew_14
    exact ⟨fun _ => h st' E r r2, fun hz => absurd (Int32.le_refl _) hz⟩
theorem dlC0 {st : St} {n a p' : Nat} (hn : n ≤ 700) (ha : a ≤ n) (TK : Tks T a τ) (hp : isPl p') (e1 : ∀ j, j < n → gA st 1 j = T j) {post : Int32 → St → Prop} (h : ∀ s, FC p' st s → CT T a τ s 0 → CV p' s (V0 (gA st 31)) → ∃ n8, P_X4_readDale_22 34 (iN a) post n8 1 0 s) : P_X2_startAnew 30 p' (sI st 0 1 0) (fun st_4 => ∃ r_5, rv st_4 0 11 9 = some r_5 ∧ oC r_5 4 ∧ P_X4_readDale r_5 (iN a) st_4 post) := by
  refine ⟨rfl, p', gR_sR _ _ _ _, pl_o hp, pl_0 hp, pl_1 hp, ch p' 3, pl_w hp _, ru_o (pl_rw hp), ru_0 (pl_rw hp), ru_2 (pl_rw hp), ch p' 4, pl_m hp _, ru_o (pl_rm hp), ru_0 (pl_rm hp), ru_2 (pl_rm hp), ?_⟩
  have F0 : FC p' st (sI (sI (sI (sI (sI (sI (sR (sI st 0 1 0) 30 0 (some p')) p' 0 0) p' 1 0) (ch p' 3) 0 0) (ch p' 3) 2 0) (ch p' 4) 0 0) (ch p' 4) 2 0) := by
    refine ⟨fun o k q1 q2 => ?_, fun o k _ _ q3 => gR_sR_ne q3, fun _ _ => rfl, ?_, gR_sR _ _ _ _⟩
    · have y1 : ¬ o = p' := fun e => q1 (Or.inr (Or.inr (Or.inl e)))
      have y2 : ¬ o = ch p' 3 := fun e => q1 (Or.inr (Or.inr (Or.inr (Or.inl e))))
      have y3 : ¬ o = ch p' 4 := fun e => q1 (Or.inr (Or.inr (Or.inr (Or.inr e))))
      rw [gI_sI_ne (fun z => y3 z.1), gI_sI_ne (fun z => y3 z.1), gI_sI_ne (fun z => y2 z.1), gI_sI_ne (fun z => y2 z.1), gI_sI_ne (fun z => y1 z.1), gI_sI_ne (fun z => y1 z.1)]
      exact gI_sI_ne q2
    · rcases hp with rfl | rfl <;> rfl
  have K0 : gI (sI (sI (sI (sI (sI (sI (sR (sI st 0 1 0) 30 0 (some p')) p' 0 0) p' 1 0) (ch p' 3) 0 0) (ch p' 3) 2 0) (ch p' 4) 0 0) (ch p' 4) 2 0) p' 0 = 0 ∧ gI (sI (sI (sI (sI (sI (sI (sR (sI st 0 1 0) 30 0 (some p')) p' 0 0) p' 1 0) (ch p' 3) 0 0) (ch p' 3) 2 0) (ch p' 4) 0 0) (ch p' 4) 2 0) p' 1 = 0 ∧ gI (sI (sI (sI (sI (sI (sI (sR (sI st 0 1 0) 30 0 (some p')) p' 0 0) p' 1 0) (ch p' 3) 0 0) (ch p' 3) 2 0) (ch p' 4) 0 0) (ch p' 4) 2 0) (ch p' 3) 0 = 0 ∧ gI (sI (sI (sI (sI (sI (sI (sR (sI st 0 1 0) 30 0 (some p')) p' 0 0) p' 1 0) (ch p' 3) 0 0) (ch p' 3) 2 0) (ch p' 4) 0 0) (ch p' 4) 2 0) (ch p' 3) 2 = 0 ∧ gI (sI (sI (sI (sI (sI (sI (sR (sI st 0 1 0) 30 0 (some p')) p' 0 0) p' 1 0) (ch p' 3) 0 0) (ch p' 3) 2 0) (ch p' 4) 0 0) (ch p' 4) 2 0) (ch p' 4) 0 = 0 ∧ gI (sI (sI (sI (sI (sI (sI (sR (sI st 0 1 0) 30 0 (some p')) p' 0 0) p' 1 0) (ch p' 3) 0 0) (ch p' 3) 2 0) (ch p' 4) 0 0) (ch p' 4) 2 0) (ch p' 4) 2 = 0 := by rcases hp with rfl | rfl <;> exact ⟨rfl, rfl, rfl, rfl, rfl, rfl⟩
  show ∃ n8, P_X2_startAnew_14 30 p' _ n8 0 (sI (sI (sI (sI (sI (sI (sR (sI st 0 1 0) 30 0 (some p')) p' 0 0) p' 1 0) (ch p' 3) 0 0) (ch p' 3) 2 0) (ch p' 4) 0 0) (ch p' 4) 2 0)
  have A0 : ∀ x, gA (sI (sI (sI (sI (sI (sI (sR (sI st 0 1 0) 30 0 (some p')) p' 0 0) p' 1 0) (ch p' 3) 0 0) (ch p' 3) 2 0) (ch p' 4) 0 0) (ch p' 4) 2 0) x = gA st x := fun _ => rfl
  generalize sI (sI (sI (sI (sI (sI (sR (sI st 0 1 0) 30 0 (some p')) p' 0 0) p' 1 0) (ch p' 3) 0 0) (ch p' 3) 2 0) (ch p' 4) 0 0) (ch p' 4) 2 0 = s0 at *
  refine s_zA (fun s1 E1 r1 w1 => ⟨34, rfl, ⟨_, rfl⟩, rfl, rfl, 35, rfl, ⟨_, rfl⟩, 1, rfl, by decide, rfl, rfl, ⟨_, rfl⟩, ?_⟩)
  have e7 : (if ((Int32.ofNat (al 0 1)) : Int32) < iN a then (Int32.ofNat (al 0 1)) else iN a) = iN a := if_neg (fun z => by have := (iN_lt (a := 700) (b := a) (by decide) (by omega)).mp z; omega)
  rw [e7]
  obtain ⟨⟨n1, n2⟩, ⟨n3, n4⟩, ⟨n5, n6⟩, _⟩ := pl_ne hp
  have G1 : CG p' s0 (sI (sI (sI (sI s1 34 6 0) 34 4 0) 35 1 (iN a)) 35 2 0) := by
    have z : CG p' s0 s1 := ⟨fun o k _ => E1.eI o k, fun o k _ _ => E1.eR o k, fun x q => E1.eA (show ¬ Sa 31 x from fun z => q (Or.inl z))⟩
    exact (((z.tr (CG.si (Or.inl rfl) _ _)).tr (CG.si (Or.inl rfl) _ _)).tr (CG.si (Or.inr (Or.inl rfl)) _ _)).tr (CG.si (Or.inr (Or.inl rfl)) _ _)
  have gi : ∀ o k, o ≠ 34 → o ≠ 35 → gI (sI (sI (sI (sI s1 34 6 0) 34 4 0) 35 1 (iN a)) 35 2 0) o k = gI s0 o k := fun o k q1 q2 => by rw [gI_sI_ne (fun z => q2 z.1), gI_sI_ne (fun z => q2 z.1), gI_sI_ne (fun z => q1 z.1), gI_sI_ne (fun z => q1 z.1), E1.eI]
  have j346 : gI (sI (sI (sI (sI s1 34 6 0) 34 4 0) 35 1 (iN a)) 35 2 0) 34 6 = 0 := rfl
  have j344 : gI (sI (sI (sI (sI s1 34 6 0) 34 4 0) 35 1 (iN a)) 35 2 0) 34 4 = 0 := rfl
  have j351 : gI (sI (sI (sI (sI s1 34 6 0) 34 4 0) 35 1 (iN a)) 35 2 0) 35 1 = iN a := rfl
  have j352 : gI (sI (sI (sI (sI s1 34 6 0) 34 4 0) 35 1 (iN a)) 35 2 0) 35 2 = iN 0 := rfl
  have jA : ∀ x, gA (sI (sI (sI (sI s1 34 6 0) 34 4 0) 35 1 (iN a)) 35 2 0) x = gA s1 x := fun _ => rfl
  have jR : gR (sI (sI (sI (sI s1 34 6 0) 34 4 0) 35 1 (iN a)) 35 2 0) 30 0 = some p' := (E1.eR 30 0).trans F0.2.2.2.2
  generalize sI (sI (sI (sI s1 34 6 0) 34 4 0) 35 1 (iN a)) 35 2 0 = s2 at *
  have X2 : TxC T a s2 := ⟨j351, fun j hj => by rw [jA, E1.eA (show ¬ Sa 31 1 by unfold Sa; decide), A0]; exact e1 j (by omega)⟩
  have H2 : CV p' s2 (V0 (gA st 31)) := by
    obtain ⟨k1, k2, k3, k4, k5, k6⟩ := K0
    refine ⟨jR, (gi _ _ n1 n2).trans k1, (gi _ _ n1 n2).trans k2, j344, fun x hx => absurd hx (Nat.not_lt_zero _), ?_, ⟨(gi _ _ n3 n4).trans k3, (gi _ _ n3 n4).trans k4, fun x hx => absurd hx (Nat.not_lt_zero _)⟩, ⟨(gi _ _ n5 n6).trans k5, (gi _ _ n5 n6).trans k6, fun x hx => absurd hx (Nat.not_lt_zero _)⟩⟩
    rw [jA]
    funext j
    show gA s1 31 j = if j < 110 then 0 else gA st 31 j
    by_cases q : j < 110
    · rw [if_pos q]; exact r1 j q
    · rw [if_neg q, w1 j (by omega), A0]
  refine (TK.2 0 (Nat.zero_le _)).2.1 s2 _ X2 j352 (fun s3 F3 K3 => h s3 ((F0.cg hp G1).cg hp (CG.wl (CWl.fr F3))) ⟨⟨X2.fr F3, (F3.1 34 6 (by decide)).trans j346⟩, K3⟩ (H2.wl hp (CWl.fr F3)))
end D1
