/-! PURE: the reference takes over what it has read -/
theorem rC_eq {nb : Nat} {dy dg : Int32} {g t o l w h le ti : Nat → Int32} {c : Nat → Int32} (h0 : dy = c 0) (h1 : dg = c 1) (hg : ∀ p, p < 9 → g p = c (2 + 4 * p)) (ht : ∀ p, p < 9 → t p = c (2 + 4 * p + 1)) (ho : ∀ p, p < 9 → o p = c (2 + 4 * p + 2)) (hl : ∀ p, p < 9 → l p = c (2 + 4 * p + 3)) (hw : ∀ b, b < 6 → w b = c (38 + 3 * b)) (hh : ∀ b, b < 6 → h b = c (38 + 3 * b + 1)) (hle : ∀ b, b < 6 → b < nb → le b = c (38 + 3 * b + 2)) (hl0 : ∀ b, b < 6 → nb ≤ b → 0 = c (38 + 3 * b + 2)) (hti : ∀ k, k < 54 → ti k = c (56 + k)) (hz : ∀ j, 110 ≤ j → c j = 0) : rC nb dy dg g t o l w h le ti = c := by
  funext j
  unfold rC
  by_cases e0 : j = 0
  · rw [if_pos e0, e0]; exact h0
  rw [if_neg e0]
  by_cases e1 : j = 1
  · rw [if_pos e1, e1]; exact h1
  rw [if_neg e1]
  by_cases l38 : j < 38
  · rw [if_pos l38]
    have hp : (j - 2) / 4 < 9 := by omega
    have m4 : (j - 2) % 4 = 0 ∨ (j - 2) % 4 = 1 ∨ (j - 2) % 4 = 2 ∨ (j - 2) % 4 = 3 := by omega
    rcases m4 with m | m | m | m
    · rw [if_pos m, hg _ hp]; congr 1; omega
    · rw [if_neg (by omega), if_pos m, ht _ hp]; congr 1; omega
    · rw [if_neg (by omega), if_neg (by omega), if_pos m, ho _ hp]; congr 1; omega
    · rw [if_neg (by omega), if_neg (by omega), if_neg (by omega), hl _ hp]; congr 1; omega
  rw [if_neg l38]
  by_cases l56 : j < 56
  · rw [if_pos l56]
    have hp : (j - 38) / 3 < 6 := by omega
    have m3 : (j - 38) % 3 = 0 ∨ (j - 38) % 3 = 1 ∨ (j - 38) % 3 = 2 := by omega
    rcases m3 with m | m | m
    · rw [if_pos m, hw _ hp]; congr 1; omega
    · rw [if_neg (by omega), if_pos m, hh _ hp]; congr 1; omega
    · rw [if_neg (by omega), if_neg (by omega)]
      by_cases q : (j - 38) / 3 < nb
      · rw [if_pos q, hle _ hp q]; congr 1; omega
      · rw [if_neg q, hl0 _ hp (by omega)]; congr 1; omega
  rw [if_neg l56]
  by_cases l110 : j < 110
  · rw [if_pos l110, hti _ (by omega)]; congr 1; omega
  · rw [if_neg l110, hz j (by omega)]
theorem s_half {st : St} {x m : Nat} (ha : al 0 x = 2 * m) (hd : (Int32.ofNat (al 0 x)) / 2 = iN m) (hm : 0 < m) (hm2 : m < 10000) {post : St → Prop} (h : ∀ st1, Ex (Sa x) st st1 → (∀ j, j < m → gA st1 x j = gA st x (m + j)) → post st1) : P_X12_takeHalf x st post := by
  refine ⟨m + 1, loop_up (α := Unit) (P := fun n i _ st => P_X12_takeHalf_2 x post n i st) (N := m) (fun i _ st' => Ex (Sa x) st st' ∧ (∀ j, j < i → gA st' x j = gA st x (m + j)) ∧ ∀ j, m ≤ j → gA st' x j = gA st x j) ?_ ?_ m 0 () st (by omega) ⟨Ex.rf, fun j hj => absurd hj (Nat.not_lt_zero _), fun _ _ => rfl⟩⟩
  · rintro i hi _ st' k ⟨E, r, r2⟩ ih
    show P_X12_takeHalf_2 x post (k + 1) (iN i) st'
    unfold P_X12_takeHalf_2
    have e : iN m + iN i = iN (m + i) := (iN_add m i).symm
    rw [hd, e, ha]
    refine ⟨by omega, fun hz => absurd hz (nle (by omega) hi), fun _ => ⟨by omega, iN_vp (by omega) (by omega), iN_vp (by omega) (by omega), ?_⟩⟩
    rw [iN_cl (by omega), iN_cl (by omega), iN_s]
    refine ih () _ ⟨E.tr (Ex.sa (S := Sa x) rfl _ _), fun j hj => ?_, fun j hj => ?_⟩
    · rw [gA_sA]
      by_cases e2 : j = i
      · rw [e2, upd_same, r2 _ (by omega)]
      · rw [upd_ne e2]; exact r j (by omega)
    · rw [gA_sA, upd_ne (by omega)]; exact r2 j hj
  · rintro _ st' k ⟨E, r, _⟩
    show P_X12_takeHalf_2 x post (k + 1) (iN m) st'
    unfold P_X12_takeHalf_2
    rw [hd, ha]
    exact ⟨by omega, fun _ => h st' E r, fun hz => absurd (Int32.le_refl _) hz⟩
def SaP (x : Nat) : Prop := 73 ≤ x ∧ x ≤ 76
def SaB (x : Nat) : Prop := 77 ≤ x ∧ x ≤ 79
theorem s_tk240 {st : St} {post : St → Prop} (h : ∀ st1, Ex (Sa 80) st st1 → (∀ k, k < 54 → gA st1 80 k = gA st 68 k) → post (sI (sI (sI st1 58 38 0) 58 39 0) 58 58 0)) : ∃ n8, P_X12_takeOver_240 58 post n8 0 st := by
  refine ⟨55, loop_up (α := Unit) (P := fun n i _ st => P_X12_takeOver_240 58 post n i st) (N := 54) (fun i _ st' => Ex (Sa 80) st st' ∧ ∀ j, j < i → gA st' 80 j = gA st 68 j) ?_ ?_ 54 0 () st (by omega) ⟨Ex.rf, fun j hj => absurd hj (Nat.not_lt_zero _)⟩⟩
  · rintro i hi _ st' k ⟨E, r⟩ ih
    show P_X12_takeOver_240 58 post (k + 1) (iN i) st'
    unfold P_X12_takeOver_240
    refine ⟨80, rfl, by decide, fun hz => absurd hz (nle (a := 54) (by decide) hi), fun _ => ⟨80, rfl, 68, rfl, (show vp_in (iN i) 108 from iN_vp (by omega) (by decide)), (show vp_in (iN i) 54 from iN_vp hi (by decide)), ?_⟩⟩
    rw [iN_cl (by omega), iN_s, E.eA (show ¬ Sa 80 68 by unfold Sa; decide)]
    refine ih () _ ⟨E.tr (Ex.sa (S := Sa 80) rfl _ _), fun j hj => ?_⟩
    rw [gA_sA]
    by_cases e2 : j = i
    · rw [e2, upd_same]
    · rw [upd_ne e2]; exact r j (by omega)
  · rintro _ st' k ⟨E, r⟩
    show P_X12_takeOver_240 58 post (k + 1) (iN 54) st'
    unfold P_X12_takeOver_240
    exact ⟨80, rfl, by decide, fun _ => ⟨rfl, rfl, rfl, h st' E r⟩, fun hz => absurd (Int32.le_refl _) hz⟩
theorem s_tk172 {st : St} {nb : Nat} (hb6 : nb ≤ 6) (e1 : gA st 62 1 = iN nb) {post : St → Prop} (h : ∀ st1, Ex SaB st st1 → (∀ b, b < 6 → (b < nb → gA st1 77 b = gA st 67 b ∧ gA st1 78 b = 1) ∧ (nb ≤ b → gA st1 77 b = 0 ∧ gA st1 78 b = 0) ∧ gA st1 79 b = -1) → ∃ n8, P_X12_takeOver_240 58 post n8 0 st1) : ∃ n8, P_X12_takeOver_172 58 post n8 0 st := by
  refine ⟨7, loop_up (α := Unit) (P := fun n i _ st => P_X12_takeOver_172 58 post n i st) (N := 6) (fun i _ st' => Ex SaB st st' ∧ ∀ b, b < i → (b < nb → gA st' 77 b = gA st 67 b ∧ gA st' 78 b = 1) ∧ (nb ≤ b → gA st' 77 b = 0 ∧ gA st' 78 b = 0) ∧ gA st' 79 b = -1) ?_ ?_ 6 0 () st (by omega) ⟨Ex.rf, fun j hj => absurd hj (Nat.not_lt_zero _)⟩⟩
  · rintro i hi _ st' k ⟨E, r⟩ ih
    have v6 : vp_in (iN i) 6 := iN_vp hi (by decide)
    have v12 : vp_in (iN i) 12 := iN_vp (by omega) (by decide)
    have g62 : gA st' 62 (1 : Int32).toNatClampNeg = iN nb := by rw [E.eA (by unfold SaB; decide)]; exact e1
    have g67 : gA st' 67 = gA st 67 := E.eA (by unfold SaB; decide)
    have fin : ∀ a b : Int32, ((i < nb → a = gA st 67 i ∧ b = 1) ∧ (nb ≤ i → a = 0 ∧ b = 0)) → P_X12_takeOver_172 58 post k (iN (i + 1)) (sA (sA (sA st' 77 i a) 78 i b) 79 i (-1)) := by
      intro a b hab
      refine ih () _ ⟨E.tr (((Ex.sa (S := SaB) (by unfold SaB; decide) _ _).tr (Ex.sa (S := SaB) (by unfold SaB; decide) _ _)).tr (Ex.sa (S := SaB) (by unfold SaB; decide) _ _)), fun j hj => ?_⟩
      have q79 : gA (sA (sA (sA st' 77 i a) 78 i b) 79 i (-1)) 79 = upd (gA st' 79) i (-1) := by rw [gA_sA, gA_sA_ne (by decide), gA_sA_ne (by decide)]
      have q78 : gA (sA (sA (sA st' 77 i a) 78 i b) 79 i (-1)) 78 = upd (gA st' 78) i b := by rw [gA_sA_ne (by decide), gA_sA, gA_sA_ne (by decide)]
      have q77 : gA (sA (sA (sA st' 77 i a) 78 i b) 79 i (-1)) 77 = upd (gA st' 77) i a := by rw [gA_sA_ne (by decide), gA_sA_ne (by decide), gA_sA]
      rw [q79, q78, q77]
      by_cases e2 : j = i
      · rw [e2, upd_same, upd_same, upd_same]
        exact ⟨hab.1, hab.2, rfl⟩
      · rw [upd_ne e2, upd_ne e2, upd_ne e2]
        exact r j (by omega)
    show P_X12_takeOver_172 58 post (k + 1) (iN i) st'
    unfold P_X12_takeOver_172
    refine ⟨fun hz => absurd hz (nle (a := 6) (by decide) hi), fun _ => ⟨77, rfl, 62, rfl, (iN_vp (j := 1) (n := 10) (by decide) (by decide)), ?_⟩⟩
    rw [g62]
    have step : ∀ a : Int32, (∀ b : Int32, ((i < nb → b = 1) ∧ (nb ≤ i → b = 0)) → P_X12_takeOver_172 58 post k (iN (i + 1)) (sA (sA (sA st' 77 i a) 78 i b) 79 i (-1))) → P_X12_takeOver_203 58 (fun x1 st => P_X12_takeOver_172 58 post k x1 st) post (iN i) a (iN i) 77 st' := by
      intro a hb
      unfold P_X12_takeOver_203 P_X12_takeOver_224
      rw [iN_cl (by omega), iN_s]
      have g62 : gA (sA st' 77 i a) 62 (1 : Int32).toNatClampNeg = iN nb := by rw [gA_sA_ne (by decide)]; exact g62
      refine ⟨v6, 78, rfl, 62, rfl, (iN_vp (j := 1) (n := 10) (by decide) (by decide)), ?_⟩
      rw [g62]
      exact ⟨fun z => ⟨v6, 79, rfl, v6, hb 0 ⟨fun y => absurd z (nle (by omega) y), fun _ => rfl⟩⟩, fun z => ⟨v6, 79, rfl, v6, hb 1 ⟨fun _ => rfl, fun y => absurd ((iN_le (by omega) (by omega)).mpr y) z⟩⟩⟩
    refine ⟨fun z => step 0 (fun b hb => fin 0 b ⟨fun y => absurd z (nle (by omega) y), fun y => ⟨rfl, hb.2 y⟩⟩), fun z => ⟨67, rfl, v12, ?_⟩⟩
    rw [iN_cl (by omega), g67]
    exact step _ (fun b hb => fin _ b ⟨fun y => ⟨rfl, hb.1 y⟩, fun y => absurd ((iN_le (by omega) (by omega)).mpr y) z⟩)
  · rintro _ st' k ⟨E, r⟩
    show P_X12_takeOver_172 58 post (k + 1) (iN 6) st'
    unfold P_X12_takeOver_172
    exact ⟨fun _ => h st' E r, fun hz => absurd (Int32.le_refl _) hz⟩
theorem s_tk75 {st : St} {np : Nat} (hb9 : np ≤ 9) (e0 : gA st 62 0 = iN np) {post : St → Prop} (h : ∀ st1, Ex SaP st st1 → (∀ b, b < 9 → (b < np → gA st1 73 b = gA st 64 b ∧ gA st1 74 b = gA st 65 b ∧ gA st1 75 b = gA st 66 b) ∧ (np ≤ b → gA st1 73 b = 0 ∧ gA st1 74 b = 0 ∧ gA st1 75 b = 0) ∧ gA st1 76 b = 0) → ∃ n8, P_X12_takeOver_172 58 post n8 0 st1) : ∃ n8, P_X12_takeOver_75 58 post n8 0 st := by
  refine ⟨10, loop_up (α := Unit) (P := fun n i _ st => P_X12_takeOver_75 58 post n i st) (N := 9) (fun i _ st' => Ex SaP st st' ∧ ∀ b, b < i → (b < np → gA st' 73 b = gA st 64 b ∧ gA st' 74 b = gA st 65 b ∧ gA st' 75 b = gA st 66 b) ∧ (np ≤ b → gA st' 73 b = 0 ∧ gA st' 74 b = 0 ∧ gA st' 75 b = 0) ∧ gA st' 76 b = 0) ?_ ?_ 9 0 () st (by omega) ⟨Ex.rf, fun j hj => absurd hj (Nat.not_lt_zero _)⟩⟩
  · rintro i hi _ st' k ⟨E, r⟩ ih
    have v9 : vp_in (iN i) 9 := iN_vp hi (by decide)
    have v18 : vp_in (iN i) 18 := iN_vp (by omega) (by decide)
    have g62 : gA st' 62 (0 : Int32).toNatClampNeg = iN np := by rw [E.eA (by unfold SaP; decide)]; exact e0
    have g64 : gA st' 64 = gA st 64 := E.eA (by unfold SaP; decide)
    have g65 : gA st' 65 = gA st 65 := E.eA (by unfold SaP; decide)
    have g66 : gA st' 66 = gA st 66 := E.eA (by unfold SaP; decide)
    have fin : ∀ a b c : Int32, ((i < np → a = gA st 64 i ∧ b = gA st 65 i ∧ c = gA st 66 i) ∧ (np ≤ i → a = 0 ∧ b = 0 ∧ c = 0)) → P_X12_takeOver_75 58 post k (iN (i + 1)) (sA (sA (sA (sA st' 73 i a) 74 i b) 75 i c) 76 i 0) := by
      intro a b c hab
      refine ih () _ ⟨E.tr ((((Ex.sa (S := SaP) (by unfold SaP; decide) _ _).tr (Ex.sa (S := SaP) (by unfold SaP; decide) _ _)).tr (Ex.sa (S := SaP) (by unfold SaP; decide) _ _)).tr (Ex.sa (S := SaP) (by unfold SaP; decide) _ _)), fun j hj => ?_⟩
      have q76 : gA (sA (sA (sA (sA st' 73 i a) 74 i b) 75 i c) 76 i 0) 76 = upd (gA st' 76) i 0 := by rw [gA_sA, gA_sA_ne (by decide), gA_sA_ne (by decide), gA_sA_ne (by decide)]
      have q75 : gA (sA (sA (sA (sA st' 73 i a) 74 i b) 75 i c) 76 i 0) 75 = upd (gA st' 75) i c := by rw [gA_sA_ne (by decide), gA_sA, gA_sA_ne (by decide), gA_sA_ne (by decide)]
      have q74 : gA (sA (sA (sA (sA st' 73 i a) 74 i b) 75 i c) 76 i 0) 74 = upd (gA st' 74) i b := by rw [gA_sA_ne (by decide), gA_sA_ne (by decide), gA_sA, gA_sA_ne (by decide)]
      have q73 : gA (sA (sA (sA (sA st' 73 i a) 74 i b) 75 i c) 76 i 0) 73 = upd (gA st' 73) i a := by rw [gA_sA_ne (by decide), gA_sA_ne (by decide), gA_sA_ne (by decide), gA_sA]
      rw [q76, q75, q74, q73]
      by_cases e2 : j = i
      · rw [e2, upd_same, upd_same, upd_same, upd_same]
        exact ⟨hab.1, hab.2, rfl⟩
      · rw [upd_ne e2, upd_ne e2, upd_ne e2, upd_ne e2]
        exact r j (by omega)
    show P_X12_takeOver_75 58 post (k + 1) (iN i) st'
    unfold P_X12_takeOver_75
    refine ⟨fun hz => absurd hz (nle (a := 9) (by decide) hi), fun _ => ⟨62, rfl, (iN_vp (j := 0) (n := 10) (by decide) (by decide)), ?_⟩⟩
    rw [g62]
    unfold P_X12_takeOver_96 P_X12_takeOver_116 P_X12_takeOver_136 P_X12_takeOver_156
    rw [iN_cl (by omega), iN_s]
    refine ⟨fun z => ⟨73, rfl, fun _ => ⟨v9, 74, rfl, fun _ => ⟨v9, 75, rfl, fun _ => ⟨v9, 76, rfl, v9, fin 0 0 0 ⟨fun y => absurd z (nle (by omega) y), fun _ => ⟨rfl, rfl, rfl⟩⟩⟩, fun y => absurd rfl y⟩, fun y => absurd rfl y⟩, fun y => absurd rfl y⟩, fun z => ⟨73, rfl, fun y => absurd y (by decide), fun _ => ⟨64, rfl, v18, v9, 74, rfl, fun y => absurd y (by decide), fun _ => ⟨65, rfl, v18, v9, 75, rfl, fun y => absurd y (by decide), fun _ => ⟨66, rfl, v18, v9, 76, rfl, v9, ?_⟩⟩⟩⟩⟩
    refine fin _ _ _ ⟨fun y => ⟨by rw [g64], by rw [gA_sA_ne (by decide), g65], by rw [gA_sA_ne (by decide), gA_sA_ne (by decide), g66]⟩, fun y => absurd ((iN_le (by omega) (by omega)).mpr y) z⟩
  · rintro _ st' k ⟨E, r⟩
    show P_X12_takeOver_75 58 post (k + 1) (iN 9) st'
    unfold P_X12_takeOver_75
    exact ⟨fun _ => h st' E r, fun hz => absurd (Int32.le_refl _) hz⟩
