/-! PURE: count, person, bride, years, weight, fault -/
def homeB (nb : Nat) (c : Nat → Int32) : Int32 := lp (fun b s => if c (38 + 3 * b + 1) = 1 then s ||| bit b else s) 0 nb
def griefA (np : Nat) (c : Nat → Int32) : Int32 := lp (fun p s => s + c (2 + 4 * p)) 0 np
def tieC (np nb : Nat) (c : Nat → Int32) : Int32 := lp (fun p s => s + bc (tiedB nb c p)) 0 np
theorem s_homeBits {st : St} {d p : Nat} {q : PD} (D : DSt st d p q) {post : Int32 → St → Prop} (h : post (homeB q.2.1 (gA st (ch d 1))) st) : P_X2_homeBits d st post := by
  have hq := D.ok.2.1
  refine ⟨q.2.1 + 1, loop_up (P := fun n i a st => P_X2_homeBits_4 d post n a i st) (N := q.2.1) (fun i a st' => st' = st ∧ a = homeB i (gA st (ch d 1))) ?_ ?_ q.2.1 0 0 st (by omega) ⟨rfl, rfl⟩⟩
  · rintro i hi a st' n ⟨rfl, rfl⟩ ih
    have hs : homeB (i + 1) (gA st' (ch d 1)) = if gA st' (ch d 1) (38 + 3 * i + 1) = 1 then homeB i (gA st' (ch d 1)) ||| bit i else homeB i (gA st' (ch d 1)) := by unfold homeB; rw [lp_s]
    show P_X2_homeBits_4 d post (n + 1) _ (iN i) st'
    unfold P_X2_homeBits_4
    refine ⟨_, D.pl, pl_1 D.hp, fun hc => ?_, fun _ => ⟨da_o D.hd, s_isHome D.hd (by omega) ⟨fun hc => ?_, fun hc => ?_⟩⟩⟩
    · rw [D.nb, iN_le (by omega) (by omega)] at hc; omega
    · show P_X2_homeBits_4 d post n _ (iN i + 1) st'
      rw [iN_s]
      refine ih _ _ ⟨rfl, ?_⟩
      rw [hs, if_neg (fun e => by rw [if_pos e] at hc; exact absurd hc (by decide))]
    · show P_X2_homeBits_4 d post n (homeB i (gA st' (ch d 1)) ||| bit i) (iN i + 1) st'
      rw [iN_s]
      refine ih _ _ ⟨rfl, ?_⟩
      by_cases e : gA st' (ch d 1) (38 + 3 * i + 1) = 1
      · rw [hs, if_pos e]
      · rw [if_neg e] at hc; exact absurd rfl hc
  · rintro a st' n ⟨rfl, rfl⟩
    show P_X2_homeBits_4 d post (n + 1) _ (iN q.2.1) st'
    unfold P_X2_homeBits_4
    refine ⟨_, D.pl, pl_1 D.hp, fun _ => h, fun hc => absurd ?_ hc⟩
    rw [D.nb]; exact Int32.le_refl _
theorem s_griefOfAll {st : St} {d p : Nat} {q : PD} (D : DSt st d p q) {post : Int32 → St → Prop} (h : post (griefA q.1 (gA st (ch d 1))) st) : P_X2_griefOfAll d st post := by
  have hq := D.ok.1
  refine ⟨q.1 + 1, loop_up (P := fun n i a st => P_X2_griefOfAll_4 d post n a i st) (N := q.1) (fun i a st' => st' = st ∧ a = griefA i (gA st (ch d 1))) ?_ ?_ q.1 0 0 st (by omega) ⟨rfl, rfl⟩⟩
  · rintro i hi a st' n ⟨rfl, rfl⟩ ih
    have hs : griefA (i + 1) (gA st' (ch d 1)) = griefA i (gA st' (ch d 1)) + gA st' (ch d 1) (2 + 4 * i) := by unfold griefA; rw [lp_s]
    show P_X2_griefOfAll_4 d post (n + 1) _ (iN i) st'
    unfold P_X2_griefOfAll_4
    refine ⟨_, D.pl, pl_0 D.hp, fun hc => ?_, fun _ => ⟨da_o D.hd, s_griefOf D.hd (by omega) ?_⟩⟩
    · rw [D.np, iN_le (by omega) (by omega)] at hc; omega
    · rw [iN_s]
      exact ih _ _ ⟨rfl, hs.symm⟩
  · rintro a st' n ⟨rfl, rfl⟩
    show P_X2_griefOfAll_4 d post (n + 1) _ (iN q.1) st'
    unfold P_X2_griefOfAll_4
    refine ⟨_, D.pl, pl_0 D.hp, fun _ => h, fun hc => absurd ?_ hc⟩
    rw [D.np]; exact Int32.le_refl _
theorem s_tieCount {st : St} {d p : Nat} {q : PD} (D : DSt st d p q) {post : Int32 → St → Prop} (h : post (tieC q.1 q.2.1 (gA st (ch d 1))) st) : P_X2_tieCount d st post := by
  have hq := D.ok.1
  refine ⟨q.1 + 1, loop_up (P := fun n i a st => P_X2_tieCount_4 d post n a i st) (N := q.1) (fun i a st' => st' = st ∧ a = tieC i q.2.1 (gA st (ch d 1))) ?_ ?_ q.1 0 0 st (by omega) ⟨rfl, rfl⟩⟩
  · rintro i hi a st' n ⟨rfl, rfl⟩ ih
    have hs : tieC (i + 1) q.2.1 (gA st' (ch d 1)) = tieC i q.2.1 (gA st' (ch d 1)) + bc (tiedB q.2.1 (gA st' (ch d 1)) i) := by unfold tieC; rw [lp_s]
    show P_X2_tieCount_4 d post (n + 1) _ (iN i) st'
    unfold P_X2_tieCount_4
    refine ⟨_, D.pl, pl_0 D.hp, fun hc => ?_, fun _ => ⟨da_o D.hd, s_bridesTiedTo D (by omega) (s_bitCount ?_)⟩⟩
    · rw [D.np, iN_le (by omega) (by omega)] at hc; omega
    · rw [iN_s]
      exact ih _ _ ⟨rfl, hs.symm⟩
  · rintro a st' n ⟨rfl, rfl⟩
    show P_X2_tieCount_4 d post (n + 1) _ (iN q.1) st'
    unfold P_X2_tieCount_4
    refine ⟨_, D.pl, pl_0 D.hp, fun _ => h, fun hc => absurd ?_ hc⟩
    rw [D.np]; exact Int32.le_refl _
theorem s_atHome {st : St} {q : PD} (M : MPl st q) {nb : Nat} {post : Int32 → St → Prop} (h : post (homeB q.2.1 (mC nb st)) st) : P_X12_atHome 58 st post := by
  have hq := M.2.2.2.2.2.1.2.1
  refine ⟨q.2.1 + 1, loop_up (P := fun n i a st => P_X12_atHome_4 58 post n a i st) (N := q.2.1) (fun i a st' => st' = st ∧ a = homeB i (mC nb st)) ?_ ?_ q.2.1 0 0 st (by omega) ⟨rfl, rfl⟩⟩
  · rintro i hi a st' n ⟨rfl, rfl⟩ ih
    have hs : homeB (i + 1) (mC nb st') = if gA st' 78 i = 1 then homeB i (mC nb st') ||| bit i else homeB i (mC nb st') := by
      have e : mC nb st' (38 + 3 * i + 1) = gA st' 78 i := rC_h (by omega)
      rw [← e]; unfold homeB; rw [lp_s]
    show P_X12_atHome_4 58 post (n + 1) _ (iN i) st'
    unfold P_X12_atHome_4
    rw [iN_cl (by omega)]
    refine ⟨62, rfl, iN_vp (j := 1) (by decide) (by decide), fun hc => ?_, fun _ => ⟨78, rfl, (show vp_in (iN i) 6 from iN_vp (by omega) (by decide)), fun hc => ?_, fun hc => ?_⟩⟩
    · have e : gA st' 62 (1 : Int32).toNatClampNeg = iN q.2.1 := M.2.1
      rw [e, iN_le (by omega) (by omega)] at hc; omega
    · show P_X12_atHome_4 58 post n (homeB i (mC nb st') ||| 0) (iN i + 1) st'
      rw [iN_s, Int32.or_zero]
      refine ih _ _ ⟨rfl, ?_⟩
      rw [hs, if_neg hc]
    · show P_X12_atHome_4 58 post n (homeB i (mC nb st') ||| bit i) (iN i + 1) st'
      rw [iN_s]
      refine ih _ _ ⟨rfl, ?_⟩
      rw [hs, if_pos hc]
  · rintro a st' n ⟨rfl, rfl⟩
    show P_X12_atHome_4 58 post (n + 1) _ (iN q.2.1) st'
    unfold P_X12_atHome_4
    refine ⟨62, rfl, iN_vp (j := 1) (by decide) (by decide), fun _ => h, fun hc => absurd ?_ hc⟩
    have e : gA st' 62 (1 : Int32).toNatClampNeg = iN q.2.1 := M.2.1
    rw [e]; exact Int32.le_refl _
theorem s_allGrief {st : St} {q : PD} (M : MPl st q) {nb : Nat} {post : Int32 → St → Prop} (h : post (griefA q.1 (mC nb st)) st) : P_X12_allGrief 58 st post := by
  have hq := M.2.2.2.2.2.1.1
  refine ⟨q.1 + 1, loop_up (P := fun n i a st => P_X12_allGrief_4 58 post n a i st) (N := q.1) (fun i a st' => st' = st ∧ a = griefA i (mC nb st)) ?_ ?_ q.1 0 0 st (by omega) ⟨rfl, rfl⟩⟩
  · rintro i hi a st' n ⟨rfl, rfl⟩ ih
    have hs : griefA (i + 1) (mC nb st') = griefA i (mC nb st') + gA st' 73 i := by
      have e : mC nb st' (2 + 4 * i) = gA st' 73 i := rC_g (by omega)
      rw [← e]; unfold griefA; rw [lp_s]
    show P_X12_allGrief_4 58 post (n + 1) _ (iN i) st'
    unfold P_X12_allGrief_4
    rw [iN_cl (by omega)]
    refine ⟨62, rfl, vp0 _ (by decide) (by decide), fun hc => ?_, fun _ => ⟨73, rfl, by rw [al73]; exact iN_vp (by omega) (by decide), ?_⟩⟩
    · have e : gA st' 62 (0 : Int32).toNatClampNeg = iN q.1 := M.1
      rw [e, iN_le (by omega) (by omega)] at hc; omega
    · rw [iN_s]
      exact ih _ _ ⟨rfl, hs.symm⟩
  · rintro a st' n ⟨rfl, rfl⟩
    show P_X12_allGrief_4 58 post (n + 1) _ (iN q.1) st'
    unfold P_X12_allGrief_4
    refine ⟨62, rfl, vp0 _ (by decide) (by decide), fun _ => h, fun hc => absurd ?_ hc⟩
    have e : gA st' 62 (0 : Int32).toNatClampNeg = iN q.1 := M.1
    rw [e]; exact Int32.le_refl _
theorem s_tieMany {st : St} {q : PD} (M : MPl st q) {nb : Nat} {post : Int32 → St → Prop} (h : post (tieC q.1 q.2.1 (mC nb st)) st) : P_X12_tieMany 58 st post := by
  have hq := M.2.2.2.2.2.1.1
  have hq2 := M.2.2.2.2.2.1.2.1
  refine ⟨q.1 + 1, loop_up (P := fun n i a st => P_X12_tieMany_4 58 post n a i st) (N := q.1) (fun i a st' => st' = st ∧ a = tieC i q.2.1 (mC nb st)) ?_ ?_ q.1 0 0 st (by omega) ⟨rfl, rfl⟩⟩
  · rintro i hi a st' n ⟨rfl, rfl⟩ ih
    have hs : tieC (i + 1) q.2.1 (mC nb st') = tieC i q.2.1 (mC nb st') + bc (tiedB q.2.1 (mC nb st') i) := by unfold tieC; rw [lp_s]
    show P_X12_tieMany_4 58 post (n + 1) _ (iN i) st'
    unfold P_X12_tieMany_4
    refine ⟨62, rfl, vp0 _ (by decide) (by decide), fun hc => ?_, fun _ => ⟨⟨_, rfl⟩, s_tiesOf (nb := nb) M (by omega) (s_bitsOf (tiedB_sm (by omega) _ _) ?_)⟩⟩
    · have e : gA st' 62 (0 : Int32).toNatClampNeg = iN q.1 := M.1
      rw [e, iN_le (by omega) (by omega)] at hc; omega
    · rw [iN_s]
      exact ih _ _ ⟨rfl, hs.symm⟩
  · rintro a st' n ⟨rfl, rfl⟩
    show P_X12_tieMany_4 58 post (n + 1) _ (iN q.1) st'
    unfold P_X12_tieMany_4
    refine ⟨62, rfl, vp0 _ (by decide) (by decide), fun _ => h, fun hc => absurd ?_ hc⟩
    have e : gA st' 62 (0 : Int32).toNatClampNeg = iN q.1 := M.1
    rw [e]; exact Int32.le_refl _
/-! the calls -/
theorem InvC.D {st : St} {v : AV} (H : InvC st v) : ∃ p, DSt st 3 p v.1 := by obtain ⟨p, p', D, _⟩ := H; exact ⟨p, D⟩
theorem InvC.c {st : St} {v : AV} (H : InvC st v) : gA st 4 = v.2.1.1 := by obtain ⟨p, p', _, _, _, _, _, _, B, _⟩ := H; exact B.1
theorem InvC.tr {st : St} {v : AV} (H : InvC st v) : ∃ pt, isPl pt ∧ gR st 30 0 = some pt := by obtain ⟨p, p', _, _, _, _, ht, _⟩ := H; exact ht
theorem InvM.c {st : St} {v : AV} (H : InvM st v) : mC v.1.2.1 st = v.2.1.1 := H.2.1.1
theorem ch31 : ch 3 1 = 4 := rfl
theorem scv3_sc : ∀ x, ScV 3 x → ScC x := by
  intro x h
  unfold ScC
  rcases h with rfl | h
  · exact Or.inl rfl
  · unfold al at h
    by_cases hx : x < 107
    · have key : ∀ y, y < 107 → (if (tbe y).1 = 0 then (tbe y).2.1 else 0) = 40 → y = 44 ∨ y = 47 ∨ y = 52 ∨ y = 55 := by decide +kernel
      have := key x hx h
      omega
    · exfalso
      have e : tbe x = (9, 0, []) := by
        unfold tbe
        rw [List.getD_eq_getElem?_getD, List.getElem?_eq_none (by rw [tb_len]; exact Nat.not_lt.mp hx)]
        rfl
      rw [e] at h
      exact absurd h (by decide)
theorem c_count {a : Int32} {st : St} (hI : Inv st) : P_L_count a st (fun k st1 => Bth (P_X12_count 58 a) k st1) := by
  obtain ⟨v, H, HM, HO⟩ := hI
  obtain ⟨p, D⟩ := H.D
  by_cases ha : isI 13 a
  · obtain ⟨n, hn, rfl⟩ := ha
    have hc := H.c
    have hB := H
    obtain ⟨_, _, _, _, _, _, _, _, B, _, _, hT, _, _⟩ := hB
    have B2 := HM.2.1
    rcases (show n = 0 ∨ n = 1 ∨ n = 2 ∨ n = 3 ∨ n = 4 ∨ n = 5 ∨ n = 6 ∨ n = 7 ∨ n = 8 ∨ n = 9 ∨ n = 10 ∨ n = 11 ∨ n = 12 by omega) with rfl | rfl | rfl | rfl | rfl | rfl | rfl | rfl | rfl | rfl | rfl | rfl | rfl
    · refine h_ok (PC := fun post pex => P_X11_count 0 (iN 0) st post pex) (PM := P_X12_count 58 (iN 0)) (v2 := v) (r := iN v.1.1) HM HO (fun post h => ?_) (fun s1 post I0 h => ?_)
      · exact ⟨tb_out, s_needW (l := 12) (by decide) (by decide) ⟨fun hc => absurd hc (by decide), fun _ => ⟨3, rfl, p, D.pl, pl_0 D.hp, by rw [D.np]; exact h st CFr.rf H⟩, fun hc => absurd hc (by decide), fun hc => absurd hc (by decide), fun hc => absurd hc (by decide), fun hc => absurd hc (by decide), fun hc => absurd hc (by decide), fun hc => absurd hc (by decide), fun hc => absurd hc (by decide), fun hc => absurd hc (by decide), fun hc => absurd hc (by decide), trivial⟩⟩
      · have I1 := I0.qmr (QMr.code 0)
        have M1 := I1.1
        have eC := I1.c
        have K := h _ (QMr.code (nb := v.1.2.1) 0).mfr I1 (gI_sI _ _ _ _)
        exact ⟨rfl, ⟨fun hc => absurd hc (by decide), fun _ => ⟨62, rfl, vp0 _ (by decide) (by decide), by have e9 : gA (sI s1 58 4 0) 62 0 = iN v.1.1 := M1.1; exact (show post (gA (sI s1 58 4 0) 62 0) _ by rw [e9]; exact K)⟩, fun hc => absurd hc (by decide), fun hc => absurd hc (by decide), fun hc => absurd hc (by decide), fun hc => absurd hc (by decide), fun hc => absurd hc (by decide), fun hc => absurd hc (by decide), fun hc => absurd hc (by decide), fun hc => absurd hc (by decide), fun hc => absurd hc (by decide), fun hc => absurd hc (by decide), fun hc => absurd hc (by decide), fun hc => absurd hc (by decide), trivial⟩⟩
    · refine h_ok (PC := fun post pex => P_X11_count 0 (iN 1) st post pex) (PM := P_X12_count 58 (iN 1)) (v2 := v) (r := iN v.1.2.1) HM HO (fun post h => ?_) (fun s1 post I0 h => ?_)
      · exact ⟨tb_out, s_needW (l := 12) (by decide) (by decide) ⟨fun hc => absurd hc (by decide), fun hc => absurd hc (by decide), fun _ => ⟨3, rfl, p, D.pl, pl_1 D.hp, by rw [D.nb]; exact h st CFr.rf H⟩, fun hc => absurd hc (by decide), fun hc => absurd hc (by decide), fun hc => absurd hc (by decide), fun hc => absurd hc (by decide), fun hc => absurd hc (by decide), fun hc => absurd hc (by decide), fun hc => absurd hc (by decide), fun hc => absurd hc (by decide), trivial⟩⟩
      · have I1 := I0.qmr (QMr.code 0)
        have M1 := I1.1
        have eC := I1.c
        have K := h _ (QMr.code (nb := v.1.2.1) 0).mfr I1 (gI_sI _ _ _ _)
        exact ⟨rfl, ⟨fun hc => absurd hc (by decide), fun hc => absurd hc (by decide), fun _ => ⟨62, rfl, iN_vp (j := 1) (by decide) (by decide), by have e9 : gA (sI s1 58 4 0) 62 1 = iN v.1.2.1 := M1.2.1; exact (show post (gA (sI s1 58 4 0) 62 1) _ by rw [e9]; exact K)⟩, fun hc => absurd hc (by decide), fun hc => absurd hc (by decide), fun hc => absurd hc (by decide), fun hc => absurd hc (by decide), fun hc => absurd hc (by decide), fun hc => absurd hc (by decide), fun hc => absurd hc (by decide), fun hc => absurd hc (by decide), fun hc => absurd hc (by decide), fun hc => absurd hc (by decide), fun hc => absurd hc (by decide), trivial⟩⟩
    · refine h_ok (PC := fun post pex => P_X11_count 0 (iN 2) st post pex) (PM := P_X12_count 58 (iN 2)) (v2 := v) (r := tieC v.1.1 v.1.2.1 v.2.1.1) HM HO (fun post h => ?_) (fun s1 post I0 h => ?_)
      · exact ⟨tb_out, s_needW (l := 12) (by decide) (by decide) ⟨fun hc => absurd hc (by decide), fun hc => absurd hc (by decide), fun hc => absurd hc (by decide), fun _ => ⟨3, rfl, da_o D.hd, s_tieCount D (by rw [ch31, hc]; exact h st CFr.rf H)⟩, fun hc => absurd hc (by decide), fun hc => absurd hc (by decide), fun hc => absurd hc (by decide), fun hc => absurd hc (by decide), fun hc => absurd hc (by decide), fun hc => absurd hc (by decide), fun hc => absurd hc (by decide), trivial⟩⟩
      · have I1 := I0.qmr (QMr.code 0)
        have M1 := I1.1
        have eC := I1.c
        have K := h _ (QMr.code (nb := v.1.2.1) 0).mfr I1 (gI_sI _ _ _ _)
        exact ⟨rfl, ⟨fun hc => absurd hc (by decide), fun hc => absurd hc (by decide), fun hc => absurd hc (by decide), fun _ => ⟨⟨_, rfl⟩, s_tieMany (nb := v.1.2.1) M1 (by rw [eC]; exact K)⟩, fun hc => absurd hc (by decide), fun hc => absurd hc (by decide), fun hc => absurd hc (by decide), fun hc => absurd hc (by decide), fun hc => absurd hc (by decide), fun hc => absurd hc (by decide), fun hc => absurd hc (by decide), fun hc => absurd hc (by decide), fun hc => absurd hc (by decide), fun hc => absurd hc (by decide), trivial⟩⟩
    · refine h_ok (PC := fun post pex => P_X11_count 0 (iN 3) st post pex) (PM := P_X12_count 58 (iN 3)) (v2 := v) (r := v.2.1.1 0) HM HO (fun post h => ?_) (fun s1 post I0 h => ?_)
      · exact ⟨tb_out, s_needW (l := 12) (by decide) (by decide) ⟨fun hc => absurd hc (by decide), fun hc => absurd hc (by decide), fun hc => absurd hc (by decide), fun hc => absurd hc (by decide), fun _ => ⟨3, rfl, da_o D.hd, s_today D.hd (by rw [ch31, hc]; exact h st CFr.rf H)⟩, fun hc => absurd hc (by decide), fun hc => absurd hc (by decide), fun hc => absurd hc (by decide), fun hc => absurd hc (by decide), fun hc => absurd hc (by decide), fun hc => absurd hc (by decide), trivial⟩⟩
      · have I1 := I0.qmr (QMr.code 0)
        have M1 := I1.1
        have eC := I1.c
        have K := h _ (QMr.code (nb := v.1.2.1) 0).mfr I1 (gI_sI _ _ _ _)
        exact ⟨rfl, ⟨fun hc => absurd hc (by decide), fun hc => absurd hc (by decide), fun hc => absurd hc (by decide), fun hc => absurd hc (by decide), fun _ => ⟨rfl, by have e9 : gI (sI s1 58 4 0) 58 36 = v.2.1.1 0 := (congrFun eC 0); exact (show post (gI (sI s1 58 4 0) 58 36) _ by rw [e9]; exact K)⟩, fun hc => absurd hc (by decide), fun hc => absurd hc (by decide), fun hc => absurd hc (by decide), fun hc => absurd hc (by decide), fun hc => absurd hc (by decide), fun hc => absurd hc (by decide), fun hc => absurd hc (by decide), fun hc => absurd hc (by decide), fun hc => absurd hc (by decide), trivial⟩⟩
    · refine h_ok (PC := fun post pex => P_X11_count 0 (iN 4) st post pex) (PM := P_X12_count 58 (iN 4)) (v2 := v) (r := homeB v.1.2.1 v.2.1.1) HM HO (fun post h => ?_) (fun s1 post I0 h => ?_)
      · exact ⟨tb_out, s_needW (l := 12) (by decide) (by decide) ⟨fun hc => absurd hc (by decide), fun hc => absurd hc (by decide), fun hc => absurd hc (by decide), fun hc => absurd hc (by decide), fun hc => absurd hc (by decide), fun _ => ⟨3, rfl, da_o D.hd, s_homeBits D (by rw [ch31, hc]; exact h st CFr.rf H)⟩, fun hc => absurd hc (by decide), fun hc => absurd hc (by decide), fun hc => absurd hc (by decide), fun hc => absurd hc (by decide), fun hc => absurd hc (by decide), trivial⟩⟩
      · have I1 := I0.qmr (QMr.code 0)
        have M1 := I1.1
        have eC := I1.c
        have K := h _ (QMr.code (nb := v.1.2.1) 0).mfr I1 (gI_sI _ _ _ _)
        exact ⟨rfl, ⟨fun hc => absurd hc (by decide), fun hc => absurd hc (by decide), fun hc => absurd hc (by decide), fun hc => absurd hc (by decide), fun hc => absurd hc (by decide), fun _ => ⟨⟨_, rfl⟩, s_atHome (nb := v.1.2.1) M1 (by rw [eC]; exact K)⟩, fun hc => absurd hc (by decide), fun hc => absurd hc (by decide), fun hc => absurd hc (by decide), fun hc => absurd hc (by decide), fun hc => absurd hc (by decide), fun hc => absurd hc (by decide), fun hc => absurd hc (by decide), fun hc => absurd hc (by decide), trivial⟩⟩
    · refine h_ok (PC := fun post pex => P_X11_count 0 (iN 5) st post pex) (PM := P_X12_count 58 (iN 5)) (v2 := v) (r := v.2.1.1 1) HM HO (fun post h => ?_) (fun s1 post I0 h => ?_)
      · exact ⟨tb_out, s_needW (l := 12) (by decide) (by decide) ⟨fun hc => absurd hc (by decide), fun hc => absurd hc (by decide), fun hc => absurd hc (by decide), fun hc => absurd hc (by decide), fun hc => absurd hc (by decide), fun hc => absurd hc (by decide), fun _ => ⟨3, rfl, da_o D.hd, s_dogCount D.hd (by rw [ch31, hc]; exact h st CFr.rf H)⟩, fun hc => absurd hc (by decide), fun hc => absurd hc (by decide), fun hc => absurd hc (by decide), fun hc => absurd hc (by decide), trivial⟩⟩
      · have I1 := I0.qmr (QMr.code 0)
        have M1 := I1.1
        have eC := I1.c
        have K := h _ (QMr.code (nb := v.1.2.1) 0).mfr I1 (gI_sI _ _ _ _)
        exact ⟨rfl, ⟨fun hc => absurd hc (by decide), fun hc => absurd hc (by decide), fun hc => absurd hc (by decide), fun hc => absurd hc (by decide), fun hc => absurd hc (by decide), fun hc => absurd hc (by decide), fun _ => ⟨rfl, by have e9 : gI (sI s1 58 4 0) 58 37 = v.2.1.1 1 := (congrFun eC 1); exact (show post (gI (sI s1 58 4 0) 58 37) _ by rw [e9]; exact K)⟩, fun hc => absurd hc (by decide), fun hc => absurd hc (by decide), fun hc => absurd hc (by decide), fun hc => absurd hc (by decide), fun hc => absurd hc (by decide), fun hc => absurd hc (by decide), fun hc => absurd hc (by decide), trivial⟩⟩
    · refine h_ok (PC := fun post pex => P_X11_count 0 (iN 6) st post pex) (PM := P_X12_count 58 (iN 6)) (v2 := v) (r := griefA v.1.1 v.2.1.1) HM HO (fun post h => ?_) (fun s1 post I0 h => ?_)
      · exact ⟨tb_out, s_needW (l := 12) (by decide) (by decide) ⟨fun hc => absurd hc (by decide), fun hc => absurd hc (by decide), fun hc => absurd hc (by decide), fun hc => absurd hc (by decide), fun hc => absurd hc (by decide), fun hc => absurd hc (by decide), fun hc => absurd hc (by decide), fun _ => ⟨3, rfl, da_o D.hd, s_griefOfAll D (by rw [ch31, hc]; exact h st CFr.rf H)⟩, fun hc => absurd hc (by decide), fun hc => absurd hc (by decide), fun hc => absurd hc (by decide), trivial⟩⟩
      · have I1 := I0.qmr (QMr.code 0)
        have M1 := I1.1
        have eC := I1.c
        have K := h _ (QMr.code (nb := v.1.2.1) 0).mfr I1 (gI_sI _ _ _ _)
        exact ⟨rfl, ⟨fun hc => absurd hc (by decide), fun hc => absurd hc (by decide), fun hc => absurd hc (by decide), fun hc => absurd hc (by decide), fun hc => absurd hc (by decide), fun hc => absurd hc (by decide), fun hc => absurd hc (by decide), fun _ => ⟨⟨_, rfl⟩, s_allGrief (nb := v.1.2.1) M1 (by rw [eC]; exact K)⟩, fun hc => absurd hc (by decide), fun hc => absurd hc (by decide), fun hc => absurd hc (by decide), fun hc => absurd hc (by decide), fun hc => absurd hc (by decide), fun hc => absurd hc (by decide), trivial⟩⟩
    · refine h_ok (PC := fun post pex => P_X11_count 0 (iN 7) st post pex) (PM := P_X12_count 58 (iN 7)) (v2 := v) (r := iN v.2.1.2.1.1) HM HO (fun post h => ?_) (fun s1 post I0 h => ?_)
      · exact ⟨tb_out, s_needW (l := 12) (by decide) (by decide) ⟨fun hc => absurd hc (by decide), fun hc => absurd hc (by decide), fun hc => absurd hc (by decide), fun hc => absurd hc (by decide), fun hc => absurd hc (by decide), fun hc => absurd hc (by decide), fun hc => absurd hc (by decide), fun hc => absurd hc (by decide), fun _ => ⟨2, rfl, 7, rfl, rfl, by obtain ⟨f, _, _, e, _⟩ := B.2.1; have e2 : gI st 7 2 = iN v.2.1.2.1.1 := e; rw [e2]; exact h st CFr.rf H⟩, fun hc => absurd hc (by decide), fun hc => absurd hc (by decide), trivial⟩⟩
      · have I1 := I0.qmr (QMr.code 0)
        have M1 := I1.1
        have eC := I1.c
        have K := h _ (QMr.code (nb := v.1.2.1) 0).mfr I1 (gI_sI _ _ _ _)
        exact ⟨rfl, ⟨fun hc => absurd hc (by decide), fun hc => absurd hc (by decide), fun hc => absurd hc (by decide), fun hc => absurd hc (by decide), fun hc => absurd hc (by decide), fun hc => absurd hc (by decide), fun hc => absurd hc (by decide), fun hc => absurd hc (by decide), fun _ => ⟨rfl, by have e9 : gI (sI s1 58 4 0) 58 38 = iN v.2.1.2.1.1 := I1.2.1.2.1; exact (show post (gI (sI s1 58 4 0) 58 38) _ by rw [e9]; exact K)⟩, fun hc => absurd hc (by decide), fun hc => absurd hc (by decide), fun hc => absurd hc (by decide), fun hc => absurd hc (by decide), fun hc => absurd hc (by decide), trivial⟩⟩
    · refine h_ok (PC := fun post pex => P_X11_count 0 (iN 8) st post pex) (PM := P_X12_count 58 (iN 8)) (v2 := v) (r := iN v.2.1.2.2.1.1) HM HO (fun post h => ?_) (fun s1 post I0 h => ?_)
      · exact ⟨tb_out, s_needW (l := 12) (by decide) (by decide) ⟨fun hc => absurd hc (by decide), fun hc => absurd hc (by decide), fun hc => absurd hc (by decide), fun hc => absurd hc (by decide), fun hc => absurd hc (by decide), fun hc => absurd hc (by decide), fun hc => absurd hc (by decide), fun hc => absurd hc (by decide), fun hc => absurd hc (by decide), fun _ => ⟨2, rfl, 9, rfl, rfl, by have e2 : gI st 9 5 = iN v.2.1.2.2.1.1 := B.2.2.1; rw [e2]; exact h st CFr.rf H⟩, fun hc => absurd hc (by decide), trivial⟩⟩
      · have I1 := I0.qmr (QMr.code 0)
        have M1 := I1.1
        have eC := I1.c
        have K := h _ (QMr.code (nb := v.1.2.1) 0).mfr I1 (gI_sI _ _ _ _)
        exact ⟨rfl, ⟨fun hc => absurd hc (by decide), fun hc => absurd hc (by decide), fun hc => absurd hc (by decide), fun hc => absurd hc (by decide), fun hc => absurd hc (by decide), fun hc => absurd hc (by decide), fun hc => absurd hc (by decide), fun hc => absurd hc (by decide), fun hc => absurd hc (by decide), fun _ => ⟨rfl, by have e9 : gI (sI s1 58 4 0) 58 39 = iN v.2.1.2.2.1.1 := I1.2.1.2.2.2.1; exact (show post (gI (sI s1 58 4 0) 58 39) _ by rw [e9]; exact K)⟩, fun hc => absurd hc (by decide), fun hc => absurd hc (by decide), fun hc => absurd hc (by decide), fun hc => absurd hc (by decide), trivial⟩⟩
    · refine h_ok (PC := fun post pex => P_X11_count 0 (iN 9) st post pex) (PM := P_X12_count 58 (iN 9)) (v2 := v) (r := iN v.2.2.2.1.1) HM HO (fun post h => ?_) (fun s1 post I0 h => ?_)
      · exact ⟨tb_out, s_needW (l := 12) (by decide) (by decide) ⟨fun hc => absurd hc (by decide), fun hc => absurd hc (by decide), fun hc => absurd hc (by decide), fun hc => absurd hc (by decide), fun hc => absurd hc (by decide), fun hc => absurd hc (by decide), fun hc => absurd hc (by decide), fun hc => absurd hc (by decide), fun hc => absurd hc (by decide), fun hc => absurd hc (by decide), fun _ => ⟨rfl, by rw [hT]; exact h st CFr.rf H⟩, trivial⟩⟩
      · have I1 := I0.qmr (QMr.code 0)
        have M1 := I1.1
        have eC := I1.c
        have K := h _ (QMr.code (nb := v.1.2.1) 0).mfr I1 (gI_sI _ _ _ _)
        exact ⟨rfl, ⟨fun hc => absurd hc (by decide), fun hc => absurd hc (by decide), fun hc => absurd hc (by decide), fun hc => absurd hc (by decide), fun hc => absurd hc (by decide), fun hc => absurd hc (by decide), fun hc => absurd hc (by decide), fun hc => absurd hc (by decide), fun hc => absurd hc (by decide), fun hc => absurd hc (by decide), fun _ => ⟨rfl, by have e9 : gI (sI s1 58 4 0) 58 16 = iN v.2.2.2.1.1 := I1.2.2.2.2.1; exact (show post (gI (sI s1 58 4 0) 58 16) _ by rw [e9]; exact K)⟩, fun hc => absurd hc (by decide), fun hc => absurd hc (by decide), fun hc => absurd hc (by decide), trivial⟩⟩
    · refine h_ok (PC := fun post pex => P_X11_count 0 (iN 10) st post pex) (PM := P_X12_count 58 (iN 10)) (v2 := v) (r := v.2.1.2.2.2 0) HM HO (fun post h => ?_) (fun s1 post I0 h => ?_)
      · exact ⟨tb_out, s_needW (l := 12) (by decide) (by decide) ⟨fun _ => ⟨2, rfl, 15, rfl, (show vp_in (iN 0) 3 from iN_vp (by decide) (by decide)), by have e2 : gA st 15 0 = v.2.1.2.2.2 0 := B.2.2.2.2 0 (by decide); exact (show post (gA st 15 0) st by rw [e2]; exact h st CFr.rf H)⟩, fun hc => absurd hc (by decide), fun hc => absurd hc (by decide), fun hc => absurd hc (by decide), fun hc => absurd hc (by decide), fun hc => absurd hc (by decide), fun hc => absurd hc (by decide), fun hc => absurd hc (by decide), fun hc => absurd hc (by decide), fun hc => absurd hc (by decide), fun hc => absurd hc (by decide), trivial⟩⟩
      · have I1 := I0.qmr (QMr.code 0)
        have M1 := I1.1
        have eC := I1.c
        have K := h _ (QMr.code (nb := v.1.2.1) 0).mfr I1 (gI_sI _ _ _ _)
        exact ⟨rfl, ⟨fun hc => absurd hc (by decide), fun hc => absurd hc (by decide), fun hc => absurd hc (by decide), fun hc => absurd hc (by decide), fun hc => absurd hc (by decide), fun hc => absurd hc (by decide), fun hc => absurd hc (by decide), fun hc => absurd hc (by decide), fun hc => absurd hc (by decide), fun hc => absurd hc (by decide), fun hc => absurd hc (by decide), fun _ => ⟨71, rfl, (show vp_in (iN 0) 3 from iN_vp (by decide) (by decide)), by have e9 : gA (sI s1 58 4 0) 71 0 = v.2.1.2.2.2 0 := I1.2.1.2.2.2.2.2 0 (by decide); exact (show post (gA (sI s1 58 4 0) 71 0) _ by rw [e9]; exact K)⟩, fun hc => absurd hc (by decide), fun hc => absurd hc (by decide), trivial⟩⟩
    · refine h_ok (PC := fun post pex => P_X11_count 0 (iN 11) st post pex) (PM := P_X12_count 58 (iN 11)) (v2 := v) (r := v.2.1.2.2.2 1) HM HO (fun post h => ?_) (fun s1 post I0 h => ?_)
      · exact ⟨tb_out, s_needW (l := 12) (by decide) (by decide) ⟨fun _ => ⟨2, rfl, 15, rfl, (show vp_in (iN 1) 3 from iN_vp (by decide) (by decide)), by have e2 : gA st 15 1 = v.2.1.2.2.2 1 := B.2.2.2.2 1 (by decide); exact (show post (gA st 15 1) st by rw [e2]; exact h st CFr.rf H)⟩, fun hc => absurd hc (by decide), fun hc => absurd hc (by decide), fun hc => absurd hc (by decide), fun hc => absurd hc (by decide), fun hc => absurd hc (by decide), fun hc => absurd hc (by decide), fun hc => absurd hc (by decide), fun hc => absurd hc (by decide), fun hc => absurd hc (by decide), fun hc => absurd hc (by decide), trivial⟩⟩
      · have I1 := I0.qmr (QMr.code 0)
        have M1 := I1.1
        have eC := I1.c
        have K := h _ (QMr.code (nb := v.1.2.1) 0).mfr I1 (gI_sI _ _ _ _)
        exact ⟨rfl, ⟨fun hc => absurd hc (by decide), fun hc => absurd hc (by decide), fun hc => absurd hc (by decide), fun hc => absurd hc (by decide), fun hc => absurd hc (by decide), fun hc => absurd hc (by decide), fun hc => absurd hc (by decide), fun hc => absurd hc (by decide), fun hc => absurd hc (by decide), fun hc => absurd hc (by decide), fun hc => absurd hc (by decide), fun hc => absurd hc (by decide), fun _ => ⟨71, rfl, (show vp_in (iN 1) 3 from iN_vp (by decide) (by decide)), by have e9 : gA (sI s1 58 4 0) 71 1 = v.2.1.2.2.2 1 := I1.2.1.2.2.2.2.2 1 (by decide); exact (show post (gA (sI s1 58 4 0) 71 1) _ by rw [e9]; exact K)⟩, fun hc => absurd hc (by decide), trivial⟩⟩
    · refine h_ok (PC := fun post pex => P_X11_count 0 (iN 12) st post pex) (PM := P_X12_count 58 (iN 12)) (v2 := v) (r := v.2.1.2.2.2 2) HM HO (fun post h => ?_) (fun s1 post I0 h => ?_)
      · exact ⟨tb_out, s_needW (l := 12) (by decide) (by decide) ⟨fun _ => ⟨2, rfl, 15, rfl, (show vp_in (iN 2) 3 from iN_vp (by decide) (by decide)), by have e2 : gA st 15 2 = v.2.1.2.2.2 2 := B.2.2.2.2 2 (by decide); exact (show post (gA st 15 2) st by rw [e2]; exact h st CFr.rf H)⟩, fun hc => absurd hc (by decide), fun hc => absurd hc (by decide), fun hc => absurd hc (by decide), fun hc => absurd hc (by decide), fun hc => absurd hc (by decide), fun hc => absurd hc (by decide), fun hc => absurd hc (by decide), fun hc => absurd hc (by decide), fun hc => absurd hc (by decide), fun hc => absurd hc (by decide), trivial⟩⟩
      · have I1 := I0.qmr (QMr.code 0)
        have M1 := I1.1
        have eC := I1.c
        have K := h _ (QMr.code (nb := v.1.2.1) 0).mfr I1 (gI_sI _ _ _ _)
        exact ⟨rfl, ⟨fun hc => absurd hc (by decide), fun hc => absurd hc (by decide), fun hc => absurd hc (by decide), fun hc => absurd hc (by decide), fun hc => absurd hc (by decide), fun hc => absurd hc (by decide), fun hc => absurd hc (by decide), fun hc => absurd hc (by decide), fun hc => absurd hc (by decide), fun hc => absurd hc (by decide), fun hc => absurd hc (by decide), fun hc => absurd hc (by decide), fun hc => absurd hc (by decide), fun _ => ⟨71, rfl, (show vp_in (iN 2) 3 from iN_vp (by decide) (by decide)), by have e9 : gA (sI s1 58 4 0) 71 2 = v.2.1.2.2.2 2 := I1.2.1.2.2.2.2.2 2 (by decide); exact (show post (gA (sI s1 58 4 0) 71 2) _ by rw [e9]; exact K)⟩, trivial⟩⟩
  · refine h_thr (PC := fun post pex => P_X11_count 0 a st post pex) (PM := P_X12_count 58 a) (X := NSE) (k := 1) (by decide) H HM HO (fun pex h => ⟨tb_out, s_needW0 (l := 12) (by decide) ha h⟩) (fun s1 post I0 h => ?_) (fun h => ⟨rfl, h⟩)
    have hx : a.toInt < 0 ∨ 12 < a.toInt := by
      rw [isI_iff (by decide)] at ha
      omega
    have I1 := (I0.qmr (QMr.code 0)).qmr (QMr.code 1)
    refine ⟨rfl, fun _ => ⟨⟨_, rfl⟩, s_fail (h _ _ ((QMr.code (nb := v.1.2.1) 0).tr (QMr.code 1)).mfr I1 (gI_sI _ _ _ _))⟩, fun hc => (by exfalso; omega), fun hc => (by exfalso; omega), fun hc => (by exfalso; omega), fun hc => (by exfalso; omega), fun hc => (by exfalso; omega), fun hc => (by exfalso; omega), fun hc => (by exfalso; omega), fun hc => (by exfalso; omega), fun hc => (by exfalso; omega), fun hc => (by exfalso; omega), fun hc => (by exfalso; omega), fun hc => (by exfalso; omega), fun hc => (by exfalso; omega), trivial⟩
