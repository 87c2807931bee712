/-! PURE: the reference's wedding, grief, day -/
theorem wgF_eq {q : PD} (hq : PDok q) {c : Nat → Int32} {b : Nat} (hb : b < 6) {p : Nat} (hp : p < q.1) : wgF q (upd c (38 + 3 * b + 1) 0) b (iN p) = weighF q c p b := by
  have q1 := hq.1
  unfold wgF
  rw [if_neg (iN_ne_m1 (by omega)), iN_cl (by omega), weighF_upd (Or.inr ⟨b, hb, Or.inl rfl⟩) (by omega) hb]
theorem CI_hl {q : PD} (hq : PDok q) {c : Nat → Int32} {b p0 : Nat} (hp0 : p0 < q.1) (h : CI q c) : CI q (upd (upd c (38 + 3 * b + 1) 0) (38 + 3 * b + 2) (iN p0)) := by
  have q1 := hq.1
  obtain ⟨h1, h2, h3⟩ := h
  have q2 := hq.2.1
  by_cases hb : b < q.2.1
  · refine ⟨fun p hp b2 hb2 => ?_, fun p hp => ?_, fun b2 hb2 => ?_⟩
    · rw [upd_ne (by omega), upd_ne (by omega)]; exact h1 p hp b2 hb2
    · rw [upd_ne (by omega), upd_ne (by omega)]; exact h2 p hp
    · by_cases e : b2 = b
      · subst e
        rw [upd_ne (show 38 + 3 * b2 + 1 ≠ 38 + 3 * b2 + 2 by omega), upd_same, upd_same]
        exact ⟨Or.inl rfl, fun z => absurd z (by decide), Or.inr ⟨p0, hp0, rfl⟩⟩
      · rw [upd_ne (show 38 + 3 * b2 + 1 ≠ 38 + 3 * b + 2 by omega), upd_ne (show 38 + 3 * b2 + 1 ≠ 38 + 3 * b + 1 by omega), upd_ne (show 38 + 3 * b2 + 2 ≠ 38 + 3 * b + 2 by omega), upd_ne (show 38 + 3 * b2 + 2 ≠ 38 + 3 * b + 1 by omega)]
        exact h3 b2 hb2
  · refine ⟨fun p hp b2 hb2 => ?_, fun p hp => ?_, fun b2 hb2 => ?_⟩
    · by_cases e : 56 + 6 * p + b2 = 38 + 3 * b + 2
      · rw [e, upd_same]
        have : iN 0 ≤ iN p0 := (iN_le (by omega) (by omega)).mpr (Nat.zero_le _)
        exact this
      · rw [upd_ne e]
        by_cases e2 : 56 + 6 * p + b2 = 38 + 3 * b + 1
        · rw [e2, upd_same]; exact Int32.le_refl _
        · rw [upd_ne e2]; exact h1 p hp b2 hb2
    · rw [upd_ne (by omega), upd_ne (by omega)]; exact h2 p hp
    · rw [upd_ne (by omega), upd_ne (by omega), upd_ne (by omega), upd_ne (by omega)]
      exact h3 b2 hb2
theorem smd78 : SMd 78 := Or.inl ⟨by decide, by decide⟩
theorem smd79 : SMd 79 := Or.inl ⟨by decide, by decide⟩
theorem smd73 : SMd 73 := Or.inl ⟨by decide, by decide⟩
theorem smd75 : SMd 75 := Or.inl ⟨by decide, by decide⟩
theorem smd76 : SMd 76 := Or.inl ⟨by decide, by decide⟩
theorem smd84 : SMd 84 := Or.inr (Or.inr (Or.inr rfl))
set_option maxHeartbeats 2000000 in
theorem s_lead {st : St} {q : PD} (M : MPl st q) {b : Nat} (hb : b < q.2.1) (hC : CI q (mC q.2.1 st)) (hh : gA st 78 b = 1) {post : St → Prop}
    (h : ∀ st2, Fx IMd SMd st st2 → mC q.2.1 st2 = (giveF q (mC q.2.1 st, gA st 84) b (heavF q (mC q.2.1 st) b)).1 → gA st2 84 = (giveF q (mC q.2.1 st, gA st 84) b (heavF q (mC q.2.1 st) b)).2 → post st2) : P_X12_lead 58 (iN b) st post := by
  have hq := M.2.2.2.2.2.1
  have q1 := hq.1
  have q2 := hq.2.1
  have hb6 : b < 6 := by omega
  have vb : ∀ a, al 0 a = 6 → vp_in (iN b) (al 0 a) := fun a e => by rw [e]; exact iN_vp hb6 (by decide)
  refine ⟨⟨_, rfl⟩, s_leaderNow M hb hC (fun st2 hE => ?_)⟩
  rw [iN_cl (by omega)]
  have hF2 : Fx IMd SMd st st2 := Ex.fw hE smw_d
  have M2 := M.ex hE smw_p
  have eC : mC q.2.1 st2 = mC q.2.1 st := mC_ex hE smw_m _
  have e84 : gA st2 84 = gA st 84 := hE.eA (by unfold SMw; decide)
  generalize hc : mC q.2.1 st = c at *
  have hhome : c (38 + 3 * b + 1) = 1 := by rw [← hc]; exact (rC_h hb6).trans hh
  have hlm : c (38 + 3 * b + 2) = -1 := (hC.2.2 b hb).2.1 hhome
  refine ⟨78, rfl, vb 78 rfl, 79, rfl, vb 79 rfl, 84, rfl, ?_⟩
  generalize hz : leadF q c b = z
  have hF3 : Fx IMd SMd st (sA (sA st2 78 b 0) 79 b z) := (hF2.tr (Fx.sa smd78 _ _)).tr (Fx.sa smd79 _ _)
  have eC3 : mC q.2.1 (sA (sA st2 78 b 0) 79 b z) = upd (upd c (38 + 3 * b + 1) 0) (38 + 3 * b + 2) z := by rw [mC_sle ⟨hb, hb6⟩, mC_sh hb6, eC]
  have e843 : gA (sA (sA st2 78 b 0) 79 b z) 84 = gA st 84 := by rw [gA_sA_ne (by decide), gA_sA_ne (by decide), e84]
  rcases lead_cases q q1 c b with ⟨e1, e2⟩ | ⟨p, hp, e1, e2, e3⟩
  · have hzm : z = -1 := by rw [← hz]; exact e1
    refine ⟨fun hne => absurd hzm hne, fun _ => ?_⟩
    have hw0 : wgF q (upd c (38 + 3 * b + 1) 0) b (heavF q c b) = 0 := by
      rcases e2 with e | ⟨p, hp, e, ew⟩
      · unfold wgF; rw [if_pos e]
      · rw [e, wgF_eq hq hb6 hp, ew]
    have hg1 : (giveF q (c, gA st 84) b (heavF q c b)).1 = upd (upd c (38 + 3 * b + 1) 0) 1 (c 1 + 1) := by
      show giveC _ b _ (wgF q _ b _) = _
      rw [hw0]
      unfold giveC
      rw [if_neg (by decide), upd_ne (show 1 ≠ 38 + 3 * b + 1 by omega)]
    have hg2 : (giveF q (c, gA st 84) b (heavF q c b)).2 = upd (gA st 84) b 0 := by
      show upd _ b (wgF q _ b _) = _
      rw [hw0]
    rw [hg1, hg2] at h
    unfold P_X12_lead_40
    rw [iN_cl (by omega)]
    refine ⟨vb 84 rfl, fun hne => absurd hzm hne, fun _ => ⟨rfl, rfl, h _ ((hF3.tr (Fx.sa smd84 _ _)).tr (Fx.si ⟨rfl, Or.inr rfl⟩ _)) ?_ ?_⟩⟩
    · rw [mC_sk, mC_sx (by unfold isM; decide), eC3, hzm, upd_id (f := upd c (38 + 3 * b + 1) 0) (by rw [upd_ne (by omega)]; exact hlm)]
      have eg : gI (sA (sA (sA st2 78 b 0) 79 b (-1)) 84 b 0) 58 37 = c 1 := by
        rw [gI_sA, gI_sA, gI_sA, ← eC]; rfl
      rw [eg]
    · rw [gA_sI, gA_sA, e843]
  · have hzp : z = iN p := by rw [← hz]; exact e1
    have hne : ¬ z = -1 := by rw [hzp]; exact iN_ne_m1 (by omega)
    refine ⟨fun _ => ⟨⟨_, rfl⟩, ?_⟩, fun he => absurd he hne⟩
    rw [hzp] at eC3 hF3 e843 ⊢
    have M3 := M.fx hF3 smd_p
    refine s_weightOf (nb := q.2.1) M3 hp hb (by rw [eC3]; exact CI_hl hq hp hC) (fun st4 hE4 => ?_)
    rw [eC3, weighF_upd (Or.inr ⟨b, hb6, Or.inr rfl⟩) (by omega) hb6, weighF_upd (Or.inr ⟨b, hb6, Or.inl rfl⟩) (by omega) hb6]
    have hF4 : Fx IMd SMd st st4 := hF3.tr (Ex.fw hE4 smw_d)
    have eC4 : mC q.2.1 st4 = upd (upd c (38 + 3 * b + 1) 0) (38 + 3 * b + 2) (iN p) := by rw [mC_ex hE4 smw_m, eC3]
    have e844 : gA st4 84 = gA st 84 := by rw [hE4.eA (by unfold SMw; decide), e843]
    have hw : wgF q (upd c (38 + 3 * b + 1) 0) b (heavF q c b) = weighF q c p b := by rw [e2]; exact wgF_eq hq hb6 hp
    have hg1 : (giveF q (c, gA st 84) b (heavF q c b)).1 = upd (upd (upd (upd c (38 + 3 * b + 1) 0) (38 + 3 * b + 2) (iN p)) (2 + 4 * p + 3) (c (2 + 4 * p + 3) ||| bit b)) (2 + 4 * p) (c (2 + 4 * p) / 2) := by
      show giveC _ b _ (wgF q _ b _) = _
      rw [hw, e2]
      unfold giveC
      rw [if_pos e3, iN_cl (by omega), upd_ne (show 2 + 4 * p + 3 ≠ 38 + 3 * b + 1 by omega), upd_ne (show 2 + 4 * p ≠ 38 + 3 * b + 1 by omega)]
    have hg2 : (giveF q (c, gA st 84) b (heavF q c b)).2 = upd (gA st 84) b (weighF q c p b) := by
      show upd _ b (wgF q _ b _) = _
      rw [hw]
    rw [hg1, hg2] at h
    have vp : ∀ a, al 0 a = 9 → vp_in (iN p) (al 0 a) := fun a e => by rw [e]; exact iN_vp (by omega) (by decide)
    unfold P_X12_lead_40
    rw [iN_cl (by omega), iN_cl (by omega)]
    refine ⟨vb 84 rfl, fun _ => ⟨73, rfl, vp 73 rfl, vp 73 rfl, 76, rfl, vp 76 rfl, vp 76 rfl, h _ (((hF4.tr (Fx.sa smd84 _ _)).tr (Fx.sa smd73 _ _)).tr (Fx.sa smd76 _ _)) ?_ ?_⟩, fun he => absurd he (iN_ne_m1 (by omega))⟩
    · have g73 : gA st4 73 p = c (2 + 4 * p) := by
        have := rC_g (nb := q.2.1) (dy := gI st4 58 36) (dg := gI st4 58 37) (g := gA st4 73) (t := gA st4 74) (o := gA st4 75) (l := gA st4 76) (w := gA st4 77) (h := gA st4 78) (le := gA st4 79) (ti := gA st4 80) (p := p) (by omega)
        rw [← this]
        show mC q.2.1 st4 _ = _
        rw [eC4, upd_ne (by omega), upd_ne (by omega)]
      have g76 : gA st4 76 p = c (2 + 4 * p + 3) := by
        have := rC_l (nb := q.2.1) (dy := gI st4 58 36) (dg := gI st4 58 37) (g := gA st4 73) (t := gA st4 74) (o := gA st4 75) (l := gA st4 76) (w := gA st4 77) (h := gA st4 78) (le := gA st4 79) (ti := gA st4 80) (p := p) (by omega)
        rw [← this]
        show mC q.2.1 st4 _ = _
        rw [eC4, upd_ne (by omega), upd_ne (by omega)]
      rw [mC_sl (by omega), mC_sg (by omega), mC_sx (by unfold isM; decide), eC4, upd_comm (show 2 + 4 * p ≠ 2 + 4 * p + 3 by omega), gA_sA_ne (show (73 : Nat) ≠ 84 by decide), gA_sA_ne (show (76 : Nat) ≠ 73 by decide), gA_sA_ne (show (76 : Nat) ≠ 84 by decide), g73, g76]
      rfl
    · rw [gA_sA_ne (by decide), gA_sA_ne (by decide), gA_sA, e844]
theorem s_mournsOf {st : St} {q : PD} (M : MPl st q) {p nb : Nat} (hp : p < q.1) (hC : CI q (mC nb st)) {post : Int32 → St → Prop} (h : ∀ st2, Ex SMw st st2 → post (mournF q (mC nb st) p) st2) : P_X12_mournsOf 58 (iN p) st post := by
  have hq := M.2.2.2.2.2.1
  have q1 := hq.1
  have c3 : mC nb st (2 + 4 * p + 3) = gA st 76 p := rC_l (by omega)
  have c1 : mC nb st (2 + 4 * p + 1) = gA st 74 p := rC_t (by omega)
  have e4 : (4 : Int32).toNatClampNeg = 4 := rfl
  unfold P_X12_mournsOf
  rw [e4, iN_cl (by omega)]
  refine ⟨62, rfl, iN_vp (j := 4) (by decide) (by decide), fun ht => ⟨⟨_, rfl⟩, s_ask (nb := nb) M hp (by rw [← c3]; exact sm6_9 (hC.2.1 p hp)) (fun st2 hE hV => ?_)⟩, fun ht => ⟨63, rfl, by rw [al63]; exact iN_vp (by omega) (by decide), ?_⟩⟩
  · have ht1 : q.2.2.2.2.1 ≠ 0 := fun e => ht (M.2.2.2.2.1.1 e)
    have M2 := M.ex hE smw_p
    obtain ⟨et, _, er⟩ := M2.2.2.2.2.1.2 ht1
    refine ⟨70, rfl, 62, rfl, iN_vp (j := 4) (by decide) (by decide), ⟨_, rfl⟩, ?_⟩
    rw [et]
    refine s_valueNow (row := q.2.2.2.2.2.2) rfl (by decide) (hq.2.2.2 ht1) er (fun st5 hE5 => ?_)
    have e8 : work q.2.2.2.2.2.2 q.2.2.2.2.2.1 (vM q (mC nb st) p) = work q.2.2.2.2.2.2 q.2.2.2.2.2.1 (gA st2 82) := by
      unfold work
      rw [work_congr (vb := gA st2 82) 5 _ (M.2.2.2.2.2.2 ht1) (fun j hj => (hV j hj).symm)]
    have e9 := h st5 (hE.tr (hE5.wk (fun a ha => Or.inr ha)))
    unfold mournF at e9
    rw [if_neg ht1, e8] at e9
    rw [kp_m]
    exact e9
  · have ht0 : q.2.2.2.2.1 = 0 := by
      by_cases e : q.2.2.2.2.1 = 0
      · exact e
      · obtain ⟨e1, e2, _⟩ := M.2.2.2.2.1.2 e
        have e5 := (hq.2.2.2 e).1
        rw [e1] at ht
        have : iN q.2.2.2.2.2.1 = iN 0 := ht
        rw [iN_eq (by omega) (by omega)] at this
        omega
    have e9 := h st Ex.rf
    unfold mournF at e9
    rw [if_pos ht0, c1, ← M.2.2.1 p hp] at e9
    refine ⟨fun hk => ⟨74, rfl, (show vp_in (iN p) 9 from iN_vp (by omega) (by decide)), ?_⟩, fun hk => ?_⟩
    · rw [if_neg hk] at e9; exact e9
    · rw [if_pos hk] at e9; exact e9
set_option maxHeartbeats 1000000 in
theorem s_aDay48 {st : St} {q : PD} (M : MPl st q) (hC : CI q (mC q.2.1 st)) {post : St → Prop}
    (h : ∀ st2, Fx IMd SMd st st2 → mC q.2.1 st2 = upd (mors q (mC q.2.1 st) q.1) 0 (mors q (mC q.2.1 st) q.1 0 + 1) → gA st2 84 = gA st 84 → post st2) : ∃ n8, P_X12_aDay_48 58 post n8 0 st := by
  have hq := M.2.2.2.2.2.1
  have q1 := hq.1
  generalize hc : mC q.2.1 st = c at *
  refine ⟨q.1 + 1, loop_up (α := Unit) (P := fun n i _ st => P_X12_aDay_48 58 post n i st) (N := q.1) (fun i _ st' => Fx IMd SMd st st' ∧ mC q.2.1 st' = mors q c i ∧ gA st' 84 = gA st 84) ?_ ?_ q.1 0 () st (by omega) ⟨Fx.rf, hc, rfl⟩⟩
  · rintro i hi _ st' n ⟨hF, h1, h2⟩ ih
    have M2 := M.fx hF smd_p
    have vp : ∀ a, al 0 a = 9 → vp_in (iN i) (al 0 a) := fun a e => by rw [e]; exact iN_vp (by omega) (by decide)
    have hCi : CI q (mC q.2.1 st') := by rw [h1]; exact CI_mors hq hC i (by omega)
    show P_X12_aDay_48 58 post (n + 1) (iN i) st'
    unfold P_X12_aDay_48
    rw [iN_cl (by omega)]
    refine ⟨62, rfl, vp0 _ (by decide) (by decide), fun hc => ?_, fun _ => ⟨73, rfl, 73, rfl, vp 73 rfl, ⟨_, rfl⟩, s_mournsOf M2 hi hCi (fun st2 hE2 => ⟨vp 73 rfl, 75, rfl, 75, rfl, vp 75 rfl, vp 75 rfl, ?_⟩)⟩⟩
    · have e : gA st' 62 (0 : Int32).toNatClampNeg = iN q.1 := M2.1
      rw [e, iN_le (by omega) (by omega)] at hc; omega
    have g73 : gA st' 73 i = mors q c i (2 + 4 * i) := by rw [← h1]; exact (rC_g (by omega)).symm
    have g75 : gA st2 75 i = mors q c i (2 + 4 * i + 2) := by rw [hE2.eA (by unfold SMw; decide), ← h1]; exact (rC_o (by omega)).symm
    rw [iN_s]
    refine ih () _ ⟨((hF.tr (Ex.fw hE2 smw_d)).tr (Fx.sa smd73 _ _)).tr (Fx.sa smd75 _ _), ?_, ?_⟩
    · rw [mC_so (by omega), mC_sg (by omega), mC_ex hE2 smw_m, h1, gA_sA_ne (show (75 : Nat) ≠ 73 by decide), g73, g75]
      show _ = morF q i (mors q c i)
      unfold morF
      rfl
    · rw [gA_sA_ne (by decide), gA_sA_ne (by decide), hE2.eA (by unfold SMw; decide), h2]
  · rintro _ st' n ⟨hF, h1, h2⟩
    have M2 := M.fx hF smd_p
    show P_X12_aDay_48 58 post (n + 1) (iN q.1) st'
    unfold P_X12_aDay_48
    refine ⟨62, rfl, vp0 _ (by decide) (by decide), fun _ => ⟨rfl, rfl, h _ (hF.tr (Fx.si ⟨rfl, Or.inl rfl⟩ _)) ?_ ?_⟩, fun hc => absurd ?_ hc⟩
    · have e : gI st' 58 36 = mors q c q.1 0 := by rw [← h1]; rfl
      rw [mC_sd, h1, e]
    · rw [gA_sI, h2]
    · have e : gA st' 62 (0 : Int32).toNatClampNeg = iN q.1 := M2.1
      rw [e]; exact Int32.le_refl _
set_option maxHeartbeats 1000000 in
theorem s_aDay {st : St} {q : PD} (M : MPl st q) (hC : CI q (mC q.2.1 st)) {post : St → Prop}
    (h : ∀ st2, Fx IMd SMd st st2 → mC q.2.1 st2 = (passF q (mC q.2.1 st, gA st 84)).1 → gA st2 84 = (passF q (mC q.2.1 st, gA st 84)).2 → post st2) : P_X12_aDay 58 st post := by
  have hq := M.2.2.2.2.2.1
  have q2 := hq.2.1
  generalize hs0 : ((mC q.2.1 st, gA st 84) : CW) = s0 at *
  have hs01 : mC q.2.1 st = s0.1 := by rw [← hs0]
  have hs02 : gA st 84 = s0.2 := by rw [← hs0]
  rw [hs01] at hC
  refine ⟨q.2.1 + 1, loop_up (α := Unit) (P := fun n i _ st => P_X12_aDay_2 58 post n i st) (N := q.2.1) (fun i _ st' => Fx IMd SMd st st' ∧ mC q.2.1 st' = (weds q s0 i).1 ∧ gA st' 84 = (weds q s0 i).2) ?_ ?_ q.2.1 0 () st (by omega) ⟨Fx.rf, hs01, hs02⟩⟩
  · rintro i hi _ st' n ⟨hF, h1, h2⟩ ih
    have M2 := M.fx hF smd_p
    have hCi : CI q (mC q.2.1 st') := by rw [h1]; exact CI_weds hq hC i (by omega)
    generalize hs : weds q s0 i = s at *
    have hs1 : weds q s0 (i + 1) = wedF q i s := by rw [← hs]; rfl
    rw [hs1] at ih
    have vb : ∀ a, al 0 a = 6 → vp_in (iN i) (al 0 a) := fun a e => by rw [e]; exact iN_vp (by omega) (by decide)
    have g78 : gA st' 78 i = s.1 (38 + 3 * i + 1) := by rw [← h1]; exact (rC_h (by omega)).symm
    have g77 : gA st' 77 i = s.1 (38 + 3 * i) := by rw [← h1]; exact (rC_w (by omega)).symm
    have g0 : gI st' 58 36 = s.1 0 := by rw [← h1]; rfl
    have hskip : ¬ (s.1 (38 + 3 * i + 1) = 1 ∧ s.1 (38 + 3 * i) = s.1 0) → P_X12_aDay_2 58 post n (iN i + 1) st' := fun hn => by
      rw [iN_s]
      exact ih () st' ⟨hF, by rw [h1]; unfold wedF; rw [if_neg hn], by rw [h2]; unfold wedF; rw [if_neg hn]⟩
    show P_X12_aDay_2 58 post (n + 1) (iN i) st'
    unfold P_X12_aDay_2
    rw [iN_cl (by omega)]
    refine ⟨62, rfl, iN_vp (j := 1) (by decide) (by decide), fun hc => ?_, fun _ => ⟨78, rfl, vb 78 rfl, fun hn => hskip (fun z => hn (by rw [g78]; exact z.1)), fun hy => ⟨77, rfl, vb 77 rfl, rfl, fun hn => hskip (fun z => hn (by rw [g77, g0]; exact z.2)), fun he => ⟨⟨_, rfl⟩, s_lead M2 hi hCi hy (fun st3 hF3 e1 e2 => ?_)⟩⟩⟩⟩
    · have e : gA st' 62 (1 : Int32).toNatClampNeg = iN q.2.1 := M2.2.1
      rw [e, iN_le (by omega) (by omega)] at hc; omega
    rw [g78] at hy
    rw [g77, g0] at he
    rw [h1, h2] at e1 e2
    show P_X12_aDay_2 58 post n (iN i + 1) st3
    rw [iN_s]
    refine ih () st3 ⟨hF.tr hF3, ?_, ?_⟩
    · rw [e1]; unfold wedF; rw [if_pos ⟨hy, he⟩]
    · rw [e2]; unfold wedF; rw [if_pos ⟨hy, he⟩]
  · rintro _ st' n ⟨hF, h1, h2⟩
    have M2 := M.fx hF smd_p
    have hCi : CI q (mC q.2.1 st') := by rw [h1]; exact CI_weds hq hC _ (Nat.le_refl _)
    show P_X12_aDay_2 58 post (n + 1) (iN q.2.1) st'
    unfold P_X12_aDay_2
    refine ⟨62, rfl, iN_vp (j := 1) (by decide) (by decide), fun _ => s_aDay48 M2 hCi (fun st2 hF2 e1 e2 => h st2 (hF.tr hF2) ?_ ?_), fun hc => absurd ?_ hc⟩
    · rw [e1, h1]; rfl
    · rw [e2, h2]; rfl
    · have e : gA st' 62 (1 : Int32).toNatClampNeg = iN q.2.1 := M2.2.1
      rw [e]; exact Int32.le_refl _
/-- so many days -/
def itP (q : PD) (s : CW) (n : Nat) : CW := lp (fun _ s => passF q s) s n
theorem CI_it {q : PD} (hq : PDok q) {s : CW} (h : CI q s.1) : ∀ n, CI q (itP q s n).1 := by
  intro n
  induction n with
  | zero => exact h
  | succ n ih => exact CI_pass hq ih
theorem s_goOn {st : St} {q : PD} (M : MPl st q) (hC : CI q (mC q.2.1 st)) {N : Nat} (hN : N < 1000) {post : St → Prop}
    (h : ∀ st2, Fx IMd SMd st st2 → mC q.2.1 st2 = (itP q (mC q.2.1 st, gA st 84) N).1 → gA st2 84 = (itP q (mC q.2.1 st, gA st 84) N).2 → post st2) : P_X12_goOn 58 (iN N) st post := by
  have hq := M.2.2.2.2.2.1
  refine ⟨N + 1, loop_up (α := Unit) (P := fun n i _ st => P_X12_goOn_2 58 (iN N) post n i st) (N := N) (fun i _ st' => Fx IMd SMd st st' ∧ mC q.2.1 st' = (itP q (mC q.2.1 st, gA st 84) i).1 ∧ gA st' 84 = (itP q (mC q.2.1 st, gA st 84) i).2) ?_ ?_ N 0 () st (by omega) ⟨Fx.rf, rfl, rfl⟩⟩
  · rintro i hi _ st' n ⟨hF, h1, h2⟩ ih
    have M2 := M.fx hF smd_p
    have hCi : CI q (mC q.2.1 st') := by rw [h1]; exact CI_it hq hC i
    show P_X12_goOn_2 58 (iN N) post (n + 1) (iN i) st'
    unfold P_X12_goOn_2
    refine ⟨fun hc => ?_, fun _ => ⟨⟨_, rfl⟩, s_aDay M2 hCi (fun st3 hF3 e1 e2 => ?_)⟩⟩
    · rw [iN_le (by omega) (by omega)] at hc; omega
    rw [iN_s]
    rw [h1, h2] at e1 e2
    exact ih () st3 ⟨hF.tr hF3, e1, e2⟩
  · rintro _ st' n ⟨hF, h1, h2⟩
    show P_X12_goOn_2 58 (iN N) post (n + 1) (iN N) st'
    unfold P_X12_goOn_2
    exact ⟨fun _ => h st' hF h1 h2, fun hc => absurd (Int32.le_refl _) hc⟩
