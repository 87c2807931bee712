/-! PURE: who weighs most; a wedding; a day -/
def hvS (q : PD) (c : Nat → Int32) (b p : Nat) (a : Int32 × Int32) : Int32 × Int32 := if weighF q c p b ≤ a.2 then a else (iN p, weighF q c p b)
def hvL (q : PD) (c : Nat → Int32) (b n : Nat) : Int32 × Int32 := lp (hvS q c b) (-1, -1) n
def heavF (q : PD) (c : Nat → Int32) (b : Nat) : Int32 := (hvL q c b q.1).1
theorem hvL_who (q : PD) (c : Nat → Int32) (b : Nat) : ∀ n, (hvL q c b n).1 = -1 ∨ ∃ p, p < n ∧ (hvL q c b n).1 = iN p := by
  intro n
  induction n with
  | zero => exact Or.inl rfl
  | succ n ih =>
    show (hvS q c b n (hvL q c b n)).1 = -1 ∨ ∃ p, p < n + 1 ∧ (hvS q c b n (hvL q c b n)).1 = iN p
    unfold hvS
    split
    · rcases ih with h | ⟨p, h1, h2⟩
      · exact Or.inl h
      · exact Or.inr ⟨p, by omega, h2⟩
    · exact Or.inr ⟨n, by omega, rfl⟩
theorem s_heaviestFor {st : St} {d p b : Nat} {q : PD} (D : DSt st d p q) (hb : b < 6) {post : Int32 → St → Prop} (h : ∀ st2, Ex (ScV d) st st2 → post (heavF q (gA st (ch d 1)) b) st2) : P_X2_heaviestFor d (iN b) st post := by
  have hd := D.hd
  have hq := D.ok.1
  refine ⟨q.1 + 1, loop_up (α := Int32 × Int32) (P := fun n i a st => P_X2_heaviestFor_7 d (iN b) post n a.1 a.2 i st) (N := q.1) (fun i a st' => Ex (ScV d) st st' ∧ a = hvL q (gA st (ch d 1)) b i) ?_ ?_ q.1 0 (-1, -1) st (by omega) ⟨Ex.rf, rfl⟩⟩
  · rintro i hi a st' n ⟨hE, rfl⟩ ih
    have D2 := D.ex (npl_scv hd) hE
    have ec : gA st' (ch d 1) = gA st (ch d 1) := hE.eA (scv_c hd hd)
    show P_X2_heaviestFor_7 d (iN b) post (n + 1) _ _ (iN i) st'
    unfold P_X2_heaviestFor_7
    refine ⟨_, D2.pl, pl_0 D.hp, fun hc => ?_, fun _ => ⟨da_o hd, s_weigh D2 (by omega) hb (fun st2 hE2 => ?_)⟩⟩
    · rw [D2.np, iN_le (by omega) (by omega)] at hc; omega
    rw [ec]
    have hs : hvL q (gA st (ch d 1)) b (i + 1) = hvS q (gA st (ch d 1)) b i (hvL q (gA st (ch d 1)) b i) := rfl
    refine ⟨fun hc => ?_, fun hc => ?_⟩
    · have h9 := ih (hvL q (gA st (ch d 1)) b i) st2 ⟨hE.tr hE2, by rw [hs]; unfold hvS; rw [if_pos hc]⟩
      rw [← iN_s] at h9
      exact h9
    · have h9 := ih (iN i, weighF q (gA st (ch d 1)) i b) st2 ⟨hE.tr hE2, by rw [hs]; unfold hvS; rw [if_neg hc]⟩
      rw [← iN_s] at h9
      exact h9
  · rintro a st' n ⟨hE, rfl⟩
    have D2 := D.ex (npl_scv hd) hE
    show P_X2_heaviestFor_7 d (iN b) post (n + 1) _ _ (iN q.1) st'
    unfold P_X2_heaviestFor_7
    refine ⟨_, D2.pl, pl_0 D.hp, fun _ => h st' hE, fun hc => absurd ?_ hc⟩
    rw [D2.np]; exact Int32.le_refl _
/-- cells and what the leaders weighed -/
abbrev CW : Type := (Nat → Int32) × (Nat → Int32)
def wgF (q : PD) (c1 : Nat → Int32) (b : Nat) (who : Int32) : Int32 := if who = -1 then 0 else weighF q c1 who.toNatClampNeg b
def giveC (c1 : Nat → Int32) (b : Nat) (who w : Int32) : Nat → Int32 :=
  if 0 < w then upd (upd (upd c1 (38 + 3 * b + 2) who) (2 + 4 * who.toNatClampNeg + 3) (c1 (2 + 4 * who.toNatClampNeg + 3) ||| bit b)) (2 + 4 * who.toNatClampNeg) (c1 (2 + 4 * who.toNatClampNeg) / 2) else upd c1 1 (c1 1 + 1)
def giveF (q : PD) (s : CW) (b : Nat) (who : Int32) : CW :=
  (giveC (upd s.1 (38 + 3 * b + 1) 0) b who (wgF q (upd s.1 (38 + 3 * b + 1) 0) b who), upd s.2 b (wgF q (upd s.1 (38 + 3 * b + 1) 0) b who))
def SD (d a : Nat) : Prop := a = ch d 1 ∨ a = ch d 3 ∨ ScV d a
theorem npl_sd {d : Nat} (hd : isDa d) : nPl (SD d) := by
  refine ⟨fun p hp => ?_, fun r hr => ?_⟩
  · rcases hd with rfl | rfl | rfl <;> rcases hp with rfl | rfl <;> unfold SD ScV <;> decide
  · rcases hd with rfl | rfl | rfl <;> rcases hr with rfl | rfl | rfl | rfl <;> unfold SD ScV <;> decide
theorem da_cw {d : Nat} (hd : isDa d) : ch d 1 ≠ ch d 3 := by rcases hd with rfl | rfl | rfl <;> decide
theorem sd_c {d : Nat} : SD d (ch d 1) := Or.inl rfl
theorem sd_w {d : Nat} : SD d (ch d 3) := Or.inr (Or.inl rfl)
theorem sd_v {d a : Nat} (h : ScV d a) : SD d a := Or.inr (Or.inr h)
set_option maxHeartbeats 1000000 in
theorem s_give29 {st : St} {d p b : Nat} {q : PD} (D : DSt st d p q) (hb : b < 6) {who w : Int32} (hw : who = -1 ∨ ∃ x, x < 9 ∧ who = iN x) (h0 : who = -1 → w = 0) {post : St → Prop}
    (h : ∀ st2, Ex (SD d) st st2 → gA st2 (ch d 1) = giveC (gA st (ch d 1)) b who w → gA st2 (ch d 3) = upd (gA st (ch d 3)) b w → post st2) : P_X2_giveAway_29 d (iN b) who post w st := by
  have hd := D.hd
  have e1 : (38 + (iN b * 3)) + 2 = iN (38 + 3 * b + 2) := x_b b 2
  unfold P_X2_giveAway_29
  rw [e1, iN_cl (by omega), iN_cl (by omega)]
  refine ⟨_, da_w hd _, by rw [da_aw hd]; exact iN_vp hb (by decide), fun hp => ?_, fun hp => ⟨_, da_c hd _, by rw [da_ac hd]; exact iN_vp (j := 1) (by decide) (by decide), by rw [da_ac hd]; exact iN_vp (j := 1) (by decide) (by decide), ?_⟩⟩
  · rcases hw with hw | ⟨x, hx, rfl⟩
    · rw [h0 hw] at hp; exact absurd hp (by decide)
    have e2 : (2 + (iN x * 4)) + 3 = iN (2 + 4 * x + 3) := x_g x 3
    rw [e2, iN_cl (by omega)]
    refine ⟨_, da_c hd _, by rw [da_ac hd]; exact iN_vp (by omega) (by decide), _, da_c hd _, by rw [da_ac hd]; exact iN_vp (by omega) (by decide), by rw [da_ac hd]; exact iN_vp (by omega) (by decide), da_o hd, s_griefOf hd hx ⟨da_o hd, s_setGrief hd hx (h _ ?_ ?_ ?_)⟩⟩
    · exact (((Ex.sa sd_w _ _).tr (Ex.sa sd_c _ _)).tr (Ex.sa sd_c _ _)).tr (Ex.sa sd_c _ _)
    · unfold giveC
      rw [if_pos hp, iN_cl (by omega)]
      simp only [gA_sA, gA_sA_ne (da_cw hd)]
      rw [upd_ne (show 2 + 4 * x ≠ 2 + 4 * x + 3 by omega), upd_ne (show 2 + 4 * x ≠ 38 + 3 * b + 2 by omega), upd_ne (show 2 + 4 * x + 3 ≠ 38 + 3 * b + 2 by omega)]
      rfl
    · simp only [gA_sA_ne (da_cw hd).symm, gA_sA]
  · refine h _ ((Ex.sa sd_w _ _).tr (Ex.sa sd_c _ _)) ?_ ?_
    · unfold giveC
      rw [if_neg hp, gA_sA, gA_sA_ne (da_cw hd)]
      rfl
    · rw [gA_sA_ne (da_cw hd).symm, gA_sA]
theorem s_giveAway {st : St} {d p b : Nat} {q : PD} (D : DSt st d p q) (hb : b < 6) {who : Int32} (hw : who = -1 ∨ ∃ x, x < 9 ∧ who = iN x) {post : St → Prop}
    (h : ∀ st2, Ex (SD d) st st2 → gA st2 (ch d 1) = (giveF q (gA st (ch d 1), gA st (ch d 3)) b who).1 → gA st2 (ch d 3) = (giveF q (gA st (ch d 1), gA st (ch d 3)) b who).2 → post st2) : P_X2_giveAway d (iN b) who st post := by
  have hd := D.hd
  have e1 : (38 + (iN b * 3)) + 1 = iN (38 + 3 * b + 1) := x_b b 1
  unfold P_X2_giveAway
  rw [e1, iN_cl (by omega)]
  have E1 : Ex (SD d) st (sA st (ch d 1) (38 + 3 * b + 1) 0) := Ex.sa sd_c _ _
  have D1 := D.ex (npl_sd hd) E1
  refine ⟨_, da_c hd _, by rw [da_ac hd]; exact iN_vp (by omega) (by decide), fun hne => ⟨da_o hd, ?_⟩, fun he => s_give29 D1 hb hw (fun _ => rfl) (fun st2 hE h1 h2 => ?_)⟩
  · rcases hw with hw | ⟨x, hx, rfl⟩
    · exact absurd hw hne
    refine s_weigh D1 hx hb (fun st2 hE => ?_)
    have D2 := D1.ex (npl_scv hd) hE
    refine s_give29 D2 hb (Or.inr ⟨x, hx, rfl⟩) (fun e => absurd e hne) (fun st3 hE3 h1 h2 => ?_)
    have ec : gA st2 (ch d 1) = upd (gA st (ch d 1)) (38 + 3 * b + 1) 0 := by rw [hE.eA (scv_c hd hd), gA_sA]
    have ew : gA st2 (ch d 3) = gA st (ch d 3) := by rw [hE.eA (scv_w hd hd), gA_sA_ne (da_cw hd).symm]
    have eg : wgF q (upd (gA st (ch d 1)) (38 + 3 * b + 1) 0) b (iN x) = weighF q (gA (sA st (ch d 1) (38 + 3 * b + 1) 0) (ch d 1)) x b := by
      unfold wgF
      rw [if_neg hne, gA_sA, iN_cl (by omega)]
    refine h st3 ((E1.tr (hE.wk (fun a ha => sd_v ha))).tr hE3) ?_ ?_
    · rw [h1, ec]
      show _ = giveC _ b _ (wgF q _ b _)
      rw [eg]
    · rw [h2, ew]
      show _ = upd _ b (wgF q _ b _)
      rw [eg]
  · refine h st2 (E1.tr hE) ?_ ?_
    · rw [h1, gA_sA]
      show _ = giveC _ b _ (wgF q _ b _)
      unfold wgF
      rw [if_pos he]
    · rw [h2, gA_sA_ne (da_cw hd).symm]
      show _ = upd _ b (wgF q _ b _)
      unfold wgF
      rw [if_pos he]
/-! a day -/
def wedF (q : PD) (b : Nat) (s : CW) : CW := if s.1 (38 + 3 * b + 1) = 1 ∧ s.1 (38 + 3 * b) = s.1 0 then giveF q s b (heavF q s.1 b) else s
def min99 (x : Int32) : Int32 := if x < 99 then x else 99
def morF (q : PD) (p : Nat) (c : Nat → Int32) : Nat → Int32 := upd (upd c (2 + 4 * p) (min99 (c (2 + 4 * p) + mournF q c p))) (2 + 4 * p + 2) (mx0 (c (2 + 4 * p + 2) - 1))
def weds (q : PD) (s : CW) (n : Nat) : CW := lp (wedF q) s n
def mors (q : PD) (c : Nat → Int32) (n : Nat) : Nat → Int32 := lp (morF q) c n
def passF (q : PD) (s : CW) : CW := (upd (mors q (weds q s q.2.1).1 q.1) 0 (mors q (weds q s q.2.1).1 q.1 0 + 1), (weds q s q.2.1).2)
theorem heav_who {q : PD} (hq : q.1 ≤ 9) (c : Nat → Int32) (b : Nat) : heavF q c b = -1 ∨ ∃ x, x < 9 ∧ heavF q c b = iN x := by
  rcases hvL_who q c b q.1 with h | ⟨x, h1, h2⟩
  · exact Or.inl h
  · exact Or.inr ⟨x, by omega, h2⟩
set_option maxHeartbeats 1000000 in
theorem s_pass51 {st : St} {d p : Nat} {q : PD} (D : DSt st d p q) (hM : okM q.2.2.2.2) {post : St → Prop}
    (h : ∀ st2, Ex (SD d) st st2 → gA st2 (ch d 1) = upd (mors q (gA st (ch d 1)) q.1) 0 (mors q (gA st (ch d 1)) q.1 0 + 1) → gA st2 (ch d 3) = gA st (ch d 3) → post st2) : ∃ n8, P_X2_passDay_51 d post n8 0 st := by
  have hd := D.hd
  have hq := D.ok.1
  refine ⟨q.1 + 1, loop_up (α := Unit) (P := fun n i _ st => P_X2_passDay_51 d post n i st) (N := q.1) (fun i _ st' => Ex (SD d) st st' ∧ gA st' (ch d 1) = mors q (gA st (ch d 1)) i ∧ gA st' (ch d 3) = gA st (ch d 3)) ?_ ?_ q.1 0 () st (by omega) ⟨Ex.rf, rfl, rfl⟩⟩
  · rintro i hi _ st' n ⟨hE, hc1, hc2⟩ ih
    have D2 := D.ex (npl_sd hd) hE
    show P_X2_passDay_51 d post (n + 1) (iN i) st'
    unfold P_X2_passDay_51
    refine ⟨_, D2.pl, pl_0 D.hp, fun hc => ?_, fun _ => ⟨da_o hd, s_griefOf hd (by omega) ⟨da_o hd, s_mournedBy D2 hM (by omega) (fun st2 hE2 => ⟨da_o hd, s_setGrief hd (by omega) ⟨da_o hd, s_onionsOf hd (by omega) ⟨da_o hd, s_setOnions hd (by omega) ?_⟩⟩⟩)⟩⟩⟩
    · rw [D2.np, iN_le (by omega) (by omega)] at hc; omega
    have ec : gA st2 (ch d 1) = mors q (gA st (ch d 1)) i := by rw [hE2.eA (scv_c hd hd), hc1]
    rw [iN_s]
    refine ih () _ ⟨((hE.tr (hE2.wk (fun a ha => sd_v ha))).tr (Ex.sa sd_c _ _)).tr (Ex.sa sd_c _ _), ?_, ?_⟩
    · rw [gA_sA, gA_sA, ec, hc1]
      show _ = morF q i (mors q (gA st (ch d 1)) i)
      unfold morF
      rw [upd_ne (show 2 + 4 * i + 2 ≠ 2 + 4 * i by omega)]
      rfl
    · rw [gA_sA_ne (da_cw hd).symm, gA_sA_ne (da_cw hd).symm, hE2.eA (scv_w hd hd), hc2]
  · rintro _ st' n ⟨hE, hc1, hc2⟩
    have D2 := D.ex (npl_sd hd) hE
    show P_X2_passDay_51 d post (n + 1) (iN q.1) st'
    unfold P_X2_passDay_51
    refine ⟨_, D2.pl, pl_0 D.hp, fun _ => ⟨_, da_c hd _, by rw [da_ac hd]; exact iN_vp (j := 0) (by decide) (by decide), by rw [da_ac hd]; exact iN_vp (j := 0) (by decide) (by decide), h _ (hE.tr (Ex.sa sd_c _ _)) ?_ ?_⟩, fun hc => absurd ?_ hc⟩
    · rw [gA_sA, hc1]; rfl
    · rw [gA_sA_ne (da_cw hd).symm, hc2]
    · rw [D2.np]; exact Int32.le_refl _
set_option maxHeartbeats 1000000 in
theorem s_passDay {st : St} {d p : Nat} {q : PD} (D : DSt st d p q) (hM : okM q.2.2.2.2) {post : St → Prop}
    (h : ∀ st2, Ex (SD d) st st2 → gA st2 (ch d 1) = (passF q (gA st (ch d 1), gA st (ch d 3))).1 → gA st2 (ch d 3) = (passF q (gA st (ch d 1), gA st (ch d 3))).2 → post st2) : P_X2_passDay d st post := by
  have hd := D.hd
  have hq := D.ok.2.1
  refine ⟨q.2.1 + 1, loop_up (α := Unit) (P := fun n i _ st => P_X2_passDay_2 d post n i st) (N := q.2.1) (fun i _ st' => Ex (SD d) st st' ∧ gA st' (ch d 1) = (weds q (gA st (ch d 1), gA st (ch d 3)) i).1 ∧ gA st' (ch d 3) = (weds q (gA st (ch d 1), gA st (ch d 3)) i).2) ?_ ?_ q.2.1 0 () st (by omega) ⟨Ex.rf, rfl, rfl⟩⟩
  · rintro i hi _ st' n ⟨hE, hc1, hc2⟩ ih
    have D2 := D.ex (npl_sd hd) hE
    generalize hs : weds q (gA st (ch d 1), gA st (ch d 3)) i = s at *
    have hs1 : weds q (gA st (ch d 1), gA st (ch d 3)) (i + 1) = wedF q i s := by rw [← hs]; rfl
    rw [hs1] at ih
    have hskip : ¬ (s.1 (38 + 3 * i + 1) = 1 ∧ s.1 (38 + 3 * i) = s.1 0) → P_X2_passDay_2 d post n (iN i + 1) st' := fun hn => by
      rw [iN_s]
      exact ih () st' ⟨hE, by rw [hc1]; unfold wedF; rw [if_neg hn], by rw [hc2]; unfold wedF; rw [if_neg hn]⟩
    show P_X2_passDay_2 d post (n + 1) (iN i) st'
    unfold P_X2_passDay_2
    refine ⟨_, D2.pl, pl_1 D.hp, fun hc => ?_, fun _ => ⟨da_o hd, s_isHome hd (by omega) ⟨fun hz => ?_, fun hz => ⟨da_o hd, s_weddingOf hd (by omega) ⟨da_o hd, s_today hd ⟨fun hne => ?_, fun he => ⟨da_o hd, s_heaviestFor D2 (by omega) (fun st2 hE2 => ⟨da_o hd, ?_⟩)⟩⟩⟩⟩⟩⟩⟩
    · rw [D2.nb, iN_le (by omega) (by omega)] at hc; omega
    · refine hskip (fun hn => ?_)
      rw [hc1, if_pos hn.1] at hz
      exact absurd hz (by decide)
    · refine hskip (fun hn => hne ?_)
      rw [hc1]; exact hn.2
    · have hh : s.1 (38 + 3 * i + 1) = 1 := by
        rw [hc1] at hz
        by_cases hq1 : s.1 (38 + 3 * i + 1) = 1
        · exact hq1
        · rw [if_neg hq1] at hz; exact absurd rfl hz
      rw [hc1] at he
      have D3 := D2.ex (npl_scv hd) hE2
      have ec : gA st2 (ch d 1) = s.1 := by rw [hE2.eA (scv_c hd hd), hc1]
      have ew : gA st2 (ch d 3) = s.2 := by rw [hE2.eA (scv_w hd hd), hc2]
      refine s_giveAway D3 (by omega) (heav_who D.ok.1 _ _) (fun st3 hE3 h1 h2 => ?_)
      rw [ec, ew, hc1] at h1 h2
      show P_X2_passDay_2 d post n (iN i + 1) st3
      rw [iN_s]
      refine ih () st3 ⟨(hE.tr (hE2.wk (fun a ha => sd_v ha))).tr hE3, ?_, ?_⟩
      · rw [h1]; unfold wedF; rw [if_pos ⟨hh, he⟩]
      · rw [h2]; unfold wedF; rw [if_pos ⟨hh, he⟩]
  · rintro _ st' n ⟨hE, hc1, hc2⟩
    have D2 := D.ex (npl_sd hd) hE
    show P_X2_passDay_2 d post (n + 1) (iN q.2.1) st'
    unfold P_X2_passDay_2
    refine ⟨_, D2.pl, pl_1 D.hp, fun _ => s_pass51 D2 hM (fun st2 hE2 h1 h2 => h st2 (hE.tr hE2) ?_ ?_), fun hc => absurd ?_ hc⟩
    · rw [h1, hc1]; rfl
    · rw [h2, hc2]; rfl
    · rw [D2.nb]; exact Int32.le_refl _
