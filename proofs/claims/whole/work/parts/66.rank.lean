/-! PURE: the scales: rank -/
theorem x_s (p b : Nat) : (iN p * 6) + iN b = iN (6 * p + b) := by rw [iN_add, iN_mul, Int32.mul_comm]; rfl
def ScW (x : Nat) : Prop := x = 56 ∨ ScV 3 x
theorem scw_sc : ∀ x, ScW x → ScC x := by
  rintro x (rfl | h)
  · unfold ScC; decide
  · exact scv3_sc x h
theorem npl_scw : nPl ScW := by
  refine ⟨fun p hp => ?_, fun r hr => ?_⟩
  · rcases hp with rfl | rfl <;> unfold ScW ScV <;> decide
  · rcases hr with rfl | rfl | rfl | rfl <;> unfold ScW ScV <;> decide
theorem scw4 : ¬ ScW 4 := by unfold ScW ScV; decide
theorem al56 : al 0 56 = 54 := rfl
theorem v56 {p b : Nat} (hp : p < 9) (hb : b < 6) : vp_in ((iN p * 6) + iN b) (al 0 56) := by rw [x_s, al56]; exact iN_vp (by omega) (by decide)
theorem s_weighFor {st : St} {p b : Nat} {q : PD} (D : DSt st 3 p q) (hb : b < 6) {post : St → Prop} (h : ∀ st1, Ex ScW st st1 → (∀ x, x < q.1 → gA st1 56 (6 * x + b) = weighF q (gA st 4) x b) → (∀ j, (∀ x, x < q.1 → j ≠ 6 * x + b) → gA st1 56 j = gA st 56 j) → post st1) : P_X6_weighFor 39 (iN b) st post := by
  have q1 := D.ok.1
  refine ⟨q.1 + 1, loop_up (α := Unit) (P := fun n i _ st => P_X6_weighFor_2 39 (iN b) post n i st) (N := q.1) (fun i _ st' => Ex ScW st st' ∧ (∀ x, x < i → gA st' 56 (6 * x + b) = weighF q (gA st 4) x b) ∧ ∀ j, (∀ x, x < i → j ≠ 6 * x + b) → gA st' 56 j = gA st 56 j) ?_ ?_ q.1 0 () st (by omega) ⟨Ex.rf, fun x hx => absurd hx (Nat.not_lt_zero _), fun _ _ => rfl⟩⟩
  · rintro i hi _ st' n ⟨E1, e1, e2⟩ ih
    have D1 := D.ex npl_scw E1
    show P_X6_weighFor_2 39 (iN b) post (n + 1) (iN i) st'
    unfold P_X6_weighFor_2
    refine ⟨3, rfl, _, D1.pl, pl_0 D.hp, fun hz => ?_, fun _ => ⟨56, rfl, 3, rfl, ⟨_, rfl⟩, s_weigh D1 (by omega) hb (fun st2 E2 => ⟨v56 (by omega) hb, ?_⟩)⟩⟩
    · rw [D1.np] at hz; exact absurd hz (nle (by omega) hi)
    have e4 : gA st' (ch 3 1) = gA st 4 := E1.eA scw4
    have e56 : gA st2 56 = gA st' 56 := E2.eA (by unfold ScV; decide)
    rw [x_s, iN_cl (by omega), iN_s, e4]
    refine ih () _ ⟨(E1.tr (E2.wk (fun _ z => Or.inr z))).tr (Ex.sa (S := ScW) (Or.inl rfl) _ _), fun x hx => ?_, fun j hj => ?_⟩
    · rw [gA_sA, e56]
      by_cases e : x = i
      · subst e; rw [upd_same]
      · rw [upd_ne (by omega)]; exact e1 x (by omega)
    · rw [gA_sA, e56, upd_ne (hj i (by omega))]
      exact e2 j (fun x hx => hj x (by omega))
  · rintro _ st' n ⟨E1, e1, e2⟩
    have D1 := D.ex npl_scw E1
    show P_X6_weighFor_2 39 (iN b) post (n + 1) (iN q.1) st'
    unfold P_X6_weighFor_2
    exact ⟨3, rfl, _, D1.pl, pl_0 D.hp, fun _ => h st' E1 e1 e2, fun hz => absurd (by rw [D1.np]; exact Int32.le_refl _) hz⟩
theorem s_wOf {st : St} {x b : Nat} (hx : x < 9) (hb : b < 6) {post : Int32 → St → Prop} (h : post (gA st 56 (6 * x + b)) st) : P_X6_weightOf 39 (iN x) (iN b) st post := by
  refine ⟨56, rfl, v56 hx hb, ?_⟩
  rw [x_s, iN_cl (by omega)]
  exact h
def rkF (q : PD) (c : Nat → Int32) (p b n : Nat) : Int32 := lp (fun r s => if weighF q c p b < weighF q c r b ∨ (weighF q c r b = weighF q c p b ∧ r < p) then s + 1 else s) 0 n
theorem rk_s (q : PD) (c : Nat → Int32) (p b n : Nat) : rkF q c p b (n + 1) = if weighF q c p b < weighF q c n b ∨ (weighF q c n b = weighF q c p b ∧ n < p) then rkF q c p b n + 1 else rkF q c p b n := rfl
theorem s_rkC {st : St} {p : Nat} {q : PD} (D : DSt st 3 p q) {c : Nat → Int32} (hc : gA st 4 = c) {x b : Nat} (hx : x < q.1) (hb : b < 6) {post : Int32 → St → Prop} (h : ∀ st1, Ex ScW st st1 → post (if weighF q c x b = -1 then -1 else rkF q c x b q.1) st1) : P_X6_rankOf 39 (iN x) (iN b) st post := by
  have q1 := D.ok.1
  refine ⟨⟨_, rfl⟩, s_weighFor D hb (fun st1 E1 e1 _ => ⟨⟨_, rfl⟩, s_wOf (by omega) hb ?_⟩)⟩
  rw [hc] at e1
  have D1 := D.ex npl_scw E1
  have K := h st1 E1
  rw [e1 x hx]
  refine ⟨fun hn => ?_, fun hn => ?_⟩
  · rw [if_neg hn] at K
    refine ⟨q.1 + 1, loop_up (P := fun n i s st => P_X6_rankOf_25 39 (iN x) (iN b) post n (weighF q c x b) s i st) (N := q.1) (fun i s st' => st' = st1 ∧ s = rkF q c x b i) ?_ ?_ q.1 0 0 st1 (by omega) ⟨rfl, rfl⟩⟩
    · rintro i hi s st' n ⟨rfl, rfl⟩ ih
      have hs := rk_s q c x b i
      have skip : ¬ (weighF q c x b < weighF q c i b ∨ (weighF q c i b = weighF q c x b ∧ i < x)) → P_X6_rankOf_25 39 (iN x) (iN b) post n (weighF q c x b) (rkF q c x b i) (iN i + 1) st' := fun hz => by
        rw [iN_s]
        exact ih _ _ ⟨rfl, by rw [hs, if_neg hz]⟩
      have take : (weighF q c x b < weighF q c i b ∨ (weighF q c i b = weighF q c x b ∧ i < x)) → P_X6_rankOf_25 39 (iN x) (iN b) post n (weighF q c x b) (rkF q c x b i + 1) (iN i + 1) st' := fun hz => by
        rw [iN_s (n := i)]
        exact ih _ _ ⟨rfl, by rw [hs, if_pos hz]⟩
      show P_X6_rankOf_25 39 (iN x) (iN b) post (n + 1) _ _ (iN i) st'
      unfold P_X6_rankOf_25
      refine ⟨3, rfl, _, D1.pl, pl_0 D.hp, fun hz => ?_, fun _ => ⟨⟨_, rfl⟩, s_wOf (by omega) hb ?_⟩⟩
      · rw [D1.np] at hz; exact absurd hz (nle (by omega) hi)
      rw [e1 i hi]
      refine ⟨fun h1 => take (Or.inl h1), fun h1 => ⟨⟨_, rfl⟩, s_wOf (by omega) hb ?_⟩⟩
      rw [e1 i hi]
      refine ⟨fun h2 => skip (fun z => z.elim h1 (fun y => h2 y.1)), fun h2 => ⟨fun h3 => skip (fun z => z.elim h1 (fun y => ?_)), fun h3 => take (Or.inr ⟨h2, ?_⟩)⟩⟩
      · rw [iN_le (by omega) (by omega)] at h3; omega
      · rw [iN_le (by omega) (by omega)] at h3; omega
    · rintro s st' n ⟨rfl, rfl⟩
      show P_X6_rankOf_25 39 (iN x) (iN b) post (n + 1) _ _ (iN q.1) st'
      unfold P_X6_rankOf_25
      exact ⟨3, rfl, _, D1.pl, pl_0 D.hp, fun _ => K, fun hz => absurd (by rw [D1.np]; exact Int32.le_refl _) hz⟩
  · rw [if_pos hn] at K
    exact K
theorem smw_sw : ∀ x, SMw x → SW x := fun x z => smd_ms2 x (smw_d x z)
theorem s_rkM {st : St} {q : PD} (M : MPl st q) {C : Nat → Int32} (hm : mC q.2.1 st = C) (hC : CI q C) {x b : Nat} (hx : x < q.1) (hb : b < q.2.1) {post : Int32 → St → Prop} (h : ∀ st1, Ex SMw st st1 → post (rkF q C x b q.1) st1) : ∃ n8, P_X12_rank_47 58 (iN x) (iN b) post n8 (weighF q C x b) 0 0 st := by
  have q1 := M.np
  refine ⟨q.1 + 1, loop_up (P := fun n i s st => P_X12_rank_47 58 (iN x) (iN b) post n (weighF q C x b) s i st) (N := q.1) (fun i s st' => Ex SMw st st' ∧ s = rkF q C x b i) ?_ ?_ q.1 0 0 st (by omega) ⟨Ex.rf, rfl⟩⟩
  · rintro i hi s st' n ⟨E1, rfl⟩ ih
    have hs := rk_s q C x b i
    have M1 := M.ex E1 smw_p
    have e1 : mC q.2.1 st' = C := (mC_ex E1 smw_m _).trans hm
    show P_X12_rank_47 58 (iN x) (iN b) post (n + 1) _ _ (iN i) st'
    unfold P_X12_rank_47
    refine ⟨62, rfl, v0_10, fun hz => ?_, fun _ => ⟨⟨_, rfl⟩, s_weightOf (nb := q.2.1) M1 hi hb (by rw [e1]; exact hC) (fun st2 E2 => ?_)⟩⟩
    · rw [M1.e0] at hz; exact absurd hz (nle (by omega) hi)
    rw [e1]
    have skip : ¬ (weighF q C x b < weighF q C i b ∨ (weighF q C i b = weighF q C x b ∧ i < x)) → P_X12_rank_47 58 (iN x) (iN b) post n (weighF q C x b) (rkF q C x b i + 0) (iN i + 1) st2 := fun hz => by
      rw [iN_s, Int32.add_zero]
      exact ih _ _ ⟨E1.tr E2, by rw [hs, if_neg hz]⟩
    have take : (weighF q C x b < weighF q C i b ∨ (weighF q C i b = weighF q C x b ∧ i < x)) → P_X12_rank_47 58 (iN x) (iN b) post n (weighF q C x b) (rkF q C x b i + 1) (iN i + 1) st2 := fun hz => by
      rw [iN_s (n := i)]
      exact ih _ _ ⟨E1.tr E2, by rw [hs, if_pos hz]⟩
    refine ⟨fun h1 => take (Or.inl h1), fun h1 => ⟨fun h2 => skip (fun z => z.elim h1 (fun y => h2 y.1)), fun h2 => ⟨fun h3 => skip (fun z => z.elim h1 (fun y => ?_)), fun h3 => take (Or.inr ⟨h2, ?_⟩)⟩⟩⟩
    · rw [iN_le (by omega) (by omega)] at h3; omega
    · rw [iN_le (by omega) (by omega)] at h3; omega
  · rintro s st' n ⟨E1, rfl⟩
    have M1 := M.ex E1 smw_p
    show P_X12_rank_47 58 (iN x) (iN b) post (n + 1) _ _ (iN q.1) st'
    unfold P_X12_rank_47
    exact ⟨62, rfl, v0_10, fun _ => h st' E1, fun hz => absurd (by rw [M1.e0]; exact Int32.le_refl _) hz⟩
/-- a question of the reference that changes scratch alone -/
theorem m_qe {s1 s2 : St} {v : AV} {S : Nat → Prop} (I0 : InvM s1 v) (E : Ex S (sI s1 58 4 0) s2) (hs : ∀ x, S x → ScM x) : MFr s1 s2 ∧ InvM s2 v ∧ gI s2 58 4 = 0 := by
  obtain ⟨I1, F1, k1⟩ := m_beg I0
  have Q : QMr v.1.2.1 (sI s1 58 4 0) s2 := QMr.ex E hs
  exact ⟨F1.tr Q.mfr, I1.qmr Q, (E.eI _ _).trans k1⟩
theorem c_rank {a b : Int32} {st : St} (hI : Inv st) : P_L_rank a b st (fun k st1 => Bth (P_X12_rank 58 a b) k st1) := by
  obtain ⟨v, H, HM, HO⟩ := hI
  obtain ⟨p, D⟩ := H.D
  have q1 := HO.1.1
  have q2 := HO.1.2.1
  have hc := H.c
  by_cases ha : isI v.1.1 a
  · obtain ⟨x, hx, rfl⟩ := ha
    by_cases hb : isI v.1.2.1 b
    · obtain ⟨y, hy, rfl⟩ := hb
      refine h_ok (PC := fun post pex => P_X11_rank 0 (iN x) (iN y) st post pex) (PM := P_X12_rank 58 (iN x) (iN y)) (v2 := v) (r := if weighF v.1 v.2.1.1 x y = -1 then -1 else rkF v.1 v.2.1.1 x y v.1.1) HM HO (fun post h => ?_) (fun s1 post I0 h => ?_)
      · refine ⟨tb_out, s_needP D hx ⟨tb_out, s_needB D hy ⟨39, rfl, ⟨_, rfl⟩, s_rkC D hc hx (by omega) (fun st1 E1 => ?_)⟩⟩⟩
        have Q1 := QFr.ex E1 scw_sc H.tp
        exact h st1 Q1.cfr (H.qfr Q1)
      · have I1 := (m_beg I0).1
        have eC := I1.c
        refine ⟨rfl, ⟨_, rfl⟩, s_isP I1.1 hx ⟨fun hz => absurd hz (by decide), fun _ => ⟨⟨_, rfl⟩, s_isB I1.1 hy ⟨fun _ => ⟨⟨_, rfl⟩, s_weightOf (nb := v.1.2.1) I1.1 hx hy (by rw [eC]; exact HO.2.2.1.1.1) (fun s2 E2 => ?_)⟩, fun hz => absurd hz (by decide)⟩⟩⟩⟩
        rw [eC]
        refine ⟨fun hn => ?_, fun hn => ?_⟩
        · rw [if_neg hn] at h
          refine s_rkM (I1.1.ex E2 smw_p) ((mC_ex E2 smw_m _).trans eC) HO.2.2.1.1.1 hx hy (fun s3 E3 => ?_)
          obtain ⟨g1, g2, g3⟩ := m_qe I0 (E2.tr E3) smw_sc
          exact h s3 g1 g2 g3
        · rw [if_pos hn] at h
          obtain ⟨g1, g2, g3⟩ := m_qe I0 E2 smw_sc
          exact h s2 g1 g2 g3
    · refine h_thr (PC := fun post pex => P_X11_rank 0 (iN x) b st post pex) (PM := P_X12_rank 58 (iN x) b) (X := NSE) (k := 1) (by decide) H HM HO (fun pex h => ⟨tb_out, s_needP D hx ⟨tb_out, s_needB0 D hb h⟩⟩) (fun s1 post I0 h => ?_) (fun h => ⟨rfl, h⟩)
      exact ⟨rfl, ⟨_, rfl⟩, s_isP (m_beg I0).1.1 hx ⟨fun hz => absurd hz (by decide), fun _ => ⟨⟨_, rfl⟩, s_isB0 (m_beg I0).1.1 hb ⟨fun hz => absurd rfl hz, fun _ => ⟨⟨_, rfl⟩, m_fail I0 h⟩⟩⟩⟩⟩
  · refine h_thr (PC := fun post pex => P_X11_rank 0 a b st post pex) (PM := P_X12_rank 58 a b) (X := NSE) (k := 1) (by decide) H HM HO (fun pex h => ⟨tb_out, s_needP0 D ha h⟩) (fun s1 post I0 h => ?_) (fun h => ⟨rfl, h⟩)
    exact ⟨rfl, ⟨_, rfl⟩, s_isP0 (m_beg I0).1.1 ha ⟨fun _ => ⟨⟨_, rfl⟩, m_fail I0 h⟩, fun hz => absurd rfl hz⟩⟩
