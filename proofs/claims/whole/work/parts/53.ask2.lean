/-! PURE: person, bride, years, weight, fault -/
theorem smw_sc : ∀ x, SMw x → ScM x := by rintro x (rfl | rfl) <;> unfold ScM <;> decide
theorem InvC.scv {st st2 : St} {v : AV} (H : InvC st v) (hE : Ex (ScV 3) st st2) : CFr st st2 ∧ InvC st2 v := ⟨(QFr.ex hE scv3_sc H.tr).cfr, H.qfr (QFr.ex hE scv3_sc H.tr)⟩
/-- the reference begins a call: its code is 0 -/
theorem m_beg {s1 : St} {v : AV} (I0 : InvM s1 v) : InvM (sI s1 58 4 0) v ∧ MFr s1 (sI s1 58 4 0) ∧ gI (sI s1 58 4 0) 58 4 = 0 := ⟨I0.qmr (QMr.code 0), (QMr.code (nb := v.1.2.1) 0).mfr, gI_sI _ _ _ _⟩
/-- and fails -/
theorem m_fail {s1 : St} {v : AV} {post : Int32 → St → Prop} {k : Int32} (I0 : InvM s1 v) (h : ∀ r s2, MFr s1 s2 → InvM s2 v → gI s2 58 4 = k → post r s2) : P_X12_fail 58 k (sI s1 58 4 0) post := s_fail (h _ _ ((QMr.code (nb := v.1.2.1) 0).tr (QMr.code k)).mfr ((I0.qmr (QMr.code 0)).qmr (QMr.code k)) (gI_sI _ _ _ _))
theorem c_person {a b : Int32} {st : St} (hI : Inv st) : P_L_person a b st (fun k st1 => Bth (P_X12_person 58 a b) k st1) := by
  obtain ⟨v, H, HM, HO⟩ := hI
  obtain ⟨p, D⟩ := H.D
  have q1 := HO.1.1
  have hc := H.c
  by_cases ha : isI v.1.1 a
  · obtain ⟨x, hx, rfl⟩ := ha
    by_cases hb : isI 6 b
    · obtain ⟨n, hn, rfl⟩ := hb
      rcases (show n = 0 ∨ n = 1 ∨ n = 2 ∨ n = 3 ∨ n = 4 ∨ n = 5 by omega) with rfl | rfl | rfl | rfl | rfl | rfl
      · refine h_ok (PC := fun post pex => P_X11_person 0 (iN x) (iN 0) st post pex) (PM := P_X12_person 58 (iN x) (iN 0)) (v2 := v) (r := v.1.2.2.1 x) HM HO (fun post h => ?_) (fun s1 post I0 h => ?_)
        · exact ⟨tb_out, s_needP D hx ⟨tb_out, s_needW (l := 5) (by decide) (by decide) ⟨fun hc => absurd hc (by decide), fun _ => ⟨3, rfl, p, D.pl, _, pl_k D.hp _, by rw [pl_ak D.hp]; exact iN_vp (by omega) (by decide), by rw [iN_cl (by omega), D.kd]; exact h st CFr.rf H⟩, fun hc => absurd hc (by decide), fun hc => absurd hc (by decide), fun hc => absurd hc (by decide), fun hc => absurd hc (by decide), trivial⟩⟩⟩
        · obtain ⟨I1, F1, k1⟩ := m_beg I0
          have M1 := I1.1
          have eC := I1.c
          have K := h _ F1 I1 k1
          exact ⟨rfl, ⟨_, rfl⟩, s_isP M1 hx ⟨fun _ => ⟨fun hc => absurd hc (by decide), fun _ => ⟨63, rfl, by rw [al63]; exact iN_vp (by omega) (by decide), by rw [iN_cl (by omega), M1.2.2.1 x hx]; exact K⟩, fun hc => absurd hc (by decide), fun hc => absurd hc (by decide), fun hc => absurd hc (by decide), fun hc => absurd hc (by decide), fun hc => absurd hc (by decide), trivial⟩, fun hz => absurd hz (by decide)⟩⟩
      · refine h_ok (PC := fun post pex => P_X11_person 0 (iN x) (iN 1) st post pex) (PM := P_X12_person 58 (iN x) (iN 1)) (v2 := v) (r := v.2.1.1 (2 + 4 * x)) HM HO (fun post h => ?_) (fun s1 post I0 h => ?_)
        · exact ⟨tb_out, s_needP D hx ⟨tb_out, s_needW (l := 5) (by decide) (by decide) ⟨fun hc => absurd hc (by decide), fun hc => absurd hc (by decide), fun _ => ⟨3, rfl, da_o D.hd, s_griefOf D.hd (by omega) (by rw [ch31, hc]; exact h st CFr.rf H)⟩, fun hc => absurd hc (by decide), fun hc => absurd hc (by decide), fun hc => absurd hc (by decide), trivial⟩⟩⟩
        · obtain ⟨I1, F1, k1⟩ := m_beg I0
          have M1 := I1.1
          have eC := I1.c
          have K := h _ F1 I1 k1
          exact ⟨rfl, ⟨_, rfl⟩, s_isP M1 hx ⟨fun _ => ⟨fun hc => absurd hc (by decide), fun hc => absurd hc (by decide), fun _ => ⟨73, rfl, (show vp_in (iN x) 9 from iN_vp (by omega) (by decide)), by rw [iN_cl (by omega), (show gA (sI s1 58 4 0) 73 x = v.2.1.1 (2 + 4 * x) by rw [← eC]; exact (rC_g (by omega)).symm)]; exact K⟩, fun hc => absurd hc (by decide), fun hc => absurd hc (by decide), fun hc => absurd hc (by decide), fun hc => absurd hc (by decide), trivial⟩, fun hz => absurd hz (by decide)⟩⟩
      · refine h_ok (PC := fun post pex => P_X11_person 0 (iN x) (iN 2) st post pex) (PM := P_X12_person 58 (iN x) (iN 2)) (v2 := v) (r := v.2.1.1 (2 + 4 * x + 1)) HM HO (fun post h => ?_) (fun s1 post I0 h => ?_)
        · exact ⟨tb_out, s_needP D hx ⟨tb_out, s_needW (l := 5) (by decide) (by decide) ⟨fun hc => absurd hc (by decide), fun hc => absurd hc (by decide), fun hc => absurd hc (by decide), fun _ => ⟨3, rfl, da_o D.hd, s_trainsOf D.hd (by omega) (by rw [ch31, hc]; exact h st CFr.rf H)⟩, fun hc => absurd hc (by decide), fun hc => absurd hc (by decide), trivial⟩⟩⟩
        · obtain ⟨I1, F1, k1⟩ := m_beg I0
          have M1 := I1.1
          have eC := I1.c
          have K := h _ F1 I1 k1
          exact ⟨rfl, ⟨_, rfl⟩, s_isP M1 hx ⟨fun _ => ⟨fun hc => absurd hc (by decide), fun hc => absurd hc (by decide), fun hc => absurd hc (by decide), fun _ => ⟨74, rfl, (show vp_in (iN x) 9 from iN_vp (by omega) (by decide)), by rw [iN_cl (by omega), (show gA (sI s1 58 4 0) 74 x = v.2.1.1 (2 + 4 * x + 1) by rw [← eC]; exact (rC_t (by omega)).symm)]; exact K⟩, fun hc => absurd hc (by decide), fun hc => absurd hc (by decide), fun hc => absurd hc (by decide), trivial⟩, fun hz => absurd hz (by decide)⟩⟩
      · refine h_ok (PC := fun post pex => P_X11_person 0 (iN x) (iN 3) st post pex) (PM := P_X12_person 58 (iN x) (iN 3)) (v2 := v) (r := v.2.1.1 (2 + 4 * x + 2)) HM HO (fun post h => ?_) (fun s1 post I0 h => ?_)
        · exact ⟨tb_out, s_needP D hx ⟨tb_out, s_needW (l := 5) (by decide) (by decide) ⟨fun hc => absurd hc (by decide), fun hc => absurd hc (by decide), fun hc => absurd hc (by decide), fun hc => absurd hc (by decide), fun _ => ⟨3, rfl, da_o D.hd, s_onionsOf D.hd (by omega) (by rw [ch31, hc]; exact h st CFr.rf H)⟩, fun hc => absurd hc (by decide), trivial⟩⟩⟩
        · obtain ⟨I1, F1, k1⟩ := m_beg I0
          have M1 := I1.1
          have eC := I1.c
          have K := h _ F1 I1 k1
          exact ⟨rfl, ⟨_, rfl⟩, s_isP M1 hx ⟨fun _ => ⟨fun hc => absurd hc (by decide), fun hc => absurd hc (by decide), fun hc => absurd hc (by decide), fun hc => absurd hc (by decide), fun _ => ⟨75, rfl, (show vp_in (iN x) 9 from iN_vp (by omega) (by decide)), by rw [iN_cl (by omega), (show gA (sI s1 58 4 0) 75 x = v.2.1.1 (2 + 4 * x + 2) by rw [← eC]; exact (rC_o (by omega)).symm)]; exact K⟩, fun hc => absurd hc (by decide), fun hc => absurd hc (by decide), trivial⟩, fun hz => absurd hz (by decide)⟩⟩
      · refine h_ok (PC := fun post pex => P_X11_person 0 (iN x) (iN 4) st post pex) (PM := P_X12_person 58 (iN x) (iN 4)) (v2 := v) (r := v.2.1.1 (2 + 4 * x + 3)) HM HO (fun post h => ?_) (fun s1 post I0 h => ?_)
        · exact ⟨tb_out, s_needP D hx ⟨tb_out, s_needW (l := 5) (by decide) (by decide) ⟨fun hc => absurd hc (by decide), fun hc => absurd hc (by decide), fun hc => absurd hc (by decide), fun hc => absurd hc (by decide), fun hc => absurd hc (by decide), fun _ => ⟨3, rfl, da_o D.hd, s_ledBits D.hd (by omega) (by rw [ch31, hc]; exact h st CFr.rf H)⟩, trivial⟩⟩⟩
        · obtain ⟨I1, F1, k1⟩ := m_beg I0
          have M1 := I1.1
          have eC := I1.c
          have K := h _ F1 I1 k1
          exact ⟨rfl, ⟨_, rfl⟩, s_isP M1 hx ⟨fun _ => ⟨fun hc => absurd hc (by decide), fun hc => absurd hc (by decide), fun hc => absurd hc (by decide), fun hc => absurd hc (by decide), fun hc => absurd hc (by decide), fun _ => ⟨76, rfl, (show vp_in (iN x) 9 from iN_vp (by omega) (by decide)), by rw [iN_cl (by omega), (show gA (sI s1 58 4 0) 76 x = v.2.1.1 (2 + 4 * x + 3) by rw [← eC]; exact (rC_l (by omega)).symm)]; exact K⟩, fun hc => absurd hc (by decide), trivial⟩, fun hz => absurd hz (by decide)⟩⟩
      · refine h_ok (PC := fun post pex => P_X11_person 0 (iN x) (iN 5) st post pex) (PM := P_X12_person 58 (iN x) (iN 5)) (v2 := v) (r := tiedB v.1.2.1 v.2.1.1 x) HM HO (fun post h => ?_) (fun s1 post I0 h => ?_)
        · exact ⟨tb_out, s_needP D hx ⟨tb_out, s_needW (l := 5) (by decide) (by decide) ⟨fun _ => ⟨3, rfl, da_o D.hd, s_bridesTiedTo D (by omega) (by rw [ch31, hc]; exact h st CFr.rf H)⟩, fun hc => absurd hc (by decide), fun hc => absurd hc (by decide), fun hc => absurd hc (by decide), fun hc => absurd hc (by decide), fun hc => absurd hc (by decide), trivial⟩⟩⟩
        · obtain ⟨I1, F1, k1⟩ := m_beg I0
          have M1 := I1.1
          have eC := I1.c
          have K := h _ F1 I1 k1
          exact ⟨rfl, ⟨_, rfl⟩, s_isP M1 hx ⟨fun _ => ⟨fun hc => absurd hc (by decide), fun hc => absurd hc (by decide), fun hc => absurd hc (by decide), fun hc => absurd hc (by decide), fun hc => absurd hc (by decide), fun hc => absurd hc (by decide), fun _ => ⟨⟨_, rfl⟩, s_tiesOf (nb := v.1.2.1) M1 (by omega) (by rw [eC]; exact K)⟩, trivial⟩, fun hz => absurd hz (by decide)⟩⟩
    · refine h_thr (PC := fun post pex => P_X11_person 0 (iN x) b st post pex) (PM := P_X12_person 58 (iN x) b) (X := NSE) (k := 1) (by decide) H HM HO (fun pex h => ⟨tb_out, s_needP D hx ⟨tb_out, s_needW0 (l := 5) (by decide) hb h⟩⟩) (fun s1 post I0 h => ?_) (fun h => ⟨rfl, h⟩)
      have hx2 : b.toInt < 0 ∨ 5 < b.toInt := by
        rw [isI_iff (by decide)] at hb
        omega
      exact ⟨rfl, ⟨_, rfl⟩, s_isP (m_beg I0).1.1 hx ⟨fun _ => ⟨fun _ => ⟨⟨_, rfl⟩, m_fail I0 h⟩, fun hc => (by exfalso; omega), fun hc => (by exfalso; omega), fun hc => (by exfalso; omega), fun hc => (by exfalso; omega), fun hc => (by exfalso; omega), fun hc => (by exfalso; omega), trivial⟩, fun hz => absurd hz (by decide)⟩⟩
  · refine h_thr (PC := fun post pex => P_X11_person 0 a b st post pex) (PM := P_X12_person 58 a b) (X := NSE) (k := 1) (by decide) H HM HO (fun pex h => ⟨tb_out, s_needP0 D ha h⟩) (fun s1 post I0 h => ?_) (fun h => ⟨rfl, h⟩)
    exact ⟨rfl, ⟨_, rfl⟩, s_isP0 (m_beg I0).1.1 ha ⟨fun hz => absurd rfl hz, fun _ => ⟨⟨_, rfl⟩, m_fail I0 h⟩⟩⟩
theorem c_bride {a b : Int32} {st : St} (hI : Inv st) : P_L_bride a b st (fun k st1 => Bth (P_X12_bride 58 a b) k st1) := by
  obtain ⟨v, H, HM, HO⟩ := hI
  obtain ⟨p, D⟩ := H.D
  have q1 := HO.1.1
  have q2 := HO.1.2.1
  have hc := H.c
  by_cases ha : isI v.1.2.1 a
  · obtain ⟨x, hx, rfl⟩ := ha
    by_cases hb : isI 6 b
    · obtain ⟨n, hn, rfl⟩ := hb
      rcases (show n = 0 ∨ n = 1 ∨ n = 2 ∨ n = 3 ∨ n = 4 ∨ n = 5 by omega) with rfl | rfl | rfl | rfl | rfl | rfl
      · refine h_ok (PC := fun post pex => P_X11_bride 0 (iN x) (iN 0) st post pex) (PM := P_X12_bride 58 (iN x) (iN 0)) (v2 := v) (r := v.2.1.1 (38 + 3 * x)) HM HO (fun post h => ?_) (fun s1 post I0 h => ?_)
        · exact ⟨tb_out, s_needB D hx ⟨tb_out, s_needW (l := 5) (by decide) (by decide) ⟨fun hc => absurd hc (by decide), fun _ => ⟨3, rfl, da_o D.hd, s_weddingOf D.hd (by omega) (by rw [ch31, hc]; exact h st CFr.rf H)⟩, fun hc => absurd hc (by decide), fun hc => absurd hc (by decide), fun hc => absurd hc (by decide), fun hc => absurd hc (by decide), trivial⟩⟩⟩
        · obtain ⟨I1, F1, k1⟩ := m_beg I0
          have M1 := I1.1
          have eC := I1.c
          have K := h _ F1 I1 k1
          exact ⟨rfl, ⟨_, rfl⟩, s_isB M1 hx ⟨fun _ => ⟨fun hc => absurd hc (by decide), fun _ => ⟨77, rfl, (show vp_in (iN x) 6 from iN_vp (by omega) (by decide)), by rw [iN_cl (by omega), (show gA (sI s1 58 4 0) 77 x = v.2.1.1 (38 + 3 * x) by rw [← eC]; exact (rC_w (by omega)).symm)]; exact K⟩, fun hc => absurd hc (by decide), fun hc => absurd hc (by decide), fun hc => absurd hc (by decide), fun hc => absurd hc (by decide), fun hc => absurd hc (by decide), trivial⟩, fun hz => absurd hz (by decide)⟩⟩
      · refine h_ok (PC := fun post pex => P_X11_bride 0 (iN x) (iN 1) st post pex) (PM := P_X12_bride 58 (iN x) (iN 1)) (v2 := v) (r := v.2.1.1 (38 + 3 * x + 1)) HM HO (fun post h => ?_) (fun s1 post I0 h => ?_)
        · exact ⟨tb_out, s_needB D hx ⟨tb_out, s_needW (l := 5) (by decide) (by decide) ⟨fun hc => absurd hc (by decide), fun hc => absurd hc (by decide), fun _ => ⟨3, rfl, da_o D.hd, s_isHome D.hd (by omega) (by
            rw [ch31, hc]
            rcases (HO.2.2.1.1.1.2.2 x hx).1 with e | e
            · rw [if_neg (by rw [e]; decide)]
              have K := h st CFr.rf H
              rw [e] at K
              exact ⟨fun _ => K, fun hz => absurd rfl hz⟩
            · rw [if_pos e]
              have K := h st CFr.rf H
              rw [e] at K
              exact ⟨fun hz => absurd hz (by decide), fun _ => K⟩)⟩, fun hc => absurd hc (by decide), fun hc => absurd hc (by decide), fun hc => absurd hc (by decide), trivial⟩⟩⟩
        · obtain ⟨I1, F1, k1⟩ := m_beg I0
          have M1 := I1.1
          have eC := I1.c
          have K := h _ F1 I1 k1
          exact ⟨rfl, ⟨_, rfl⟩, s_isB M1 hx ⟨fun _ => ⟨fun hc => absurd hc (by decide), fun hc => absurd hc (by decide), fun _ => ⟨78, rfl, (show vp_in (iN x) 6 from iN_vp (by omega) (by decide)), by rw [iN_cl (by omega), (show gA (sI s1 58 4 0) 78 x = v.2.1.1 (38 + 3 * x + 1) by rw [← eC]; exact (rC_h (by omega)).symm)]; exact K⟩, fun hc => absurd hc (by decide), fun hc => absurd hc (by decide), fun hc => absurd hc (by decide), fun hc => absurd hc (by decide), trivial⟩, fun hz => absurd hz (by decide)⟩⟩
      · refine h_ok (PC := fun post pex => P_X11_bride 0 (iN x) (iN 2) st post pex) (PM := P_X12_bride 58 (iN x) (iN 2)) (v2 := v) (r := v.2.1.1 (38 + 3 * x + 2)) HM HO (fun post h => ?_) (fun s1 post I0 h => ?_)
        · exact ⟨tb_out, s_needB D hx ⟨tb_out, s_needW (l := 5) (by decide) (by decide) ⟨fun hc => absurd hc (by decide), fun hc => absurd hc (by decide), fun hc => absurd hc (by decide), fun _ => ⟨3, rfl, da_o D.hd, s_whoLed D.hd (by omega) (by rw [ch31, hc]; exact h st CFr.rf H)⟩, fun hc => absurd hc (by decide), fun hc => absurd hc (by decide), trivial⟩⟩⟩
        · obtain ⟨I1, F1, k1⟩ := m_beg I0
          have M1 := I1.1
          have eC := I1.c
          have K := h _ F1 I1 k1
          exact ⟨rfl, ⟨_, rfl⟩, s_isB M1 hx ⟨fun _ => ⟨fun hc => absurd hc (by decide), fun hc => absurd hc (by decide), fun hc => absurd hc (by decide), fun _ => ⟨79, rfl, (show vp_in (iN x) 6 from iN_vp (by omega) (by decide)), by rw [iN_cl (by omega), (show gA (sI s1 58 4 0) 79 x = v.2.1.1 (38 + 3 * x + 2) by rw [← eC]; exact (rC_le hx (by omega)).symm)]; exact K⟩, fun hc => absurd hc (by decide), fun hc => absurd hc (by decide), fun hc => absurd hc (by decide), trivial⟩, fun hz => absurd hz (by decide)⟩⟩
      · refine h_ok (PC := fun post pex => P_X11_bride 0 (iN x) (iN 3) st post pex) (PM := P_X12_bride 58 (iN x) (iN 3)) (v2 := v) (r := tiedS v.1.1 v.2.1.1 x) HM HO (fun post h => ?_) (fun s1 post I0 h => ?_)
        · exact ⟨tb_out, s_needB D hx ⟨tb_out, s_needW (l := 5) (by decide) (by decide) ⟨fun hc => absurd hc (by decide), fun hc => absurd hc (by decide), fun hc => absurd hc (by decide), fun hc => absurd hc (by decide), fun _ => ⟨3, rfl, da_o D.hd, s_peopleTiedTo D (by omega) (by rw [ch31, hc]; exact h st CFr.rf H)⟩, fun hc => absurd hc (by decide), trivial⟩⟩⟩
        · obtain ⟨I1, F1, k1⟩ := m_beg I0
          have M1 := I1.1
          have eC := I1.c
          have K := h _ F1 I1 k1
          exact ⟨rfl, ⟨_, rfl⟩, s_isB M1 hx ⟨fun _ => ⟨fun hc => absurd hc (by decide), fun hc => absurd hc (by decide), fun hc => absurd hc (by decide), fun hc => absurd hc (by decide), fun _ => ⟨⟨_, rfl⟩, s_tiedTo (nb := v.1.2.1) M1 (by omega) (by rw [eC]; exact K)⟩, fun hc => absurd hc (by decide), fun hc => absurd hc (by decide), trivial⟩, fun hz => absurd hz (by decide)⟩⟩
      · refine h_ok (PC := fun post pex => P_X11_bride 0 (iN x) (iN 4) st post pex) (PM := P_X12_bride 58 (iN x) (iN 4)) (v2 := v) (r := heavF v.1 v.2.1.1 x) HM HO (fun post h => ?_) (fun s1 post I0 h => ?_)
        · exact ⟨tb_out, s_needB D hx ⟨tb_out, s_needW (l := 5) (by decide) (by decide) ⟨fun hc => absurd hc (by decide), fun hc => absurd hc (by decide), fun hc => absurd hc (by decide), fun hc => absurd hc (by decide), fun hc => absurd hc (by decide), fun _ => ⟨3, rfl, da_o D.hd, s_heaviestFor D (by omega) (fun st2 hE => by rw [ch31, hc]; exact h st2 (H.scv hE).1 (H.scv hE).2)⟩, trivial⟩⟩⟩
        · obtain ⟨I1, F1, k1⟩ := m_beg I0
          have M1 := I1.1
          have eC := I1.c
          have K := h _ F1 I1 k1
          exact ⟨rfl, ⟨_, rfl⟩, s_isB M1 hx ⟨fun _ => ⟨fun hc => absurd hc (by decide), fun hc => absurd hc (by decide), fun hc => absurd hc (by decide), fun hc => absurd hc (by decide), fun hc => absurd hc (by decide), fun _ => ⟨⟨_, rfl⟩, s_heaviest (nb := v.1.2.1) M1 hx (by rw [eC]; exact HO.2.2.1.1.1) (fun s2 hE => by rw [eC]; exact h _ (F1.tr (QMr.ex (nb := v.1.2.1) hE smw_sc).mfr) (I1.qmr (QMr.ex hE smw_sc)) (by rw [hE.eI]; exact k1))⟩, fun hc => absurd hc (by decide), trivial⟩, fun hz => absurd hz (by decide)⟩⟩
      · refine h_ok (PC := fun post pex => P_X11_bride 0 (iN x) (iN 5) st post pex) (PM := P_X12_bride 58 (iN x) (iN 5)) (v2 := v) (r := riv v.1.1 v.2.1.1 x) HM HO (fun post h => ?_) (fun s1 post I0 h => ?_)
        · exact ⟨tb_out, s_needB D hx ⟨tb_out, s_needW (l := 5) (by decide) (by decide) ⟨fun _ => ⟨3, rfl, da_o D.hd, s_rivalsFor D (by omega) (by rw [ch31, hc]; exact h st CFr.rf H)⟩, fun hc => absurd hc (by decide), fun hc => absurd hc (by decide), fun hc => absurd hc (by decide), fun hc => absurd hc (by decide), fun hc => absurd hc (by decide), trivial⟩⟩⟩
        · obtain ⟨I1, F1, k1⟩ := m_beg I0
          have M1 := I1.1
          have eC := I1.c
          have K := h _ F1 I1 k1
          exact ⟨rfl, ⟨_, rfl⟩, s_isB M1 hx ⟨fun _ => ⟨fun hc => absurd hc (by decide), fun hc => absurd hc (by decide), fun hc => absurd hc (by decide), fun hc => absurd hc (by decide), fun hc => absurd hc (by decide), fun hc => absurd hc (by decide), fun _ => ⟨⟨_, rfl⟩, s_tiedTo (nb := v.1.2.1) M1 (by omega) (by rw [eC]; exact s_bitsOf (tiedS_sm q1 _ _) K)⟩, trivial⟩, fun hz => absurd hz (by decide)⟩⟩
    · refine h_thr (PC := fun post pex => P_X11_bride 0 (iN x) b st post pex) (PM := P_X12_bride 58 (iN x) b) (X := NSE) (k := 1) (by decide) H HM HO (fun pex h => ⟨tb_out, s_needB D hx ⟨tb_out, s_needW0 (l := 5) (by decide) hb h⟩⟩) (fun s1 post I0 h => ?_) (fun h => ⟨rfl, h⟩)
      have hx2 : b.toInt < 0 ∨ 5 < b.toInt := by
        rw [isI_iff (by decide)] at hb
        omega
      exact ⟨rfl, ⟨_, rfl⟩, s_isB (m_beg I0).1.1 hx ⟨fun _ => ⟨fun _ => ⟨⟨_, rfl⟩, m_fail I0 h⟩, fun hc => (by exfalso; omega), fun hc => (by exfalso; omega), fun hc => (by exfalso; omega), fun hc => (by exfalso; omega), fun hc => (by exfalso; omega), fun hc => (by exfalso; omega), trivial⟩, fun hz => absurd hz (by decide)⟩⟩
  · refine h_thr (PC := fun post pex => P_X11_bride 0 a b st post pex) (PM := P_X12_bride 58 a b) (X := NSE) (k := 1) (by decide) H HM HO (fun pex h => ⟨tb_out, s_needB0 D ha h⟩) (fun s1 post I0 h => ?_) (fun h => ⟨rfl, h⟩)
    exact ⟨rfl, ⟨_, rfl⟩, s_isB0 (m_beg I0).1.1 ha ⟨fun hz => absurd rfl hz, fun _ => ⟨⟨_, rfl⟩, m_fail I0 h⟩⟩⟩
theorem c_years {a b : Int32} {st : St} (hI : Inv st) : P_L_years a b st (fun k st1 => Bth (P_X12_years 58 a b) k st1) := by
  obtain ⟨v, H, HM, HO⟩ := hI
  obtain ⟨p, D⟩ := H.D
  have q1 := HO.1.1
  have q2 := HO.1.2.1
  have hc := H.c
  by_cases ha : isI v.1.1 a
  · obtain ⟨x, hx, rfl⟩ := ha
    by_cases hb : isI v.1.2.1 b
    · obtain ⟨y, hy, rfl⟩ := hb
      refine h_ok (PC := fun post pex => P_X11_years 0 (iN x) (iN y) st post pex) (PM := P_X12_years 58 (iN x) (iN y)) (v2 := v) (r := v.2.1.1 (56 + 6 * x + y)) HM HO (fun post h => ?_) (fun s1 post I0 h => ?_)
      · exact ⟨tb_out, s_needP D hx ⟨tb_out, s_needB D hy ⟨3, rfl, da_o D.hd, s_yearsOf D.hd (by omega) (by omega) (by rw [ch31, hc]; exact h st CFr.rf H)⟩⟩⟩
      · obtain ⟨I1, F1, k1⟩ := m_beg I0
        have M1 := I1.1
        have eC := I1.c
        have K := h _ F1 I1 k1
        refine ⟨rfl, ⟨_, rfl⟩, s_isP M1 hx ⟨fun hz => absurd hz (by decide), fun _ => ⟨⟨_, rfl⟩, s_isB M1 hy ⟨fun hz => absurd hz (by decide), fun _ => ⟨80, rfl, ?_, ?_⟩⟩⟩⟩⟩
        · rw [x_m, al80]; exact iN_vp (by omega) (by decide)
        · have e9 : gA (sI s1 58 4 0) 80 (6 * x + y) = v.2.1.1 (56 + 6 * x + y) := by rw [← eC]; exact (rC_t2 (by omega) (by omega)).symm
          show post _ _
          rw [x_m, iN_cl (by omega), e9]
          exact K
    · refine h_thr (PC := fun post pex => P_X11_years 0 (iN x) b st post pex) (PM := P_X12_years 58 (iN x) b) (X := NSE) (k := 1) (by decide) H HM HO (fun pex h => ⟨tb_out, s_needP D hx ⟨tb_out, s_needB0 D hb h⟩⟩) (fun s1 post I0 h => ?_) (fun h => ⟨rfl, h⟩)
      exact ⟨rfl, ⟨_, rfl⟩, s_isP (m_beg I0).1.1 hx ⟨fun hz => absurd hz (by decide), fun _ => ⟨⟨_, rfl⟩, s_isB0 (m_beg I0).1.1 hb ⟨fun _ => ⟨⟨_, rfl⟩, m_fail I0 h⟩, fun hz => absurd rfl hz⟩⟩⟩⟩
  · refine h_thr (PC := fun post pex => P_X11_years 0 a b st post pex) (PM := P_X12_years 58 a b) (X := NSE) (k := 1) (by decide) H HM HO (fun pex h => ⟨tb_out, s_needP0 D ha h⟩) (fun s1 post I0 h => ?_) (fun h => ⟨rfl, h⟩)
    exact ⟨rfl, ⟨_, rfl⟩, s_isP0 (m_beg I0).1.1 ha ⟨fun _ => ⟨⟨_, rfl⟩, m_fail I0 h⟩, fun hz => absurd rfl hz⟩⟩
theorem c_weight {a b : Int32} {st : St} (hI : Inv st) : P_L_weight a b st (fun k st1 => Bth (P_X12_weight 58 a b) k st1) := by
  obtain ⟨v, H, HM, HO⟩ := hI
  obtain ⟨p, D⟩ := H.D
  have q1 := HO.1.1
  have q2 := HO.1.2.1
  have hc := H.c
  by_cases ha : isI v.1.1 a
  · obtain ⟨x, hx, rfl⟩ := ha
    by_cases hb : isI v.1.2.1 b
    · obtain ⟨y, hy, rfl⟩ := hb
      refine h_ok (PC := fun post pex => P_X11_weight 0 (iN x) (iN y) st post pex) (PM := P_X12_weight 58 (iN x) (iN y)) (v2 := v) (r := weighF v.1 v.2.1.1 x y) HM HO (fun post h => ?_) (fun s1 post I0 h => ?_)
      · exact ⟨tb_out, s_needP D hx ⟨tb_out, s_needB D hy ⟨3, rfl, da_o D.hd, s_weigh D (by omega) (by omega) (fun st2 hE => by rw [ch31, hc]; exact h st2 (H.scv hE).1 (H.scv hE).2)⟩⟩⟩
      · obtain ⟨I1, F1, k1⟩ := m_beg I0
        have M1 := I1.1
        have eC := I1.c
        exact ⟨rfl, ⟨_, rfl⟩, s_isP M1 hx ⟨fun hz => absurd hz (by decide), fun _ => ⟨⟨_, rfl⟩, s_isB M1 hy ⟨fun hz => absurd hz (by decide), fun _ => ⟨⟨_, rfl⟩, s_weightOf (nb := v.1.2.1) M1 hx hy (by rw [eC]; exact HO.2.2.1.1.1) (fun s2 hE => by rw [eC]; exact h _ (F1.tr (QMr.ex (nb := v.1.2.1) hE smw_sc).mfr) (I1.qmr (QMr.ex hE smw_sc)) (by rw [hE.eI]; exact k1))⟩⟩⟩⟩⟩
    · refine h_thr (PC := fun post pex => P_X11_weight 0 (iN x) b st post pex) (PM := P_X12_weight 58 (iN x) b) (X := NSE) (k := 1) (by decide) H HM HO (fun pex h => ⟨tb_out, s_needP D hx ⟨tb_out, s_needB0 D hb h⟩⟩) (fun s1 post I0 h => ?_) (fun h => ⟨rfl, h⟩)
      exact ⟨rfl, ⟨_, rfl⟩, s_isP (m_beg I0).1.1 hx ⟨fun hz => absurd hz (by decide), fun _ => ⟨⟨_, rfl⟩, s_isB0 (m_beg I0).1.1 hb ⟨fun _ => ⟨⟨_, rfl⟩, m_fail I0 h⟩, fun hz => absurd rfl hz⟩⟩⟩⟩
  · refine h_thr (PC := fun post pex => P_X11_weight 0 a b st post pex) (PM := P_X12_weight 58 a b) (X := NSE) (k := 1) (by decide) H HM HO (fun pex h => ⟨tb_out, s_needP0 D ha h⟩) (fun s1 post I0 h => ?_) (fun h => ⟨rfl, h⟩)
    exact ⟨rfl, ⟨_, rfl⟩, s_isP0 (m_beg I0).1.1 ha ⟨fun _ => ⟨⟨_, rfl⟩, m_fail I0 h⟩, fun hz => absurd rfl hz⟩⟩
theorem c_fault {st : St} (hI : Inv st) : P_X11_fault 0 st (fun r1 st1 => P_X12_fault 58 st1 (fun r2 st2 => r1 = r2 ∧ Inv st2)) := by
  obtain ⟨v, H, HM, HO⟩ := hI
  obtain ⟨I1, F1, k1⟩ := m_beg HM
  obtain ⟨p, p', h1, h2, h3, h4, h5, h6, h7, h8, h9, h10, h11, h12⟩ := H
  refine ⟨rfl, rfl, rfl, ?_, v, InvC.mfr F1 ⟨p, p', h1, h2, h3, h4, h5, h6, h7, h8, h9, h10, h11, h12⟩, I1, HO⟩
  rw [h12]
  exact I1.2.2.2.2.2.2.1.symm
