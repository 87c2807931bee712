/-! PURE: train, onions, putOff, tie, days, undo -/
theorem inR {a : Int32} {lo hi : Nat} (hh : hi < 2147483648) : ((lo : Int) ≤ a.toInt ∧ a.toInt ≤ (hi : Int)) ↔ ∃ n, lo ≤ n ∧ n ≤ hi ∧ a = iN n := by
  constructor
  · rintro ⟨h1, h2⟩
    refine ⟨a.toInt.toNat, by omega, by omega, ?_⟩
    apply Int32.toInt_inj.mp
    rw [iN_toInt (by omega)]; omega
  · rintro ⟨n, h1, h2, rfl⟩
    rw [iN_toInt (by omega)]; omega
theorem lt_iN {a : Int32} {n : Nat} (hn : n < 2147483648) : a < iN n ↔ a.toInt < n := by rw [Int32.lt_iff_toInt_lt, iN_toInt hn]
theorem le_iN {a : Int32} {n : Nat} (hn : n < 2147483648) : a ≤ iN n ↔ a.toInt ≤ n := by rw [Int32.le_iff_toInt_le, iN_toInt hn]
theorem smd_ms : ∀ x, isM x → isM x ∨ ScM x := fun _ h => Or.inl h
section Acts2
variable {st : St}
theorem c_train {a b : Int32} (hI : Inv st) : P_L_train a b st (fun k st1 => Bth (P_X12_train 58 a b) k st1) := by
  obtain ⟨v, H, HM, HO⟩ := hI
  obtain ⟨p, D⟩ := H.D
  have q1 := HO.1.1
  by_cases ha : isI v.1.1 a
  · obtain ⟨x, hx, rfl⟩ := ha
    by_cases hb : 0 ≤ b.toInt ∧ b.toInt ≤ 9
    · refine h_ok (PC := fun post pex => P_X11_train 0 (iN x) b st post pex) (PM := P_X12_train 58 (iN x) b) (v2 := setc (setb v (pushB v.2.1)) (upd v.2.1.1 (2 + 4 * x + 1) b)) (r := v.2.1.1 (2 + 4 * x + 1)) HM (HO.push.sc (HO.2.2.1.1.irr HO.1 ⟨by omega, by omega⟩ (by omega))) (fun post h => ?_) (fun s1 post I0 h => ?_)
      · refine ⟨tb_out, s_needP D hx ⟨fun hc => ?_, fun _ => ⟨fun _ => ⟨2, rfl, ⟨_, rfl⟩, keepC H HO (fun st1 F1 H1 => ?_)⟩, fun hc => ?_⟩⟩⟩
        · rw [lt0] at hc; omega
        · obtain ⟨p1, D1⟩ := H1.D
          have hc1 := H1.c
          refine ⟨3, rfl, da_o D1.hd, s_trainsOf D1.hd (by omega) ⟨3, rfl, da_o D1.hd, s_setTrains D1.hd (by omega) ?_⟩⟩
          obtain ⟨c1, c2⟩ := H1.sc (2 + 4 * x + 1) b
          have e : gA st1 (ch 3 1) (2 + 4 * x + 1) = v.2.1.1 (2 + 4 * x + 1) := by rw [ch31, hc1]; rfl
          rw [e]
          exact h _ (F1.tr c1) c2
        · exact absurd ((le_iN (n := 9) (by decide)).mpr hb.2) hc
      · obtain ⟨I1, F1, k1⟩ := m_beg I0
        refine ⟨rfl, ⟨_, rfl⟩, s_isP I1.1 hx ⟨fun _ => s_isIn1 (by rw [Int32.toInt_toInt64]; exact hb.1) (by rw [Int32.toInt_toInt64]; exact hb.2) ⟨fun _ => ⟨⟨_, rfl⟩, keepM I1 HO (fun s2 F2 I2 k2 => ?_)⟩, fun hz => absurd hz (by decide)⟩, fun hz => absurd hz (by decide)⟩⟩
        have vx : vp_in (iN x) (al 0 74) := (show vp_in (iN x) 9 from iN_vp (by omega) (by decide))
        refine ⟨74, rfl, vx, 74, rfl, vx, ?_⟩
        rw [iN_cl (by omega)]
        have e9 : gA s2 74 x = v.2.1.1 (2 + 4 * x + 1) := by
          have := I2.c
          rw [show v.2.1.1 = (setb v (pushB v.2.1)).2.1.1 from rfl, ← this]; exact (rC_t (by omega)).symm
        rw [e9]
        obtain ⟨d1, d2⟩ := I2.mc (I := noI) (S := isM) (Fx.sa (a := s2) (x := 74) ⟨by decide, by decide⟩ x b) (fun _ _ z => z.elim) smd_ms (c := upd v.2.1.1 (2 + 4 * x + 1) b) (by rw [mC_st (by omega), I2.c]; rfl)
        exact h _ ((F1.tr F2).tr d1) d2 (k2.trans k1)
    · refine h_ok (PC := fun post pex => P_X11_train 0 (iN x) b st post pex) (PM := P_X12_train 58 (iN x) b) (v2 := setb v (rfB v.2.1 1)) (r := -1) HM (HO.rf 1) (fun post h => ?_) (fun s1 post I0 h => ?_)
      · refine ⟨tb_out, s_needP D hx ⟨fun _ => ⟨tb_out, refuseC H (by decide) h⟩, fun h0 => ⟨fun h9 => absurd ?_ hb, fun _ => ⟨tb_out, refuseC H (by decide) h⟩⟩⟩⟩
        rw [lt0] at h0
        exact ⟨by omega, (le_iN (n := 9) (by decide)).mp h9⟩
      · obtain ⟨I1, F1, k1⟩ := m_beg I0
        exact ⟨rfl, ⟨_, rfl⟩, s_isP I1.1 hx ⟨fun _ => s_isIn0 (by rw [Int32.toInt_toInt64]; exact hb) ⟨fun hz => absurd rfl hz, fun _ => ⟨⟨_, rfl⟩, refuseM I1 (k := 1) (by decide) (fun s2 F2 I2 k2 => h _ (F1.tr F2) I2 (k2.trans k1))⟩⟩, fun hz => absurd hz (by decide)⟩⟩
  · refine h_thr (PC := fun post pex => P_X11_train 0 a b st post pex) (PM := P_X12_train 58 a b) (X := NSE) (k := 1) (by decide) H HM HO (fun pex h => ⟨tb_out, s_needP0 D ha h⟩) (fun s1 post I0 h => ?_) (fun h => ⟨rfl, h⟩)
    exact ⟨rfl, ⟨_, rfl⟩, s_isP0 (m_beg I0).1.1 ha ⟨fun hz => absurd rfl hz, fun _ => ⟨⟨_, rfl⟩, m_fail I0 h⟩⟩⟩
def min9 (x : Int32) : Int32 := if x < 9 then x else 9
theorem c_onions {a b : Int32} (hI : Inv st) : P_L_onions a b st (fun k st1 => Bth (P_X12_onions 58 a b) k st1) := by
  obtain ⟨v, H, HM, HO⟩ := hI
  obtain ⟨p, D⟩ := H.D
  have q1 := HO.1.1
  by_cases ha : isI v.1.1 a
  · obtain ⟨x, hx, rfl⟩ := ha
    by_cases hb : 1 ≤ b.toInt ∧ b.toInt ≤ 9
    · refine h_ok (PC := fun post pex => P_X11_onions 0 (iN x) b st post pex) (PM := P_X12_onions 58 (iN x) b) (v2 := setc (setb v (pushB v.2.1)) (upd v.2.1.1 (2 + 4 * x + 2) (min9 (v.2.1.1 (2 + 4 * x + 2) + b)))) (r := min9 (v.2.1.1 (2 + 4 * x + 2) + b)) HM (HO.push.sc (HO.2.2.1.1.irr HO.1 ⟨by omega, by omega⟩ (by omega))) (fun post h => ?_) (fun s1 post I0 h => ?_)
      · refine ⟨tb_out, s_needP D hx ⟨fun hc => ?_, fun _ => ⟨fun _ => ⟨2, rfl, ⟨_, rfl⟩, keepC H HO (fun st1 F1 H1 => ?_)⟩, fun hc => ?_⟩⟩⟩
        · have := (lt_iN (n := 1) (by decide)).mp hc; omega
        · obtain ⟨p1, D1⟩ := H1.D
          have hc1 := H1.c
          have e : gA st1 (ch 3 1) (2 + 4 * x + 2) = v.2.1.1 (2 + 4 * x + 2) := by rw [ch31, hc1]; rfl
          refine ⟨3, rfl, 3, rfl, da_o D1.hd, s_onionsOf D1.hd (by omega) ⟨da_o D1.hd, s_setOnions D1.hd (by omega) ⟨3, rfl, da_o D1.hd, s_onionsOf D1.hd (by omega) ?_⟩⟩⟩
          rw [e]
          obtain ⟨c1, c2⟩ := H1.sc (2 + 4 * x + 2) (min9 (v.2.1.1 (2 + 4 * x + 2) + b))
          have K := h _ (F1.tr c1) c2
          rw [gA_sA, upd_same]
          exact K
        · exact absurd ((le_iN (n := 9) (by decide)).mpr hb.2) hc
      · obtain ⟨I1, F1, k1⟩ := m_beg I0
        refine ⟨rfl, ⟨_, rfl⟩, s_isP I1.1 hx ⟨fun _ => s_isIn1 (by rw [Int32.toInt_toInt64]; exact hb.1) (by rw [Int32.toInt_toInt64]; exact hb.2) ⟨fun _ => ⟨⟨_, rfl⟩, keepM I1 HO (fun s2 F2 I2 k2 => ?_)⟩, fun hz => absurd hz (by decide)⟩, fun hz => absurd hz (by decide)⟩⟩
        have vx : vp_in (iN x) (al 0 75) := (show vp_in (iN x) 9 from iN_vp (by omega) (by decide))
        refine ⟨75, rfl, 75, rfl, vx, vx, 75, rfl, vx, ?_⟩
        rw [iN_cl (by omega)]
        have e9 : gA s2 75 x = v.2.1.1 (2 + 4 * x + 2) := by
          have := I2.c
          rw [show v.2.1.1 = (setb v (pushB v.2.1)).2.1.1 from rfl, ← this]; exact (rC_o (by omega)).symm
        rw [e9]
        obtain ⟨d1, d2⟩ := I2.mc (I := noI) (S := isM) (Fx.sa (a := s2) (x := 75) ⟨by decide, by decide⟩ x (min9 (v.2.1.1 (2 + 4 * x + 2) + b))) (fun _ _ z => z.elim) smd_ms (c := upd v.2.1.1 (2 + 4 * x + 2) (min9 (v.2.1.1 (2 + 4 * x + 2) + b))) (by rw [mC_so (by omega), I2.c]; rfl)
        have K := h _ ((F1.tr F2).tr d1) d2 (k2.trans k1)
        rw [gA_sA, upd_same]
        exact K
    · refine h_ok (PC := fun post pex => P_X11_onions 0 (iN x) b st post pex) (PM := P_X12_onions 58 (iN x) b) (v2 := setb v (rfB v.2.1 1)) (r := -1) HM (HO.rf 1) (fun post h => ?_) (fun s1 post I0 h => ?_)
      · refine ⟨tb_out, s_needP D hx ⟨fun _ => ⟨tb_out, refuseC H (by decide) h⟩, fun h0 => ⟨fun h9 => absurd ?_ hb, fun _ => ⟨tb_out, refuseC H (by decide) h⟩⟩⟩⟩
        have h1 : ¬ b.toInt < 1 := fun z => h0 ((lt_iN (n := 1) (by decide)).mpr z)
        exact ⟨by omega, (le_iN (n := 9) (by decide)).mp h9⟩
      · obtain ⟨I1, F1, k1⟩ := m_beg I0
        exact ⟨rfl, ⟨_, rfl⟩, s_isP I1.1 hx ⟨fun _ => s_isIn0 (by rw [Int32.toInt_toInt64]; exact hb) ⟨fun hz => absurd rfl hz, fun _ => ⟨⟨_, rfl⟩, refuseM I1 (k := 1) (by decide) (fun s2 F2 I2 k2 => h _ (F1.tr F2) I2 (k2.trans k1))⟩⟩, fun hz => absurd hz (by decide)⟩⟩
  · refine h_thr (PC := fun post pex => P_X11_onions 0 a b st post pex) (PM := P_X12_onions 58 a b) (X := NSE) (k := 1) (by decide) H HM HO (fun pex h => ⟨tb_out, s_needP0 D ha h⟩) (fun s1 post I0 h => ?_) (fun h => ⟨rfl, h⟩)
    exact ⟨rfl, ⟨_, rfl⟩, s_isP0 (m_beg I0).1.1 ha ⟨fun hz => absurd rfl hz, fun _ => ⟨⟨_, rfl⟩, m_fail I0 h⟩⟩⟩
theorem CB.wed {q : PD} (hq : PDok q) {c : Nat → Int32} {b : Nat} (hb : b < q.2.1) {x : Int32} (hx : 0 ≤ x) (hx0 : c 0 ≤ x) (h : CB q c) : CB q (upd c (38 + 3 * b) x) := by
  have q1 := hq.1
  have q2 := hq.2.1
  obtain ⟨⟨a1, a2, a3⟩, h2, h3, h4, h5⟩ := h
  refine ⟨⟨fun p hp b2 hb2 => ?_, fun p hp => ?_, fun b2 hb2 => ?_⟩, fun i hi => ?_, ?_, fun b2 hb2 => ?_, fun b2 hb2 hh => ?_⟩
  · rw [upd_ne (by omega)]; exact a1 p hp b2 hb2
  · rw [upd_ne (by omega)]; exact a2 p hp
  · rw [upd_ne (by omega), upd_ne (by omega)]; exact a3 b2 hb2
  · rw [upd_ne (by omega)]; exact h2 i hi
  · rw [upd_ne (by omega)]; exact h3
  · by_cases e : b2 = b
    · subst e; rw [upd_same]; exact hx
    · rw [upd_ne (by omega)]; exact h4 b2 hb2
  · rw [upd_ne (by omega)] at hh
    rw [upd_ne (show 0 ≠ 38 + 3 * b by omega)]
    by_cases e : b2 = b
    · subst e; rw [upd_same]; exact hx0
    · rw [upd_ne (by omega)]; exact h5 b2 hb2 hh
theorem CB.tie {q : PD} (hq : PDok q) {c : Nat → Int32} {p0 b0 : Nat} (hp0 : p0 < q.1) (hb0 : b0 < q.2.1) {x : Int32} (hx : 0 ≤ x) (h : CB q c) : CB q (upd c (56 + 6 * p0 + b0) x) := by
  have q1 := hq.1
  have q2 := hq.2.1
  obtain ⟨⟨a1, a2, a3⟩, h2, h3, h4, h5⟩ := h
  refine ⟨⟨fun p hp b2 hb2 => ?_, fun p hp => ?_, fun b2 hb2 => ?_⟩, fun i hi => ?_, ?_, fun b2 hb2 => ?_, fun b2 hb2 hh => ?_⟩
  · by_cases e : 56 + 6 * p + b2 = 56 + 6 * p0 + b0
    · rw [e, upd_same]; exact hx
    · rw [upd_ne e]; exact a1 p hp b2 hb2
  · rw [upd_ne (by omega)]; exact a2 p hp
  · rw [upd_ne (by omega), upd_ne (by omega)]; exact a3 b2 hb2
  · rw [upd_ne (by omega)]; exact h2 i hi
  · rw [upd_ne (by omega)]; exact h3
  · rw [upd_ne (by omega)]; exact h4 b2 hb2
  · rw [upd_ne (by omega)] at hh
    rw [upd_ne (by omega), upd_ne (by omega)]; exact h5 b2 hb2 hh
theorem c_putOff {a b : Int32} (hI : Inv st) : P_L_putOff a b st (fun k st1 => Bth (P_X12_putOff 58 a b) k st1) := by
  obtain ⟨v, H, HM, HO⟩ := hI
  obtain ⟨p, D⟩ := H.D
  have q1 := HO.1.1
  have q2 := HO.1.2.1
  have hc := H.c
  obtain ⟨dd, hdd, ed⟩ := HO.2.2.1.1.2.2.1
  by_cases ha : isI v.1.2.1 a
  · obtain ⟨x, hx, rfl⟩ := ha
    have hhome := (HO.2.2.1.1.1.2.2 x hx).1
    by_cases hb : v.2.1.1 (38 + 3 * x + 1) = 1 ∧ (dd : Int) ≤ b.toInt ∧ b.toInt ≤ 999
    · have hb0 : (0 : Int32) ≤ b := by
        rw [Int32.le_iff_toInt_le, show (0 : Int32).toInt = 0 by decide]; omega
      refine h_ok (PC := fun post pex => P_X11_putOff 0 (iN x) b st post pex) (PM := P_X12_putOff 58 (iN x) b) (v2 := setc (setb v (pushB v.2.1)) (upd v.2.1.1 (38 + 3 * x) b)) (r := v.2.1.1 (38 + 3 * x)) HM (HO.push.sc (HO.2.2.1.1.wed HO.1 hx hb0 (by rw [ed, Int32.le_iff_toInt_le, iN_toInt (by omega)]; exact hb.2.1))) (fun post h => ?_) (fun s1 post I0 h => ?_)
      · refine ⟨tb_out, s_needB D hx ⟨3, rfl, da_o D.hd, s_isHome D.hd (by omega) ?_⟩⟩
        rw [ch31, hc, if_pos hb.1]
        refine ⟨fun hz => absurd hz (by decide), fun _ => ⟨3, rfl, da_o D.hd, s_today D.hd ?_⟩⟩
        rw [ch31, hc, ed]
        refine ⟨fun hz => ?_, fun _ => ⟨fun _ => ⟨2, rfl, ⟨_, rfl⟩, keepC H HO (fun st1 F1 H1 => ?_)⟩, fun hz => ?_⟩⟩
        · rw [lt_iN (by omega)] at hz; omega
        · obtain ⟨p1, D1⟩ := H1.D
          have hc1 := H1.c
          refine ⟨3, rfl, da_o D1.hd, s_weddingOf D1.hd (by omega) ⟨3, rfl, da_o D1.hd, s_setWedding D1.hd (by omega) ?_⟩⟩
          obtain ⟨c1, c2⟩ := H1.sc (38 + 3 * x) b
          have e : gA st1 (ch 3 1) (38 + 3 * x) = v.2.1.1 (38 + 3 * x) := by rw [ch31, hc1]; rfl
          rw [e]
          exact h _ (F1.tr c1) c2
        · exact absurd ((le_iN (n := 999) (by decide)).mpr hb.2.2) hz
      · obtain ⟨I1, F1, k1⟩ := m_beg I0
        have eC := I1.c
        have vx : ∀ y, al 0 y = 6 → vp_in (iN x) (al 0 y) := fun y e => by rw [e]; exact iN_vp (by omega) (by decide)
        have e78 : gA (sI s1 58 4 0) 78 x = v.2.1.1 (38 + 3 * x + 1) := by rw [← eC]; exact (rC_h (by omega)).symm
        have e36 : gI (sI s1 58 4 0) 58 36 = iN dd := by rw [← ed, ← eC]; rfl
        refine ⟨rfl, ⟨_, rfl⟩, s_isB I1.1 hx ⟨fun _ => ⟨78, rfl, vx 78 rfl, ?_⟩, fun hz => absurd hz (by decide)⟩⟩
        rw [iN_cl (by omega), e78, e36]
        refine ⟨fun hz => ?_, fun _ => ⟨rfl, s_isIn1 (by rw [Int32.toInt_toInt64, Int32.toInt_toInt64, iN_toInt (by omega)]; exact hb.2.1) (by rw [Int32.toInt_toInt64]; exact hb.2.2) ⟨fun _ => ⟨⟨_, rfl⟩, keepM I1 HO (fun s2 F2 I2 k2 => ?_)⟩, fun hz => absurd hz (by decide)⟩⟩⟩
        · rw [hb.1] at hz; exact absurd hz (by decide)
        refine ⟨77, rfl, vx 77 rfl, 77, rfl, vx 77 rfl, ?_⟩
        have e9 : gA s2 77 x = v.2.1.1 (38 + 3 * x) := by
          have := I2.c
          rw [show v.2.1.1 = (setb v (pushB v.2.1)).2.1.1 from rfl, ← this]; exact (rC_w (by omega)).symm
        rw [e9]
        obtain ⟨d1, d2⟩ := I2.mc (I := noI) (S := isM) (Fx.sa (a := s2) (x := 77) ⟨by decide, by decide⟩ x b) (fun _ _ z => z.elim) smd_ms (c := upd v.2.1.1 (38 + 3 * x) b) (by rw [mC_sw (by omega), I2.c]; rfl)
        exact h _ ((F1.tr F2).tr d1) d2 (k2.trans k1)
    · refine h_ok (PC := fun post pex => P_X11_putOff 0 (iN x) b st post pex) (PM := P_X12_putOff 58 (iN x) b) (v2 := setb v (rfB v.2.1 1)) (r := -1) HM (HO.rf 1) (fun post h => ?_) (fun s1 post I0 h => ?_)
      · have R : P_X11_putOff_34 0 (iN x) b post (fun X st1 => X = NSE ∧ Bth (P_X12_putOff 58 (iN x) b) 1 st1) st := ⟨tb_out, refuseC H (k := 1) (by decide) h⟩
        refine ⟨tb_out, s_needB D hx ⟨3, rfl, da_o D.hd, s_isHome D.hd (by omega) ⟨fun _ => R, fun hz => ⟨3, rfl, da_o D.hd, s_today D.hd ⟨fun _ => R, fun h1 => ⟨fun h2 => absurd ?_ hb, fun _ => R⟩⟩⟩⟩⟩⟩
        rw [ch31, hc, ed, lt_iN (by omega)] at h1
        refine ⟨?_, by omega, (le_iN (n := 999) (by decide)).mp h2⟩
        rw [ch31, hc] at hz
        by_cases e : v.2.1.1 (38 + 3 * x + 1) = 1
        · exact e
        · rw [if_neg e] at hz; exact absurd rfl hz
      · obtain ⟨I1, F1, k1⟩ := m_beg I0
        have eC := I1.c
        have vx : ∀ y, al 0 y = 6 → vp_in (iN x) (al 0 y) := fun y e => by rw [e]; exact iN_vp (by omega) (by decide)
        have e78 : gA (sI s1 58 4 0) 78 x = v.2.1.1 (38 + 3 * x + 1) := by rw [← eC]; exact (rC_h (by omega)).symm
        have e36 : gI (sI s1 58 4 0) 58 36 = iN dd := by rw [← ed, ← eC]; rfl
        have R : P_X12_putOff_44 58 (iN x) b post (sI s1 58 4 0) := ⟨⟨_, rfl⟩, refuseM I1 (k := 1) (by decide) (fun s2 F2 I2 k2 => h _ (F1.tr F2) I2 (k2.trans k1))⟩
        refine ⟨rfl, ⟨_, rfl⟩, s_isB I1.1 hx ⟨fun _ => ⟨78, rfl, vx 78 rfl, ?_⟩, fun hz => absurd hz (by decide)⟩⟩
        rw [iN_cl (by omega), e78, e36]
        refine ⟨fun _ => R, fun hz => ⟨rfl, s_isIn0 (fun hn => hb ⟨?_, ?_⟩) ⟨fun hz => absurd rfl hz, fun _ => R⟩⟩⟩
        · rcases hhome with e | e
          · exact absurd e hz
          · exact e
        · rw [Int32.toInt_toInt64, Int32.toInt_toInt64, iN_toInt (by omega)] at hn
          exact ⟨hn.1, hn.2⟩
  · refine h_thr (PC := fun post pex => P_X11_putOff 0 a b st post pex) (PM := P_X12_putOff 58 a b) (X := NSE) (k := 1) (by decide) H HM HO (fun pex h => ⟨tb_out, s_needB0 D ha h⟩) (fun s1 post I0 h => ?_) (fun h => ⟨rfl, h⟩)
    exact ⟨rfl, ⟨_, rfl⟩, s_isB0 (m_beg I0).1.1 ha ⟨fun hz => absurd rfl hz, fun _ => ⟨⟨_, rfl⟩, m_fail I0 h⟩⟩⟩
theorem c_tie {a b y : Int32} (hI : Inv st) : P_L_tie a b y st (fun k st1 => Bth (P_X12_tie 58 a b y) k st1) := by
  obtain ⟨v, H, HM, HO⟩ := hI
  obtain ⟨p, D⟩ := H.D
  have q1 := HO.1.1
  have q2 := HO.1.2.1
  by_cases ha : isI v.1.1 a
  · obtain ⟨x, hx, rfl⟩ := ha
    by_cases hbb : isI v.1.2.1 b
    · obtain ⟨z, hz, rfl⟩ := hbb
      by_cases hb : 1 ≤ y.toInt ∧ y.toInt ≤ 40
      · have hb0 : (0 : Int32) ≤ y := by
          rw [Int32.le_iff_toInt_le, show (0 : Int32).toInt = 0 by decide]; omega
        refine h_ok (PC := fun post pex => P_X11_tie 0 (iN x) (iN z) y st post pex) (PM := P_X12_tie 58 (iN x) (iN z) y) (v2 := setc (setb v (pushB v.2.1)) (upd v.2.1.1 (56 + 6 * x + z) y)) (r := v.2.1.1 (56 + 6 * x + z)) HM (HO.push.sc (HO.2.2.1.1.tie HO.1 hx hz hb0)) (fun post h => ?_) (fun s1 post I0 h => ?_)
        · refine ⟨tb_out, s_needP D hx ⟨tb_out, s_needB D hz ⟨fun hc => ?_, fun _ => ⟨fun _ => ⟨2, rfl, ⟨_, rfl⟩, keepC H HO (fun st1 F1 H1 => ?_)⟩, fun hc => ?_⟩⟩⟩⟩
          · have := (lt_iN (n := 1) (by decide)).mp hc; omega
          · obtain ⟨p1, D1⟩ := H1.D
            have hc1 := H1.c
            refine ⟨3, rfl, da_o D1.hd, s_yearsOf D1.hd (by omega) (by omega) ⟨3, rfl, da_o D1.hd, s_setYears D1.hd (by omega) (by omega) ?_⟩⟩
            obtain ⟨c1, c2⟩ := H1.sc (56 + 6 * x + z) y
            have e : gA st1 (ch 3 1) (56 + 6 * x + z) = v.2.1.1 (56 + 6 * x + z) := by rw [ch31, hc1]; rfl
            rw [e]
            exact h _ (F1.tr c1) c2
          · exact absurd ((le_iN (n := 40) (by decide)).mpr hb.2) hc
        · obtain ⟨I1, F1, k1⟩ := m_beg I0
          refine ⟨rfl, ⟨_, rfl⟩, s_isP I1.1 hx ⟨fun hz => absurd hz (by decide), fun _ => ⟨⟨_, rfl⟩, s_isB I1.1 hz ⟨fun _ => s_isIn1 (by rw [Int32.toInt_toInt64]; exact hb.1) (by rw [Int32.toInt_toInt64]; exact hb.2) ⟨fun _ => ⟨⟨_, rfl⟩, keepM I1 HO (fun s2 F2 I2 k2 => ?_)⟩, fun hz => absurd hz (by decide)⟩, fun hz => absurd hz (by decide)⟩⟩⟩⟩
          rw [x_m, iN_cl (by omega)]
          have vx : vp_in (iN (6 * x + z)) (al 0 80) := by rw [al80]; exact iN_vp (by omega) (by decide)
          refine ⟨80, rfl, vx, 80, rfl, vx, ?_⟩
          have e9 : gA s2 80 (6 * x + z) = v.2.1.1 (56 + 6 * x + z) := by
            have := I2.c
            rw [show v.2.1.1 = (setb v (pushB v.2.1)).2.1.1 from rfl, ← this]; exact (rC_t2 (by omega) (by omega)).symm
          rw [e9]
          obtain ⟨d1, d2⟩ := I2.mc (I := noI) (S := isM) (Fx.sa (a := s2) (x := 80) ⟨by decide, by decide⟩ (6 * x + z) y) (fun _ _ z => z.elim) smd_ms (c := upd v.2.1.1 (56 + 6 * x + z) y) (by rw [mC_sti (by omega), I2.c, show 56 + (6 * x + z) = 56 + 6 * x + z by omega]; rfl)
          exact h _ ((F1.tr F2).tr d1) d2 (k2.trans k1)
      · refine h_ok (PC := fun post pex => P_X11_tie 0 (iN x) (iN z) y st post pex) (PM := P_X12_tie 58 (iN x) (iN z) y) (v2 := setb v (rfB v.2.1 1)) (r := -1) HM (HO.rf 1) (fun post h => ?_) (fun s1 post I0 h => ?_)
        · refine ⟨tb_out, s_needP D hx ⟨tb_out, s_needB D hz ⟨fun _ => ⟨tb_out, refuseC H (by decide) h⟩, fun h0 => ⟨fun h9 => absurd ?_ hb, fun _ => ⟨tb_out, refuseC H (by decide) h⟩⟩⟩⟩⟩
          have h1 : ¬ y.toInt < 1 := fun z => h0 ((lt_iN (n := 1) (by decide)).mpr z)
          exact ⟨by omega, (le_iN (n := 40) (by decide)).mp h9⟩
        · obtain ⟨I1, F1, k1⟩ := m_beg I0
          exact ⟨rfl, ⟨_, rfl⟩, s_isP I1.1 hx ⟨fun hz => absurd hz (by decide), fun _ => ⟨⟨_, rfl⟩, s_isB I1.1 hz ⟨fun _ => s_isIn0 (by rw [Int32.toInt_toInt64]; exact hb) ⟨fun hz => absurd rfl hz, fun _ => ⟨⟨_, rfl⟩, refuseM I1 (k := 1) (by decide) (fun s2 F2 I2 k2 => h _ (F1.tr F2) I2 (k2.trans k1))⟩⟩, fun hz => absurd hz (by decide)⟩⟩⟩⟩
    · refine h_thr (PC := fun post pex => P_X11_tie 0 (iN x) b y st post pex) (PM := P_X12_tie 58 (iN x) b y) (X := NSE) (k := 1) (by decide) H HM HO (fun pex h => ⟨tb_out, s_needP D hx ⟨tb_out, s_needB0 D hbb h⟩⟩) (fun s1 post I0 h => ?_) (fun h => ⟨rfl, h⟩)
      exact ⟨rfl, ⟨_, rfl⟩, s_isP (m_beg I0).1.1 hx ⟨fun hz => absurd hz (by decide), fun _ => ⟨⟨_, rfl⟩, s_isB0 (m_beg I0).1.1 hbb ⟨fun hz => absurd rfl hz, fun _ => ⟨⟨_, rfl⟩, m_fail I0 h⟩⟩⟩⟩⟩
  · refine h_thr (PC := fun post pex => P_X11_tie 0 a b y st post pex) (PM := P_X12_tie 58 a b y) (X := NSE) (k := 1) (by decide) H HM HO (fun pex h => ⟨tb_out, s_needP0 D ha h⟩) (fun s1 post I0 h => ?_) (fun h => ⟨rfl, h⟩)
    exact ⟨rfl, ⟨_, rfl⟩, s_isP0 (m_beg I0).1.1 ha ⟨fun _ => ⟨⟨_, rfl⟩, m_fail I0 h⟩, fun hz => absurd rfl hz⟩⟩
end Acts2
