/-! PURE: toTrain, instead -/
def ttF (q : PD) (c : Nat → Int32) (p b n : Nat) : Int32 := lp (fun t s => if s = -1 then (if ldF q (upd c (2 + 4 * p + 1) (iN t)) b = iN p then iN t else -1) else s) (-1) n
theorem tt_s (q : PD) (c : Nat → Int32) (p b n : Nat) : ttF q c p b (n + 1) = if ttF q c p b n = -1 then (if ldF q (upd c (2 + 4 * p + 1) (iN n)) b = iN p then iN n else -1) else ttF q c p b n := rfl
theorem tt_stay {q : PD} {c : Nat → Int32} {p b n : Nat} (h : ttF q c p b n ≠ -1) : ∀ m, ttF q c p b (n + m) = ttF q c p b n := by
  intro m
  induction m with
  | zero => rfl
  | succ m ih => rw [show n + (m + 1) = (n + m) + 1 by omega, tt_s, ih, if_neg h]
theorem ldF_ag {q : PD} (hq : PDok q) {c c2 : Nat → Int32} (h : AgC q.2.1 c c2) {b : Nat} (hb : b < 6) : ldF q c b = ldF q c2 b := (it_ag hq (w := fun _ => 0) h 60).lo (by omega)
theorem s_ttC {st : St} {v : AV} (H : InvC st v) (HO : AvOk v) {x b : Nat} (hx : x < v.1.1) (hb : b < v.1.2.1) {post : Int32 → St → Prop} (h : ∀ st1, QFr st st1 → post (ttF v.1 v.2.1.1 x b 10) st1) : ∃ n8, P_X9_leastTrains_15 36 (iN x) (iN b) post n8 0 st := by
  obtain ⟨p, D⟩ := H.D
  have q1 := HO.1.1
  have q2 := HO.1.2.1
  have hc := H.c
  obtain ⟨dd, hdd, ed⟩ := HO.2.2.1.1.2.2.1
  have ht : ∃ pt, isPl pt ∧ gR st 30 0 = some pt := by obtain ⟨_, _, _, _, _, _, ht, _⟩ := H; exact ht
  refine ⟨11, loop_up (α := Unit) (P := fun n i _ st => P_X9_leastTrains_15 36 (iN x) (iN b) post n i st) (N := 10) (fun i _ st' => QFr st st' ∧ ttF v.1 v.2.1.1 x b i = -1) ?_ ?_ 10 0 () st (by omega) ⟨QFr.rf ht, rfl⟩⟩
  · rintro i hi _ st' n ⟨Q1, e1⟩ ih
    have hs := tt_s v.1 v.2.1.1 x b i
    rw [if_pos e1] at hs
    show P_X9_leastTrains_15 36 (iN x) (iN b) post (n + 1) (iN i) st'
    unfold P_X9_leastTrains_15
    refine ⟨fun hz => ?_, fun _ => ⟨30, rfl, 3, rfl, ⟨_, rfl⟩, s_copyT (D.qfr Q1) (fun st1 Q2 D2 A2 _ => ⟨30, rfl, ⟨_, rfl⟩, s_setTrains isDa30 (by omega) ⟨⟨_, rfl⟩, ?_⟩⟩)⟩⟩
    · have hz : iN 9 < iN i := hz
      rw [iN_lt (by omega) (by omega)] at hz; omega
    rw [Q1.e4, hc] at A2
    obtain ⟨Q3, D3, A3⟩ := tr_up (Q1.tr Q2) D2 A2 (2 + 4 * x + 1) (iN i)
    refine s_foresee D3 HO.2.1 (d := dd) (by omega) (by rw [Q3.e4, hc]; exact ed) A3 (by rw [upd_ne (by omega)]; exact ed) (fun st4 _ Q4 D4 e4 => ⟨30, rfl, ⟨_, rfl⟩, s_whoLedT (by omega) ?_⟩)
    rw [e4 b hb]
    refine ⟨fun hz => ?_, fun hz => ?_⟩
    · rw [iN_s]
      exact ih () st4 ⟨Q3.tr Q4, by rw [hs, if_neg hz]⟩
    · rw [if_pos hz] at hs
      have e9 : ttF v.1 v.2.1.1 x b 10 = iN i := by
        have := tt_stay (q := v.1) (c := v.2.1.1) (p := x) (b := b) (n := i + 1) (by rw [hs]; exact iN_ne_m1 (by omega)) (9 - i)
        rw [show i + 1 + (9 - i) = 10 by omega, hs] at this
        exact this
      have K := h st4 (Q3.tr Q4)
      rw [e9] at K
      exact K
  · rintro _ st' n ⟨Q1, e1⟩
    show P_X9_leastTrains_15 36 (iN x) (iN b) post (n + 1) (iN 10) st'
    unfold P_X9_leastTrains_15
    refine ⟨fun _ => ?_, fun hz => absurd (by decide) hz⟩
    have K := h st' Q1
    rw [e1] at K
    exact K
theorem s_ttM {st : St} {q : PD} (M : MPl st q) {C : Nat → Int32} (hm : mC q.2.1 st = C) (hC : CI q C) {x b : Nat} (hx : x < q.1) (hb : b < q.2.1) {post : Int32 → St → Prop} (h : ∀ st2, Fx IMd SWt st st2 → mC q.2.1 st2 = C → post (ttF q C x b 10) st2) : ∃ n8, P_X12_toTrain_51 58 (iN x) (iN b) post n8 (C (2 + 4 * x + 1)) (-1) 0 st := by
  have q1 := M.np
  have q2 := M.nb
  have v74 : vp_in (iN x) (al 0 74) := vi9 hx q1 rfl
  have s74 : SWt 74 := Or.inl (Or.inl ⟨by decide, by decide⟩)
  have fin : ∀ (r : Int32) (i : Nat) (st' : St) (y : Int32), Fx IMd SWt st st' → mC q.2.1 st' = upd C (2 + 4 * x + 1) y → r = ttF q C x b i → (i = 10 ∨ (i < 10 ∧ r ≠ -1)) → P_X12_toTrain_91 58 (iN x) (iN b) post (C (2 + 4 * x + 1)) r st' := by
    intro r i st' y F1 e1 er hi
    refine ⟨74, rfl, v74, ?_⟩
    rw [iN_cl (by omega)]
    have K := h (sA st' 74 x (C (2 + 4 * x + 1))) (F1.tr (Fx.sa s74 _ _)) (by rw [mC_st (by omega), e1, upd_upd]; exact upd_id rfl)
    have e9 : ttF q C x b 10 = r := by
      rcases hi with rfl | ⟨hi, hr⟩
      · exact er.symm
      · have := tt_stay (q := q) (c := C) (p := x) (b := b) (n := i) (by rw [← er]; exact hr) (10 - i)
        rw [show i + (10 - i) = 10 by omega] at this
        rw [this, er]
    rw [e9] at K
    exact K
  refine ⟨11, loop_up (P := fun n i r st => P_X12_toTrain_51 58 (iN x) (iN b) post n (C (2 + 4 * x + 1)) r i st) (N := 10) (fun i r st' => Fx IMd SWt st st' ∧ (∃ y, mC q.2.1 st' = upd C (2 + 4 * x + 1) y) ∧ r = ttF q C x b i) ?_ ?_ 10 0 (-1) st (by omega) ⟨Fx.rf, ⟨_, by rw [upd_id rfl]; exact hm⟩, rfl⟩⟩
  · rintro i hi r st' n ⟨F1, ⟨y, e1⟩, er⟩ ih
    have hs := tt_s q C x b i
    show P_X12_toTrain_51 58 (iN x) (iN b) post (n + 1) (C (2 + 4 * x + 1)) r (iN i) st'
    unfold P_X12_toTrain_51
    refine ⟨fun hz => ?_, fun _ => ⟨fun hr => fin r i st' y F1 e1 er (Or.inr ⟨hi, hr⟩), fun hr => ⟨74, rfl, v74, ⟨_, rfl⟩, ?_⟩⟩⟩
    · have hz : iN 9 < iN i := hz
      rw [iN_lt (by omega) (by omega)] at hz; omega
    rw [← er, if_pos hr] at hs
    rw [iN_cl (by omega)]
    have F2 : Fx IMd SWt st (sA st' 74 x (iN i)) := F1.tr (Fx.sa s74 _ _)
    have e2 : mC q.2.1 (sA st' 74 x (iN i)) = upd C (2 + 4 * x + 1) (iN i) := by rw [mC_st (by omega), e1, upd_upd]
    refine s_leaderOf (M.fx F2 swt_p) (by rw [e2]; exact CI_irr M.ok ⟨by omega, by omega⟩ hC) hb (fun s3 F3 e3 => ?_)
    rw [e2]
    have e4 : mC q.2.1 s3 = upd C (2 + 4 * x + 1) (iN i) := (e3 _).trans e2
    refine ⟨fun hz => ?_, fun hz => ?_⟩
    · show P_X12_toTrain_51 58 (iN x) (iN b) post n (C (2 + 4 * x + 1)) r (iN i + 1) s3
      rw [iN_s]
      exact ih _ _ ⟨F2.tr F3, ⟨_, e4⟩, by rw [hs, if_neg hz, hr]⟩
    · show P_X12_toTrain_51 58 (iN x) (iN b) post n (C (2 + 4 * x + 1)) (iN i) (iN i + 1) s3
      rw [iN_s]
      exact ih _ _ ⟨F2.tr F3, ⟨_, e4⟩, by rw [hs, if_pos hz]⟩
  · rintro r st' n ⟨F1, ⟨y, e1⟩, er⟩
    show P_X12_toTrain_51 58 (iN x) (iN b) post (n + 1) (C (2 + 4 * x + 1)) r (iN 10) st'
    unfold P_X12_toTrain_51
    exact ⟨fun _ => fin r 10 st' y F1 e1 er (Or.inl rfl), fun hz => absurd (by decide) hz⟩
theorem c_toTrain {a b : Int32} {st : St} (hI : Inv st) : P_L_toTrain a b st (fun k st1 => Bth (P_X12_toTrain 58 a b) k st1) := by
  obtain ⟨v, H, HM, HO⟩ := hI
  obtain ⟨p, D⟩ := H.D
  have q1 := HO.1.1
  have q2 := HO.1.2.1
  have hc := H.c
  by_cases ha : isI v.1.1 a
  · obtain ⟨x, hx, rfl⟩ := ha
    by_cases hb : isI v.1.2.1 b
    · obtain ⟨y, hy, rfl⟩ := hb
      have hhome := (HO.2.2.1.1.1.2.2 y hy).1
      refine h_ok (PC := fun post pex => P_X11_toTrain 0 (iN x) (iN y) st post pex) (PM := P_X12_toTrain 58 (iN x) (iN y)) (v2 := v) (r := if v.2.1.1 (38 + 3 * y + 1) = 1 then ttF v.1 v.2.1.1 x y 10 else -1) HM HO (fun post h => ?_) (fun s1 post I0 h => ?_)
      · refine ⟨tb_out, s_needP D hx ⟨tb_out, s_needB D hy ⟨36, rfl, ⟨_, rfl⟩, 3, rfl, ⟨_, rfl⟩, s_isHome D.hd (by omega) ?_⟩⟩⟩
        rw [ch31, hc]
        refine ⟨fun hz => s_ttC H HO hx hy (fun st1 Q1 => ?_), fun hz => ?_⟩
        · rw [if_pos (ite2 hz)] at h
          exact h st1 Q1.cfr (H.qfr Q1)
        · rw [if_neg (ite1 hz)] at h
          exact h st CFr.rf H
      · have I1 := (m_beg I0).1
        have eC := I1.c
        have e78 : gA (sI s1 58 4 0) 78 (iN y).toNatClampNeg = v.2.1.1 (38 + 3 * y + 1) := by rw [iN_cl (by omega), ← eC]; exact (rC_h (by omega)).symm
        have e74 : gA (sI s1 58 4 0) 74 (iN x).toNatClampNeg = v.2.1.1 (2 + 4 * x + 1) := by rw [iN_cl (by omega), ← eC]; exact (rC_t (by omega)).symm
        refine ⟨rfl, ⟨_, rfl⟩, s_isP I1.1 hx ⟨fun hz => absurd hz (by decide), fun _ => ⟨⟨_, rfl⟩, s_isB I1.1 hy ⟨fun _ => ⟨78, rfl, vi6 hy q2 rfl, ?_⟩, fun hz => absurd hz (by decide)⟩⟩⟩⟩
        rw [e78]
        refine ⟨fun hz => ⟨74, rfl, vi9 hx q1 rfl, ?_⟩, fun hz => ?_⟩
        · rw [e74]
          refine s_ttM I1.1 eC HO.2.2.1.1.1 hx hy (fun s3 F3 e3 => ?_)
          obtain ⟨g1, g2, g3⟩ := m_q I0 F3 swt_sw (e3.trans eC.symm)
          rw [if_pos (hhome.resolve_left hz)] at h
          exact h s3 g1 g2 g3
        · rw [if_neg (by rw [hz]; decide)] at h
          obtain ⟨_, F1, k1⟩ := m_beg I0
          exact h _ F1 I1 k1
    · refine h_thr (PC := fun post pex => P_X11_toTrain 0 (iN x) b st post pex) (PM := P_X12_toTrain 58 (iN x) b) (X := NSE) (k := 1) (by decide) H HM HO (fun pex h => ⟨tb_out, s_needP D hx ⟨tb_out, s_needB0 D hb h⟩⟩) (fun s1 post I0 h => ?_) (fun h => ⟨rfl, h⟩)
      exact ⟨rfl, ⟨_, rfl⟩, s_isP (m_beg I0).1.1 hx ⟨fun hz => absurd hz (by decide), fun _ => ⟨⟨_, rfl⟩, s_isB0 (m_beg I0).1.1 hb ⟨fun hz => absurd rfl hz, fun _ => ⟨⟨_, rfl⟩, m_fail I0 h⟩⟩⟩⟩⟩
  · refine h_thr (PC := fun post pex => P_X11_toTrain 0 a b st post pex) (PM := P_X12_toTrain 58 a b) (X := NSE) (k := 1) (by decide) H HM HO (fun pex h => ⟨tb_out, s_needP0 D ha h⟩) (fun s1 post I0 h => ?_) (fun h => ⟨rfl, h⟩)
    exact ⟨rfl, ⟨_, rfl⟩, s_isP0 (m_beg I0).1.1 ha ⟨fun _ => ⟨⟨_, rfl⟩, m_fail I0 h⟩, fun hz => absurd rfl hz⟩⟩
