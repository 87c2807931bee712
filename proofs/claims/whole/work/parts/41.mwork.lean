/-! PURE: the reference works a rule out -/
def trC (c : Int32) : Int32 := if c = -9 then -27 else if c = -10 then -26 else if c = -11 then -28 else if c = -12 then -24 else if c = -13 then -25 else if c = -14 then -20 else if c = -15 then -21 else if c = -16 then -22 else if c = -17 then -23 else c
theorem code_ops {c : Int32} (h1 : (-17 : Int32) ≤ c) (h2 : c < -8) : c = -9 ∨ c = -10 ∨ c = -11 ∨ c = -12 ∨ c = -13 ∨ c = -14 ∨ c = -15 ∨ c = -16 ∨ c = -17 := by
  have a1 : -17 ≤ c.toInt := by rw [Int32.le_iff_toInt_le] at h1; exact h1
  have a2 : c.toInt < -8 := by rw [Int32.lt_iff_toInt_lt] at h2; exact h2
  have key : ∀ y : Int32, c.toInt = y.toInt → c = y := fun y e => Int32.toInt_inj.mp e
  rcases (show c.toInt = -9 ∨ c.toInt = -10 ∨ c.toInt = -11 ∨ c.toInt = -12 ∨ c.toInt = -13 ∨ c.toInt = -14 ∨ c.toInt = -15 ∨ c.toInt = -16 ∨ c.toInt = -17 by omega) with e | e | e | e | e | e | e | e | e
  · exact Or.inl (key _ e)
  · exact Or.inr (Or.inl (key _ e))
  · exact Or.inr (Or.inr (Or.inl (key _ e)))
  · exact Or.inr (Or.inr (Or.inr (Or.inl (key _ e))))
  · exact Or.inr (Or.inr (Or.inr (Or.inr (Or.inl (key _ e)))))
  · exact Or.inr (Or.inr (Or.inr (Or.inr (Or.inr (Or.inl (key _ e))))))
  · exact Or.inr (Or.inr (Or.inr (Or.inr (Or.inr (Or.inr (Or.inl (key _ e)))))))
  · exact Or.inr (Or.inr (Or.inr (Or.inr (Or.inr (Or.inr (Or.inr (Or.inl (key _ e))))))))
  · exact Or.inr (Or.inr (Or.inr (Or.inr (Or.inr (Or.inr (Or.inr (Or.inr (key _ e))))))))
theorem tr_val {c : Int32} (h : ¬ c < -8) : trC c = c := by
  have key : ∀ y : Int32, y < -8 → c ≠ y := fun y hy e => h (e ▸ hy)
  unfold trC
  rw [if_neg (key _ (by decide)), if_neg (key _ (by decide)), if_neg (key _ (by decide)), if_neg (key _ (by decide)), if_neg (key _ (by decide)), if_neg (key _ (by decide)), if_neg (key _ (by decide)), if_neg (key _ (by decide)), if_neg (key _ (by decide))]
theorem tr_gt {c : Int32} (h : ¬ c < -8) : ¬ trC c ≤ -20 := by
  rw [tr_val h]
  intro q
  apply h
  rw [Int32.le_iff_toInt_le] at q
  rw [Int32.lt_iff_toInt_lt]
  have e1 : (-20 : Int32).toInt = -20 := by decide
  have e2 : (-8 : Int32).toInt = -8 := by decide
  omega
theorem s_reckon {c l r : Int32} {st : St} {post : Int32 → St → Prop} (h1 : (-17 : Int32) ≤ c) (h2 : c < -8) (h3 : c ≠ -11) (h : post (jn c l r) st) : P_X12_reckon (trC c) l r st post := by
  unfold P_X12_reckon P_X12_reckon_67 P_X12_reckon_78 P_X12_reckon_89 P_X12_reckon_102 P_X12_reckon_103 P_X12_reckon_112 P_X12_reckon_117
  rcases code_ops h1 h2 with rfl | rfl | rfl | rfl | rfl | rfl | rfl | rfl | rfl
  · have e : jn (-9) l r = if l = 0 ∧ r = 0 then 0 else 1 := rfl
    rw [e] at h
    refine ⟨fun _ => ⟨fun q => ?_, fun q => ⟨fun q2 => ?_, fun q2 => ?_⟩⟩, fun q => absurd q (by decide), fun q => absurd q (by decide), fun q => absurd q (by decide), fun q => absurd q (by decide), fun q => absurd q (by decide), fun q => absurd q (by decide), fun q => absurd q (by decide), trivial⟩
    · rw [if_neg (fun z => q z.1)] at h; exact h
    · rw [if_pos ⟨q, q2⟩] at h; exact h
    · rw [if_neg (fun z => q2 z.2)] at h; exact h
  · have e : jn (-10) l r = if l = 0 ∨ r = 0 then 0 else 1 := rfl
    rw [e] at h
    refine ⟨fun q => absurd q (by decide), fun _ => ⟨fun q => ?_, fun q => ⟨fun q2 => ?_, fun q2 => ?_⟩⟩, fun q => absurd q (by decide), fun q => absurd q (by decide), fun q => absurd q (by decide), fun q => absurd q (by decide), fun q => absurd q (by decide), fun q => absurd q (by decide), trivial⟩
    · rw [if_pos (Or.inl q)] at h; exact h
    · rw [if_pos (Or.inr q2)] at h; exact h
    · rw [if_neg (fun z => z.elim q q2)] at h; exact h
  · exact absurd rfl h3
  · have e : jn (-12) l r = if r ≤ l then 0 else 1 := rfl
    rw [e] at h
    refine ⟨fun q => absurd q (by decide), fun q => absurd q (by decide), fun q => absurd q (by decide), fun _ => ⟨fun q => ?_, fun q => ?_⟩, fun q => absurd q (by decide), fun q => absurd q (by decide), fun q => absurd q (by decide), fun q => absurd q (by decide), trivial⟩
    · rw [if_pos q] at h; exact h
    · rw [if_neg q] at h; exact h
  · have e : jn (-13) l r = if l = r then 1 else 0 := rfl
    rw [e] at h
    refine ⟨fun q => absurd q (by decide), fun q => absurd q (by decide), fun _ => ⟨fun q => ?_, fun q => ?_⟩, fun q => absurd q (by decide), fun q => absurd q (by decide), fun q => absurd q (by decide), fun q => absurd q (by decide), fun q => absurd q (by decide), trivial⟩
    · rw [if_neg q] at h; exact h
    · rw [if_pos q] at h; exact h
  · exact ⟨fun q => absurd q (by decide), fun q => absurd q (by decide), fun q => absurd q (by decide), fun q => absurd q (by decide), fun q => absurd q (by decide), fun q => absurd q (by decide), fun q => absurd q (by decide), fun _ => h, trivial⟩
  · exact ⟨fun q => absurd q (by decide), fun q => absurd q (by decide), fun q => absurd q (by decide), fun q => absurd q (by decide), fun q => absurd q (by decide), fun q => absurd q (by decide), fun _ => h, fun q => absurd q (by decide), trivial⟩
  · exact ⟨fun q => absurd q (by decide), fun q => absurd q (by decide), fun q => absurd q (by decide), fun q => absurd q (by decide), fun q => absurd q (by decide), fun _ => h, fun q => absurd q (by decide), fun q => absurd q (by decide), trivial⟩
  · have e : jn (-17) l r = if r = 0 then 0 else l / r := rfl
    rw [e] at h
    refine ⟨fun q => absurd q (by decide), fun q => absurd q (by decide), fun q => absurd q (by decide), fun q => absurd q (by decide), fun _ => ⟨fun q => ⟨q, ?_⟩, fun q => ?_⟩, fun q => absurd q (by decide), fun q => absurd q (by decide), fun q => absurd q (by decide), trivial⟩
    · rw [if_neg q] at h; exact h
    · rw [if_pos q] at h; exact h
def S83 (a : Nat) : Prop := a = 83
theorem m_stk (st : St) : rv st 58 12 41 = some 83 := rfl
theorem m_ask0 (st : St) : rv st 58 12 40 = some 82 := rfl
theorem al83 : al 0 83 = 64 := rfl
theorem al82 : al 0 82 = 8 := rfl
set_option maxHeartbeats 1000000 in
theorem s_valueNow {a len : Nat} {row : Nat → Int32} {st : St} {post : Int32 → St → Prop} (ha : al 0 a = 1400) (ha2 : a ≠ 83) (hwf : wfR len row) (hrow0 : ∀ i, i < len → gA st a i = trC (row i))
    (h : ∀ st2, Ex S83 st st2 → post (work row len (gA st 82)) st2) : P_X12_valueNow 58 a (iN len) st post := by
  obtain ⟨hl7, hd1, hok⟩ := hwf
  refine ⟨len + 1, loop_up (P := fun n i x st => P_X12_valueNow_5 58 a (iN len) post n x i st) (N := len) (fun i x st' => Ex S83 st st' ∧ x = iN (dep row i) ∧ ∀ j, j < dep row i → gA st' 83 j = (wrk row (gA st 82) i).2 j) ?_ ?_ len 0 0 st (by omega) ⟨Ex.rf, rfl, fun j hj => by cases hj⟩⟩
  · rintro i hi x st' n ⟨hE, rfl, hstk⟩ ih
    have hok1 := hok i hi
    have hdl := dep_le _ hok i (by omega)
    have hrow : gA st' a i = trC (row i) := by rw [hE.eA ha2]; exact hrow0 i hi
    have hval : gA st' 82 = gA st 82 := hE.eA (show ¬ (82 : Nat) = 83 by decide)
    generalize hv : gA st 82 = vals at *
    have hwd := wrk_dep row vals i
    have hds : dep row (i + 1) = dst (row i) (dep row i) := rfl
    have hws : wrk row vals (i + 1) = wst vals (row i) (wrk row vals i) := rfl
    show P_X12_valueNow_5 58 a (iN len) post (n + 1) (iN (dep row i)) (iN i) st'
    unfold P_X12_valueNow_5
    refine ⟨fun hc => ?_, fun _ => ⟨by rw [ha]; exact iN_vp (by omega) (by decide), ?_⟩⟩
    · rw [iN_le (by omega) (by omega)] at hc
      omega
    rw [iN_cl (by omega), hrow]
    refine ⟨fun hc => ?_, fun hc => ?_⟩
    · have hcl : row i < -8 := by
        by_cases q : row i < -8
        · exact q
        · exact absurd hc (tr_gt q)
      refine ⟨fun hn => ⟨_, m_stk _, _, m_stk _, ?_, _, m_stk _, ?_, ?_⟩, fun hn => ⟨_, m_stk _, _, m_stk _, ?_, fun h0 => ?_, fun h0 => ?_⟩⟩
      · have hn1 : row i ≠ -11 := fun e => hn (by rw [e]; rfl)
        have h2 := hok1.2.2.2 hcl hn1
        rw [iN_p1 (by omega), iN_m1 (by omega), al83]; exact iN_vp (by omega) (by decide)
      · have hn1 : row i ≠ -11 := fun e => hn (by rw [e]; rfl)
        have h2 := hok1.2.2.2 hcl hn1
        rw [iN_p1 (by omega), al83]; exact iN_vp (by omega) (by decide)
      · have hn1 : row i ≠ -11 := fun e => hn (by rw [e]; rfl)
        have h2 := hok1.2.2.2 hcl hn1
        have hd2 : dep row (i + 1) = dep row i - 1 := by rw [hds]; unfold dst; rw [if_pos hcl, if_neg hn1]
        refine s_reckon hok1.1 hcl hn1 ⟨by rw [iN_p1 (by omega), iN_m1 (by omega), al83]; exact iN_vp (by omega) (by decide), ?_⟩
        show P_X12_valueNow_5 58 a (iN len) post n (iN (dep row i) + (-1)) (iN i + 1) _
        rw [iN_s, iN_p1 (by omega), iN_m1 (by omega), iN_cl (by omega), iN_cl (by omega)]
        refine ih _ _ ⟨hE.tr (Ex.sa (S := S83) rfl _ _), by rw [hd2], fun j hj => ?_⟩
        rw [hd2] at hj
        rw [gA_sA, hws]
        unfold wst
        rw [if_pos hcl, if_neg hn1]
        show upd _ _ _ j = upd _ _ _ j
        rw [hwd, show dep row i - 1 - 1 = dep row i - 2 by omega]
        by_cases hj2 : j = dep row i - 2
        · subst hj2
          rw [upd_same, upd_same, hstk _ (by omega), hstk _ (by omega)]
        · rw [upd_ne hj2, upd_ne hj2]
          exact hstk j (by omega)
      · have hn1 : row i = -11 := by
          rcases code_ops hok1.1 hcl with e | e | e | e | e | e | e | e | e <;> first | exact e | (rw [e] at hn; exact absurd hn (by decide))
        have h2 := hok1.2.2.1 hn1
        rw [iN_m1 (by omega), al83]; exact iN_vp (by omega) (by decide)
      · have hn1 : row i = -11 := by
          rcases code_ops hok1.1 hcl with e | e | e | e | e | e | e | e | e <;> first | exact e | (rw [e] at hn; exact absurd hn (by decide))
        have h2 := hok1.2.2.1 hn1
        have hd2 : dep row (i + 1) = dep row i := by rw [hds]; unfold dst; rw [if_pos hcl, if_pos hn1]
        refine ⟨by rw [iN_m1 (by omega), al83]; exact iN_vp (by omega) (by decide), ?_⟩
        show P_X12_valueNow_5 58 a (iN len) post n (iN (dep row i)) (iN i + 1) _
        rw [iN_s, iN_m1 (by omega), iN_cl (by omega)]
        rw [iN_m1 (by omega), iN_cl (by omega)] at h0
        refine ih _ _ ⟨hE.tr (Ex.sa (S := S83) rfl _ _), by rw [hd2], fun j hj => ?_⟩
        rw [hd2] at hj
        rw [gA_sA, hws]
        unfold wst
        rw [if_pos hcl, if_pos hn1]
        show upd _ _ _ j = upd _ _ _ j
        rw [hwd]
        by_cases hj2 : j = dep row i - 1
        · subst hj2
          rw [upd_same, upd_same, ← hstk _ (by omega), if_pos h0]
        · rw [upd_ne hj2, upd_ne hj2]
          exact hstk j hj
      · have hn1 : row i = -11 := by
          rcases code_ops hok1.1 hcl with e | e | e | e | e | e | e | e | e <;> first | exact e | (rw [e] at hn; exact absurd hn (by decide))
        have h2 := hok1.2.2.1 hn1
        have hd2 : dep row (i + 1) = dep row i := by rw [hds]; unfold dst; rw [if_pos hcl, if_pos hn1]
        refine ⟨by rw [iN_m1 (by omega), al83]; exact iN_vp (by omega) (by decide), ?_⟩
        show P_X12_valueNow_5 58 a (iN len) post n (iN (dep row i)) (iN i + 1) _
        rw [iN_s, iN_m1 (by omega), iN_cl (by omega)]
        rw [iN_m1 (by omega), iN_cl (by omega)] at h0
        refine ih _ _ ⟨hE.tr (Ex.sa (S := S83) rfl _ _), by rw [hd2], fun j hj => ?_⟩
        rw [hd2] at hj
        rw [gA_sA, hws]
        unfold wst
        rw [if_pos hcl, if_pos hn1]
        show upd _ _ _ j = upd _ _ _ j
        rw [hwd]
        by_cases hj2 : j = dep row i - 1
        · subst hj2
          rw [upd_same, upd_same, ← hstk _ (by omega), if_neg h0]
        · rw [upd_ne hj2, upd_ne hj2]
          exact hstk j hj
    · have hcl : ¬ row i < -8 := by
        intro q
        apply hc
        rcases code_ops hok1.1 q with e | e | e | e | e | e | e | e | e <;> rw [e] <;> decide
      have h2 := hok1.2.1 hcl
      have hd2 : dep row (i + 1) = dep row i + 1 := by rw [hds]; unfold dst; rw [if_neg hcl]
      rw [tr_val hcl]
      refine ⟨_, m_stk _, fun hneg => ⟨_, m_ask0 _, ?_, ?_, ?_⟩, fun hneg => ⟨?_, ?_⟩⟩
      · rw [al82]; exact val_in hcl hneg
      · rw [al83]; exact iN_vp (by omega) (by decide)
      · show P_X12_valueNow_5 58 a (iN len) post n (iN (dep row i) + 1) (iN i + 1) _
        rw [iN_s, iN_s, iN_cl (by omega), hval]
        refine ih _ _ ⟨hE.tr (Ex.sa (S := S83) rfl _ _), by rw [hd2], fun j hj => ?_⟩
        rw [hd2] at hj
        rw [gA_sA, hws]
        unfold wst
        rw [if_neg hcl, if_pos hneg]
        show upd _ _ _ j = upd _ _ _ j
        rw [hwd]
        by_cases hj2 : j = dep row i
        · subst hj2
          rw [upd_same, upd_same]
        · rw [upd_ne hj2, upd_ne hj2]
          exact hstk j (by omega)
      · rw [al83]; exact iN_vp (by omega) (by decide)
      · show P_X12_valueNow_5 58 a (iN len) post n (iN (dep row i) + 1) (iN i + 1) _
        rw [iN_s, iN_s, iN_cl (by omega)]
        refine ih _ _ ⟨hE.tr (Ex.sa (S := S83) rfl _ _), by rw [hd2], fun j hj => ?_⟩
        rw [hd2] at hj
        rw [gA_sA, hws]
        unfold wst
        rw [if_neg hcl, if_neg hneg]
        show upd _ _ _ j = upd _ _ _ j
        rw [hwd]
        by_cases hj2 : j = dep row i
        · subst hj2
          rw [upd_same, upd_same]
        · rw [upd_ne hj2, upd_ne hj2]
          exact hstk j (by omega)
  · rintro x st' n ⟨hE, rfl, hstk⟩
    show P_X12_valueNow_5 58 a (iN len) post (n + 1) _ (iN len) st'
    unfold P_X12_valueNow_5
    refine ⟨fun _ => ⟨_, m_stk _, by rw [al83]; exact iN_vp (j := 0) (by decide) (by decide), ?_⟩, fun hc => ?_⟩
    · have e : gA st' 83 (0 : Int32).toNatClampNeg = work row len (gA st 82) := hstk 0 (by omega)
      rw [e]
      exact h st' hE
    · exact absurd (Int32.le_refl _) hc
