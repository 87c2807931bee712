/-! PURE: a rule worked out -/
def jn (o l r : Int32) : Int32 :=
  if o = -9 then (if l = 0 ∧ r = 0 then 0 else 1) else if o = -10 then (if l = 0 ∨ r = 0 then 0 else 1) else if o = -12 then (if r ≤ l then 0 else 1) else if o = -13 then (if l = r then 1 else 0) else if o = -14 then l + r else if o = -15 then l - r else if o = -16 then l * r else if r = 0 then 0 else l / r
theorem ti {x : Int32} (y : Int32) (h : x.toInt = y.toInt) : x = y := Int32.toInt_inj.mp h
theorem s_joined {o l r : Int32} {st : St} {post : Int32 → St → Prop} (h : post (jn o l r) st) : P_X5_joined o l r st post := by
  unfold P_X5_joined P_X5_joined_121 P_X5_joined_97 P_X5_joined_86 P_X5_joined_74 P_X5_joined_75 P_X5_joined_56 P_X5_joined_61
  have key : ∀ v : Int32, jn o l r = v → post v st := fun v e => e ▸ h
  have hov : o ≠ -9 → o ≠ -10 → o ≠ -12 → o ≠ -13 → o ≠ -14 → o ≠ -15 → o ≠ -16 → jn o l r = (if r = 0 then 0 else l / r) := by
    intro h1 h2 h3 h4 h5 h6 h7
    simp only [jn, h1, h2, h3, h4, h5, h6, h7, if_false]
  have ne : ∀ y : Int32, (o.toInt < -16 ∨ -9 < o.toInt) → (-16 ≤ y.toInt ∧ y.toInt ≤ -9) → o ≠ y := by
    intro y h1 h2 e
    subst e
    omega
  refine ⟨fun hc => ⟨fun hr => ⟨hr, key _ ?_⟩, fun hr => key _ ?_⟩, fun hc => key _ ?_, fun hc => key _ ?_, fun hc => key _ ?_, fun hc => ⟨fun hr => key _ ?_, fun hr => key _ ?_⟩, fun hc => ⟨fun hr => key _ ?_, fun hr => key _ ?_⟩, fun hc => ⟨fun hr => ⟨hr, key _ ?_⟩, fun hr => key _ ?_⟩, fun hc => ⟨fun hr => key _ ?_, fun hr => ⟨fun hr2 => key _ ?_, fun hr2 => key _ ?_⟩⟩, fun hc => ⟨fun hr => key _ ?_, fun hr => ⟨fun hr2 => key _ ?_, fun hr2 => key _ ?_⟩⟩, trivial⟩
  · rw [hov (ne _ hc (by decide)) (ne _ hc (by decide)) (ne _ hc (by decide)) (ne _ hc (by decide)) (ne _ hc (by decide)) (ne _ hc (by decide)) (ne _ hc (by decide)), if_neg hr]
  · rw [hov (ne _ hc (by decide)) (ne _ hc (by decide)) (ne _ hc (by decide)) (ne _ hc (by decide)) (ne _ hc (by decide)) (ne _ hc (by decide)) (ne _ hc (by decide)), if_pos hr]
  · rw [ti (-16) hc]; rfl
  · rw [ti (-15) hc]; rfl
  · rw [ti (-14) hc]; rfl
  · rw [ti (-13) hc]; show (if l = r then _ else _) = _; rw [if_neg hr]
  · rw [ti (-13) hc]; show (if l = r then _ else _) = _; rw [if_pos hr]
  · rw [ti (-12) hc]; show (if r ≤ l then _ else _) = _; rw [if_pos hr]
  · rw [ti (-12) hc]; show (if r ≤ l then _ else _) = _; rw [if_neg hr]
  · rw [ti (-11) hc]; show (if r = 0 then _ else _) = _; rw [if_neg hr]
  · rw [ti (-11) hc]; show (if r = 0 then _ else _) = _; rw [if_pos hr]
  · rw [ti (-10) hc]; show (if l = 0 ∨ r = 0 then _ else _) = _; rw [if_pos (Or.inl hr)]
  · rw [ti (-10) hc]; show (if l = 0 ∨ r = 0 then _ else _) = _; rw [if_pos (Or.inr hr2)]
  · rw [ti (-10) hc]; show (if l = 0 ∨ r = 0 then _ else _) = _; rw [if_neg (fun h => h.elim hr hr2)]
  · rw [ti (-9) hc]; show (if l = 0 ∧ r = 0 then _ else _) = _; rw [if_neg (fun h => hr h.1)]
  · rw [ti (-9) hc]; show (if l = 0 ∧ r = 0 then _ else _) = _; rw [if_pos ⟨hr, hr2⟩]
  · rw [ti (-9) hc]; show (if l = 0 ∧ r = 0 then _ else _) = _; rw [if_neg (fun h => hr2 h.2)]
/-- how many operands stand after so many codes -/
def dst (code : Int32) (d : Nat) : Nat := if code < -8 then (if code = -11 then d else d - 1) else d + 1
def dep (row : Nat → Int32) (i : Nat) : Nat := lp (fun j d => dst (row j) d) 0 i
def okc (code : Int32) (d : Nat) : Prop := (-17 : Int32) ≤ code ∧ (¬ code < -8 → d < 40) ∧ (code = -11 → 1 ≤ d) ∧ (code < -8 → code ≠ -11 → 2 ≤ d)
def wfR (len : Nat) (row : Nat → Int32) : Prop := len ≤ 700 ∧ 1 ≤ dep row len ∧ ∀ i, i < len → okc (row i) (dep row i)
def wst (vals : Nat → Int32) (code : Int32) (q : Nat × (Nat → Int32)) : Nat × (Nat → Int32) :=
  if code < -8 then (if code = -11 then (q.1, upd q.2 (q.1 - 1) (if q.2 (q.1 - 1) = 0 then 1 else 0)) else (q.1 - 1, upd q.2 (q.1 - 2) (jn code (q.2 (q.1 - 2)) (q.2 (q.1 - 1)))))
  else (q.1 + 1, upd q.2 q.1 (if code < 0 then vals (-1 - code).toNatClampNeg else code))
def wrk (row vals : Nat → Int32) (i : Nat) : Nat × (Nat → Int32) := lp (fun j q => wst vals (row j) q) (0, fun _ => 0) i
def work (row : Nat → Int32) (len : Nat) (vals : Nat → Int32) : Int32 := (wrk row vals len).2 0
theorem wrk_dep (row vals : Nat → Int32) : ∀ i, (wrk row vals i).1 = dep row i := by
  intro i
  induction i with
  | zero => rfl
  | succ i ih =>
    show (wst vals (row i) (wrk row vals i)).1 = dst (row i) (dep row i)
    unfold wst dst
    rw [← ih]
    split
    · split <;> rfl
    · rfl
theorem dep_le (row : Nat → Int32) {len : Nat} (h : ∀ i, i < len → okc (row i) (dep row i)) : ∀ i, i ≤ len → dep row i ≤ 40 := by
  intro i
  induction i with
  | zero => intro _; show 0 ≤ 40; omega
  | succ i ih =>
    intro hi
    have h1 := ih (by omega)
    have h2 := h i (by omega)
    show dst (row i) (dep row i) ≤ 40
    unfold dst
    split
    · split <;> omega
    · rename_i hc; have := h2.2.1 hc; omega
theorem iN_m1 {n : Nat} (h : 1 ≤ n) : iN n - 1 = iN (n - 1) := by
  obtain ⟨m, rfl⟩ : ∃ m, n = m + 1 := ⟨n - 1, by omega⟩
  rw [← iN_s, Nat.add_sub_cancel]
  exact Int32.add_sub_cancel _ _
theorem iN_p1 {n : Nat} (h : 1 ≤ n) : iN n + (-1) = iN (n - 1) := by rw [← iN_m1 h]; exact Int32.add_neg_eq_sub
theorem val_in {c : Int32} (h1 : ¬ c < -8) (h2 : c < 0) : vp_in (-1 - c) 8 := by
  have hlo : -8 ≤ c.toInt := by
    have := Int32.not_lt.mp h1
    rw [Int32.le_iff_toInt_le] at this
    exact this
  have hhi : c.toInt < 0 := by
    rw [Int32.lt_iff_toInt_lt] at h2
    exact h2
  have e : (-1 - c).toInt = -1 - c.toInt := by
    rw [Int32.toInt_sub, show (-1 : Int32).toInt = -1 by decide, Int.bmod_def]
    omega
  unfold vp_in
  rintro (h | h)
  · rw [Int32.lt_iff_toInt_lt, e, show (0 : Int32).toInt = 0 by decide] at h
    omega
  · have : (-1 - c).toNatClampNeg = (-1 - c).toInt.toNat := rfl
    rw [this, e] at h
    omega
set_option maxHeartbeats 1000000 in
theorem s_workOut {r va len : Nat} {st : St} {post : Int32 → St → Prop} (hr : isRu r) (hlen : gI st r 2 = iN len) (hwf : wfR len (gA st (ch r 1))) (hva : al 0 va = 8)
    (h : ∀ st2, Ex (fun a => al 0 a = 40) st st2 → post (work (gA st (ch r 1)) len (gA st va)) st2) : P_X5_workOut r va st post := by
  obtain ⟨hl7, hd1, hok⟩ := hwf
  have hvs : ¬ al 0 va = 40 := by rw [hva]; decide
  have hrs : ¬ al 0 (ch r 1) = 40 := by rw [ru_aw hr]; decide
  refine ⟨len + 1, loop_up (P := fun n i a st => P_X5_workOut_4 r va post n a i st) (N := len) (fun i a st' => Ex (fun a => al 0 a = 40) st st' ∧ a = iN (dep (gA st (ch r 1)) i) ∧ ∀ j, j < dep (gA st (ch r 1)) i → gA st' (ch r 3) j = (wrk (gA st (ch r 1)) (gA st va) i).2 j) ?_ ?_ len 0 0 st (by omega) ⟨Ex.rf, rfl, fun j hj => by cases hj⟩⟩
  · rintro i hi a st' n ⟨hE, rfl, hstk⟩ ih
    have hok1 := hok i hi
    have hdl := dep_le _ hok i (by omega)
    have hrow : gA st' (ch r 1) = gA st (ch r 1) := hE.eA hrs
    have hval : gA st' va = gA st va := hE.eA hvs
    generalize hg : gA st (ch r 1) = row at *
    generalize hv : gA st va = vals at *
    have hwd := wrk_dep row vals i
    have hds : dep row (i + 1) = dst (row i) (dep row i) := rfl
    have hws : wrk row vals (i + 1) = wst vals (row i) (wrk row vals i) := rfl
    show P_X5_workOut_4 r va post (n + 1) (iN (dep row i)) (iN i) st'
    unfold P_X5_workOut_4
    refine ⟨ru_2 hr, fun hc => ?_, fun _ => ⟨ch r 1, ru_w hr _, by rw [ru_aw hr]; exact iN_vp (by omega) (by decide), ?_⟩⟩
    · rw [hE.eI, hlen, iN_le (by omega) (by omega)] at hc
      omega
    rw [hrow, iN_cl (by omega)]
    refine ⟨fun hc => ⟨fun hn => ⟨fun hlt => ?_, fun hlt => ⟨_, ru_s hr _, _, ru_s hr _, ?_, _, ru_s hr _, ?_, s_joined ⟨?_, ?_⟩⟩⟩, fun hn => ⟨fun hlt => ?_, fun hlt => ⟨_, ru_s hr _, _, ru_s hr _, ?_, fun h0 => ?_, fun h0 => ?_⟩⟩⟩, fun hc => ⟨fun h40 => ?_, fun h40 => ⟨_, ru_s hr _, fun hneg => ⟨?_, ?_⟩, fun hneg => ?_⟩⟩⟩
    · have h2 := hok1.2.2.2 hc hn
      have : iN (dep row i) < iN 2 := hlt
      rw [iN_lt (by omega) (by omega)] at this
      omega
    · have h2 := hok1.2.2.2 hc hn
      rw [iN_p1 (by omega), iN_m1 (by omega), ru_as hr]; exact iN_vp (by omega) (by decide)
    · have h2 := hok1.2.2.2 hc hn
      rw [iN_p1 (by omega), ru_as hr]; exact iN_vp (by omega) (by decide)
    · have h2 := hok1.2.2.2 hc hn
      rw [iN_p1 (by omega), iN_m1 (by omega), ru_as hr]; exact iN_vp (by omega) (by decide)
    · have h2 := hok1.2.2.2 hc hn
      have hd2 : dep row (i + 1) = dep row i - 1 := by rw [hds]; unfold dst; rw [if_pos hc, if_neg hn]
      show P_X5_workOut_4 r va post n (iN (dep row i) + (-1)) (iN i + 1) _
      rw [iN_s, iN_p1 (by omega), iN_m1 (by omega), iN_cl (by omega), iN_cl (by omega)]
      refine ih _ _ ⟨hE.tr (Ex.sa (S := fun a => al 0 a = 40) (ru_as hr) _ _), by rw [hd2], fun j hj => ?_⟩
      rw [hd2] at hj
      rw [gA_sA, hws]
      unfold wst
      rw [if_pos hc, if_neg hn]
      show upd _ _ _ j = upd _ _ _ j
      rw [hwd, show dep row i - 1 - 1 = dep row i - 2 by omega]
      by_cases hj2 : j = dep row i - 2
      · subst hj2
        rw [upd_same, upd_same, hstk _ (by omega), hstk _ (by omega)]
      · rw [upd_ne hj2, upd_ne hj2]
        exact hstk j (by omega)
    · have h2 := hok1.2.2.1 hn
      have : iN (dep row i) < iN 1 := hlt
      rw [iN_lt (by omega) (by omega)] at this
      omega
    · have h2 := hok1.2.2.1 hn
      rw [iN_m1 (by omega), ru_as hr]; exact iN_vp (by omega) (by decide)
    · have h2 := hok1.2.2.1 hn
      have hd2 : dep row (i + 1) = dep row i := by rw [hds]; unfold dst; rw [if_pos hc, if_pos hn]
      refine ⟨by rw [iN_m1 (by omega), ru_as hr]; exact iN_vp (by omega) (by decide), ?_⟩
      show P_X5_workOut_4 r va post n (iN (dep row i)) (iN i + 1) _
      rw [iN_s, iN_m1 (by omega), iN_cl (by omega)]
      rw [iN_m1 (by omega), iN_cl (by omega)] at h0
      refine ih _ _ ⟨hE.tr (Ex.sa (S := fun a => al 0 a = 40) (ru_as hr) _ _), by rw [hd2], fun j hj => ?_⟩
      rw [hd2] at hj
      rw [gA_sA, hws]
      unfold wst
      rw [if_pos hc, if_pos hn]
      show upd _ _ _ j = upd _ _ _ j
      rw [hwd]
      by_cases hj2 : j = dep row i - 1
      · subst hj2
        rw [upd_same, upd_same, ← hstk _ (by omega), if_neg h0]
      · rw [upd_ne hj2, upd_ne hj2]
        exact hstk j hj
    · have h2 := hok1.2.2.1 hn
      have hd2 : dep row (i + 1) = dep row i := by rw [hds]; unfold dst; rw [if_pos hc, if_pos hn]
      refine ⟨by rw [iN_m1 (by omega), ru_as hr]; exact iN_vp (by omega) (by decide), ?_⟩
      show P_X5_workOut_4 r va post n (iN (dep row i)) (iN i + 1) _
      rw [iN_s, iN_m1 (by omega), iN_cl (by omega)]
      rw [iN_m1 (by omega), iN_cl (by omega)] at h0
      refine ih _ _ ⟨hE.tr (Ex.sa (S := fun a => al 0 a = 40) (ru_as hr) _ _), by rw [hd2], fun j hj => ?_⟩
      rw [hd2] at hj
      rw [gA_sA, hws]
      unfold wst
      rw [if_pos hc, if_pos hn]
      show upd _ _ _ j = upd _ _ _ j
      rw [hwd]
      by_cases hj2 : j = dep row i - 1
      · subst hj2
        rw [upd_same, upd_same, ← hstk _ (by omega), if_pos h0]
      · rw [upd_ne hj2, upd_ne hj2]
        exact hstk j hj
    · have h2 := hok1.2.1 hc
      have : iN 40 ≤ iN (dep row i) := h40
      rw [iN_le (by omega) (by omega)] at this
      omega
    · rw [hva]; exact val_in hc hneg
    · have h2 := hok1.2.1 hc
      have hd2 : dep row (i + 1) = dep row i + 1 := by rw [hds]; unfold dst; rw [if_neg hc]
      refine ⟨by rw [ru_as hr]; exact iN_vp (by omega) (by decide), ?_⟩
      show P_X5_workOut_4 r va post n (iN (dep row i) + 1) (iN i + 1) _
      rw [iN_s, iN_s, iN_cl (by omega), hval]
      refine ih _ _ ⟨hE.tr (Ex.sa (S := fun a => al 0 a = 40) (ru_as hr) _ _), by rw [hd2], fun j hj => ?_⟩
      rw [hd2] at hj
      rw [gA_sA, hws]
      unfold wst
      rw [if_neg hc, if_pos hneg]
      show upd _ _ _ j = upd _ _ _ j
      rw [hwd]
      by_cases hj2 : j = dep row i
      · subst hj2
        rw [upd_same, upd_same]
      · rw [upd_ne hj2, upd_ne hj2]
        exact hstk j (by omega)
    · have h2 := hok1.2.1 hc
      have hd2 : dep row (i + 1) = dep row i + 1 := by rw [hds]; unfold dst; rw [if_neg hc]
      refine ⟨by rw [ru_as hr]; exact iN_vp (by omega) (by decide), ?_⟩
      show P_X5_workOut_4 r va post n (iN (dep row i) + 1) (iN i + 1) _
      rw [iN_s, iN_s, iN_cl (by omega)]
      refine ih _ _ ⟨hE.tr (Ex.sa (S := fun a => al 0 a = 40) (ru_as hr) _ _), by rw [hd2], fun j hj => ?_⟩
      rw [hd2] at hj
      rw [gA_sA, hws]
      unfold wst
      rw [if_neg hc, if_neg hneg]
      show upd _ _ _ j = upd _ _ _ j
      rw [hwd]
      by_cases hj2 : j = dep row i
      · subst hj2
        rw [upd_same, upd_same]
      · rw [upd_ne hj2, upd_ne hj2]
        exact hstk j (by omega)
  · rintro a st' n ⟨hE, rfl, hstk⟩
    show P_X5_workOut_4 r va post (n + 1) _ (iN len) st'
    unfold P_X5_workOut_4
    refine ⟨ru_2 hr, fun _ => ⟨_, ru_s hr _, by rw [ru_as hr]; exact iN_vp (j := 0) (by decide) (by decide), ?_⟩, fun hc => ?_⟩
    · have e : gA st' (ch r 3) (0 : Int32).toNatClampNeg = work (gA st (ch r 1)) len (gA st va) := hstk 0 (by omega)
      rw [e]
      exact h st' hE
    · exfalso
      apply hc
      rw [hE.eI, hlen]
      exact Int32.le_refl _
