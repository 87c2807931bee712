/-! PURE: days, undo -/
/-- cells that weddings and grief leave alone -/
def unt (j : Nat) : Prop := (∃ b, b < 6 ∧ j = 38 + 3 * b) ∨ 110 ≤ j ∨ j = 0
theorem give_unt {q : PD} (hq : PDok q) {s : CW} {b : Nat} (hb : b < 6) {who : Int32} (hw : who = -1 ∨ ∃ p, p < q.1 ∧ who = iN p) {j : Nat} (hj : unt j) : (giveF q s b who).1 j = s.1 j := by
  have q1 := hq.1
  have e1 : upd s.1 (38 + 3 * b + 1) 0 j = s.1 j := upd_ne (by unfold unt at hj; omega)
  show giveC (upd s.1 (38 + 3 * b + 1) 0) b who _ j = _
  unfold giveC
  split
  · rename_i hpos
    rcases hw with rfl | ⟨p, hp, rfl⟩
    · exfalso
      unfold wgF at hpos
      rw [if_pos rfl] at hpos
      exact absurd hpos (by decide)
    rw [iN_cl (by omega), upd_ne (by unfold unt at hj; omega), upd_ne (by unfold unt at hj; omega), upd_ne (by unfold unt at hj; omega), e1]
  · rw [upd_ne (by unfold unt at hj; omega), e1]
theorem weds_unt {q : PD} (hq : PDok q) {s : CW} {j : Nat} (hj : unt j) : ∀ n, n ≤ 6 → (weds q s n).1 j = s.1 j := by
  intro n
  induction n with
  | zero => intro _; rfl
  | succ n ih =>
    intro hn
    have hs : weds q s (n + 1) = wedF q n (weds q s n) := rfl
    rw [hs]
    unfold wedF
    split
    · rw [give_unt hq (by omega) ?_ hj]
      · exact ih (by omega)
      · rcases heav_cases q (weds q s n).1 n with e | ⟨p, hp, e, _⟩
        · exact Or.inl e
        · exact Or.inr ⟨p, hp, e⟩
    · exact ih (by omega)
theorem mors_unt {q : PD} {c : Nat → Int32} {j : Nat} (hj : unt j) : ∀ n, n ≤ 9 → mors q c n j = c j := by
  intro n
  induction n with
  | zero => intro _; rfl
  | succ n ih =>
    intro hn
    have hs : mors q c (n + 1) = morF q n (mors q c n) := rfl
    rw [hs]
    unfold morF
    rw [upd_ne (by unfold unt at hj; omega), upd_ne (by unfold unt at hj; omega)]
    exact ih (by omega)
theorem pass_unt {q : PD} (hq : PDok q) {s : CW} {j : Nat} (hj : unt j) (h0 : j ≠ 0) : (passF q s).1 j = s.1 j := by
  show upd _ 0 _ j = _
  rw [upd_ne h0, mors_unt hj _ hq.1, weds_unt hq hj _ hq.2.1]
theorem pass_day {q : PD} (hq : PDok q) {s : CW} : (passF q s).1 0 = s.1 0 + 1 := by
  show upd (mors q (weds q s q.2.1).1 q.1) 0 (mors q (weds q s q.2.1).1 q.1 0 + 1) 0 = _
  rw [upd_same, mors_unt (Or.inr (Or.inr rfl)) _ hq.1, weds_unt hq (Or.inr (Or.inr rfl)) _ hq.2.1]
theorem it_s (q : PD) (s : CW) (n : Nat) : itP q s (n + 1) = passF q (itP q s n) := rfl
theorem it_unt {q : PD} (hq : PDok q) {s : CW} {j : Nat} (hj : unt j) (h0 : j ≠ 0) : ∀ n, (itP q s n).1 j = s.1 j := by
  intro n
  induction n with
  | zero => rfl
  | succ n ih => rw [it_s, pass_unt hq hj h0]; exact ih
theorem it_day {q : PD} (hq : PDok q) {s : CW} {d : Nat} (hd : s.1 0 = iN d) : ∀ n, (itP q s n).1 0 = iN (d + n) := by
  intro n
  induction n with
  | zero => exact hd
  | succ n ih => rw [it_s, pass_day hq, ih, iN_s]; rfl
theorem giveC_h0 {c : Nat → Int32} {b b0 : Nat} {who w : Int32} (hw : who.toNatClampNeg < 9) (hb : b < 6) (hb0 : b0 < 6) (h : giveC (upd c (38 + 3 * b + 1) 0) b who w (38 + 3 * b0 + 1) = 1) : b0 ≠ b ∧ c (38 + 3 * b0 + 1) = 1 := by
  by_cases e : b0 = b
  · exfalso
    subst e
    unfold giveC at h
    split at h
    · rw [upd_ne (by omega), upd_ne (by omega), upd_ne (by omega), upd_same] at h; exact absurd h (by decide)
    · rw [upd_ne (by omega), upd_same] at h; exact absurd h (by decide)
  · refine ⟨e, ?_⟩
    unfold giveC at h
    split at h
    · rw [upd_ne (by omega), upd_ne (by omega), upd_ne (by omega), upd_ne (by omega)] at h; exact h
    · rw [upd_ne (by omega), upd_ne (by omega)] at h; exact h
theorem weds_home {q : PD} (hq : PDok q) {s : CW} : ∀ n, n ≤ q.2.1 → ∀ b0, b0 < q.2.1 → (weds q s n).1 (38 + 3 * b0 + 1) = 1 → s.1 (38 + 3 * b0 + 1) = 1 ∧ (b0 < n → s.1 (38 + 3 * b0) ≠ s.1 0) := by
  have q2 := hq.2.1
  intro n
  induction n with
  | zero => intro _ b0 _ h; exact ⟨h, fun z => absurd z (Nat.not_lt_zero _)⟩
  | succ n ih =>
    intro hn b0 hb0 h
    have hs : weds q s (n + 1) = wedF q n (weds q s n) := rfl
    rw [hs] at h
    have e1 : (weds q s n).1 (38 + 3 * n) = s.1 (38 + 3 * n) := weds_unt hq (Or.inl ⟨n, by omega, rfl⟩) n (by omega)
    have e0 : (weds q s n).1 0 = s.1 0 := weds_unt hq (Or.inr (Or.inr rfl)) n (by omega)
    have hw : (heavF q (weds q s n).1 n).toNatClampNeg < 9 := by
      rcases heav_who hq.1 (weds q s n).1 n with e | ⟨p, hp, e⟩
      · rw [e]; decide
      · rw [e, iN_cl (by omega)]; exact hp
    unfold wedF at h
    split at h
    · obtain ⟨k1, k2⟩ := giveC_h0 hw (by omega) (by omega) (show giveC (upd (weds q s n).1 (38 + 3 * n + 1) 0) n (heavF q (weds q s n).1 n) _ (38 + 3 * b0 + 1) = 1 from h)
      obtain ⟨i1, i2⟩ := ih (by omega) b0 hb0 k2
      exact ⟨i1, fun z => i2 (by omega)⟩
    · rename_i hc
      obtain ⟨i1, i2⟩ := ih (by omega) b0 hb0 h
      refine ⟨i1, fun z => ?_⟩
      by_cases e : b0 = n
      · subst e
        intro y
        exact hc ⟨h, by rw [e1, e0]; exact y⟩
      · exact i2 (by omega)
theorem mors_38 {q : PD} {c : Nat → Int32} {j : Nat} (hj : 38 ≤ j) : ∀ n, n ≤ 9 → mors q c n j = c j := by
  intro n
  induction n with
  | zero => intro _; rfl
  | succ n ih =>
    intro hn
    have hs : mors q c (n + 1) = morF q n (mors q c n) := rfl
    rw [hs]
    unfold morF
    rw [upd_ne (by omega), upd_ne (by omega)]
    exact ih (by omega)
/-- nobody who is at home has missed her day -/
def HW (q : PD) (c : Nat → Int32) : Prop := ∀ b, b < q.2.1 → c (38 + 3 * b + 1) = 1 → c 0 ≤ c (38 + 3 * b)
theorem HW_pass {q : PD} (hq : PDok q) {s : CW} {d : Nat} (hd : s.1 0 = iN d) (hd2 : d < 100000) (h : HW q s.1) : HW q (passF q s).1 := by
  intro b hb h1
  have q2 := hq.2.1
  have h1 : upd (mors q (weds q s q.2.1).1 q.1) 0 (mors q (weds q s q.2.1).1 q.1 0 + 1) (38 + 3 * b + 1) = 1 := h1
  rw [upd_ne (by omega), mors_38 (by omega) _ hq.1] at h1
  obtain ⟨i1, i2⟩ := weds_home hq q.2.1 (Nat.le_refl _) b hb h1
  have i3 := h b hb i1
  have i4 := i2 hb
  rw [pass_day hq, pass_unt hq (Or.inl ⟨b, by omega, rfl⟩) (by omega), hd]
  rw [hd] at i3 i4
  rw [iN_s, Int32.le_iff_toInt_le, iN_toInt (by omega)]
  rw [Int32.le_iff_toInt_le, iN_toInt (by omega)] at i3
  have i5 : (s.1 (38 + 3 * b)).toInt ≠ (d : Int) := fun z => i4 (Int32.toInt_inj.mp (by rw [iN_toInt (by omega)]; exact z))
  omega
theorem HW_it {q : PD} (hq : PDok q) {s : CW} {d : Nat} (hd : s.1 0 = iN d) (h : HW q s.1) : ∀ n, d + n < 100000 → HW q (itP q s n).1 := by
  intro n
  induction n with
  | zero => intro _; exact h
  | succ n ih =>
    intro hn
    rw [it_s]
    exact HW_pass hq (it_day hq hd n) (by omega) (ih (by omega))
theorem CB_it {q : PD} (hq : PDok q) {s : CW} (h : CB q s.1) {d : Nat} (hd : s.1 0 = iN d) {n : Nat} (hn : d + n ≤ 999) : CB q (itP q s n).1 := by
  obtain ⟨h1, h2, h3, h4, h5⟩ := h
  have q2 := hq.2.1
  refine ⟨CI_it hq h1 n, fun j hj => ?_, ⟨d + n, hn, it_day hq hd n⟩, fun b hb => ?_, HW_it hq hd h5 n (by omega)⟩
  · rw [it_unt hq (Or.inr (Or.inl hj)) (by omega)]; exact h2 j hj
  · rw [it_unt hq (Or.inl ⟨b, by omega, rfl⟩) (by omega)]; exact h4 b hb
theorem sd3_bk : ∀ x, SD 3 x → SBk x := by
  rintro x (rfl | rfl | h)
  · exact Or.inl (by decide)
  · exact Or.inl (by decide)
  · exact Or.inr (scv3_sc x h)
/-- the cells of the book come, the rest of it stays -/
theorem InvC.cells {S : Nat → Prop} {a b : St} (h : Ex S a b) (hS : ∀ x, S x → x = 4 ∨ ScC x) {v : AV} (H : InvC a v) {c : Nat → Int32} (hc : gA b 4 = c) : CFr a b ∧ InvC b (setc v c) := by
  obtain ⟨B1, ⟨f, f1, f2, f3, f4⟩, B3, B4, B5⟩ := H.B
  have nA : ∀ y, y ≠ 4 → ¬ ScC y → gA b y = gA a y := fun y q1 q2 => h.eA (fun z => (hS y z).elim q1 q2)
  have nS : ∀ k, k < 5 → ¬ ScC (10 + 0 + k) := by unfold ScC; decide
  refine H.book (I := noI) (S := S) (w := (c, v.2.1.2)) (Ex.fx h) (fun _ _ z => z.elim) (fun x z => (hS x z).elim (fun e => Or.inl (by rw [e]; decide)) Or.inr) ⟨hc, ⟨f, f1, by rw [h.eI]; exact f2, by rw [h.eI]; exact f3, fun k hk => by rw [nA _ (by decide) (by unfold ScC; decide)]; exact f4 k hk⟩, by rw [h.eI]; exact B3, fun i hi k hk => by rw [nA _ (by omega) (nS k hk)]; exact B4 i hi k hk, fun k hk => by rw [nA _ (by decide) (by unfold ScC; decide)]; exact B5 k hk⟩
theorem sd3_c : ∀ x, SD 3 x → x = 4 ∨ ScC x := by
  rintro x (rfl | rfl | h)
  · exact Or.inl rfl
  · exact Or.inr (by unfold ScC; decide)
  · exact Or.inr (scv3_sc x h)
theorem s_days41 {st : St} {v : AV} (H : InvC st v) (HO : AvOk v) {N : Nat} (hN : N < 1000) {post : Int32 → St → Prop} (h : ∀ w st1, CFr st st1 → InvC st1 (setc v (itP v.1 (v.2.1.1, w) N).1) → post ((itP v.1 (v.2.1.1, w) N).1 0) st1) : ∃ n8, P_X11_days_41 0 (iN N) post n8 0 st := by
  have hc := H.c
  refine ⟨N + 1, loop_up (α := Unit) (P := fun n i _ st => P_X11_days_41 0 (iN N) post n i st) (N := N) (fun i _ st' => Ex (SD 3) st st' ∧ gA st' 4 = (itP v.1 (v.2.1.1, gA st 6) i).1 ∧ gA st' 6 = (itP v.1 (v.2.1.1, gA st 6) i).2) ?_ ?_ N 0 () st (by omega) ⟨Ex.rf, hc, rfl⟩⟩
  · rintro i hi _ st' n ⟨hE, e1, e2⟩ ih
    obtain ⟨p, D⟩ := H.D
    have D2 := D.ex (npl_sd D.hd) hE
    show P_X11_days_41 0 (iN N) post (n + 1) (iN i) st'
    unfold P_X11_days_41
    refine ⟨fun hz => ?_, fun _ => ⟨3, rfl, da_o D.hd, s_passDay D2 HO.2.1 (fun st2 hE2 h1 h2 => ?_)⟩⟩
    · rw [iN_le (by omega) (by omega)] at hz; omega
    have h1 : gA st2 4 = (passF v.1 (gA st' 4, gA st' 6)).1 := h1
    have h2 : gA st2 6 = (passF v.1 (gA st' 4, gA st' 6)).2 := h2
    rw [e1, e2] at h1 h2
    rw [iN_s]
    exact ih () st2 ⟨hE.tr hE2, h1, h2⟩
  · rintro _ st' n ⟨hE, e1, e2⟩
    obtain ⟨p, D⟩ := H.D
    show P_X11_days_41 0 (iN N) post (n + 1) (iN N) st'
    unfold P_X11_days_41
    refine ⟨fun _ => ⟨3, rfl, da_o D.hd, s_today D.hd ?_⟩, fun hz => absurd (Int32.le_refl _) hz⟩
    obtain ⟨c1, c2⟩ := H.cells hE sd3_c e1
    rw [ch31, e1]
    exact h _ st' c1 c2
theorem itP_w1 {q : PD} {c w w2 : Nat → Int32} : ∀ n, (itP q (c, w) n).1 = (itP q (c, w2) n).1 := by
  have give1 : ∀ (s s2 : CW) (b : Nat) (who : Int32), s.1 = s2.1 → (giveF q s b who).1 = (giveF q s2 b who).1 := fun s s2 b who e => by unfold giveF; rw [e]
  have wed1 : ∀ (s s2 : CW) (b : Nat), s.1 = s2.1 → (wedF q b s).1 = (wedF q b s2).1 := by
    intro s s2 b e
    unfold wedF
    rw [e]
    split
    · exact give1 s s2 b _ e
    · exact e
  have weds1 : ∀ (s s2 : CW) (n : Nat), s.1 = s2.1 → (weds q s n).1 = (weds q s2 n).1 := by
    intro s s2 n e
    induction n with
    | zero => exact e
    | succ n ih => exact wed1 _ _ n ih
  have pass1 : ∀ (s s2 : CW), s.1 = s2.1 → (passF q s).1 = (passF q s2).1 := by
    intro s s2 e
    unfold passF
    rw [weds1 s s2 q.2.1 e]
  intro n
  induction n with
  | zero => rfl
  | succ n ih => exact pass1 _ _ ih
/-- so many days pass over cells -/
def itC (q : PD) (c : Nat → Int32) (n : Nat) : Nat → Int32 := (itP q (c, fun _ => 0) n).1
theorem itC_eq {q : PD} {c w : Nat → Int32} (n : Nat) : (itP q (c, w) n).1 = itC q c n := itP_w1 n
theorem smd_ms2 : ∀ x, SMd x → isM x ∨ ScM x := by
  rintro x (z | rfl | rfl | rfl)
  · exact Or.inl z
  · exact Or.inr (by unfold ScM; decide)
  · exact Or.inr (by unfold ScM; decide)
  · exact Or.inr (by unfold ScM; decide)
theorem c_days {a : Int32} {st : St} (hI : Inv st) : P_X11_days 0 a st (fun r1 st1 => P_X12_days 58 a st1 (fun r2 st2 => r1 = r2 ∧ Inv st2)) := by
  obtain ⟨v, H, HM, HO⟩ := hI
  obtain ⟨p, D⟩ := H.D
  have hc := H.c
  obtain ⟨dd, hdd, ed⟩ := HO.2.2.1.1.2.2.1
  by_cases hb : 1 ≤ a.toInt ∧ a.toInt ≤ 20 ∧ (dd : Int) + a.toInt ≤ 999
  · obtain ⟨n, hn1, hn2, rfl⟩ := (inR (lo := 1) (hi := 20) (by decide)).mp ⟨hb.1, hb.2.1⟩
    rw [iN_toInt (by omega)] at hb
    have hle : iN dd + iN n ≤ iN 999 := by rw [← iN_add, iN_le (by omega) (by omega)]; omega
    refine ⟨fun hz => ?_, fun _ => ⟨fun hz => ?_, fun _ => ⟨3, rfl, da_o D.hd, s_today D.hd ?_⟩⟩⟩
    · have hz : iN n < iN 1 := hz
      rw [iN_lt (by omega) (by omega)] at hz; omega
    · have hz : iN 20 < iN n := hz
      rw [iN_lt (by omega) (by omega)] at hz; omega
    rw [ch31, hc, ed]
    refine ⟨fun _ => ⟨2, rfl, ⟨_, rfl⟩, keepC H HO (fun st1 F1 H1 => s_days41 H1 HO.push (by omega) (fun w st2 F2 H2 => ?_))⟩, fun hz => absurd hle hz⟩
    rw [itC_eq] at H2 ⊢
    have HM2 := HM.cfr (F1.tr F2)
    obtain ⟨I1, G1, k1⟩ := m_beg HM2
    have eC := I1.c
    have e36 : gI (sI st2 58 4 0) 58 36 = iN dd := by rw [← ed, ← eC]; rfl
    refine ⟨rfl, s_isIn1 (by rw [Int32.toInt_toInt64, iN_toInt (by omega)]; exact hb.1) (by rw [Int32.toInt_toInt64, iN_toInt (by omega)]; exact hb.2.1) ⟨fun hz => absurd hz (by decide), fun _ => ⟨rfl, ?_⟩⟩⟩
    rw [e36]
    refine ⟨fun _ => ⟨⟨_, rfl⟩, keepM I1 HO (fun s2 G2 I2 k2 => ⟨⟨_, rfl⟩, ?_⟩)⟩, fun hz => absurd hle hz⟩
    have eC2 := I2.c
    refine s_goOn I2.1 (by rw [eC2]; exact HO.2.2.1.1.1) (by omega) (fun s3 G3 m1 m2 => ?_)
    rw [eC2, itC_eq] at m1
    have m1 : mC v.1.2.1 s3 = itC v.1 v.2.1.1 n := m1
    obtain ⟨d1, d2⟩ := I2.mc G3 (fun _ _ z => Or.inl z) smd_ms2 (c := itC v.1 v.2.1.1 n) m1
    have e9 : gI s3 58 36 = itC v.1 v.2.1.1 n 0 := by rw [← m1]; rfl
    refine ⟨rfl, e9.symm, setc (setb v (pushB v.2.1)) (itC v.1 v.2.1.1 n), H2.mfr ((G1.tr G2).tr d1), d2, HO.push.sc ?_⟩
    have := CB_it HO.1 (s := (v.2.1.1, fun _ => 0)) HO.2.2.1.1 ed (n := n) (by omega)
    exact this
  · have R : P_X11_days_26 0 a (fun r1 st1 => P_X12_days 58 a st1 (fun r2 st2 => r1 = r2 ∧ Inv st2)) st := by
      refine ⟨tb_out, refuseC H (k := 1) (by decide) (fun st1 F1 H1 => ?_)⟩
      have HM2 := HM.cfr F1
      obtain ⟨I1, G1, k1⟩ := m_beg HM2
      have eC := I1.c
      have e36 : gI (sI st1 58 4 0) 58 36 = iN dd := by rw [← ed, ← eC]; rfl
      have R2 : P_X12_days_29 58 a (fun r2 st2 => -1 = r2 ∧ Inv st2) (sI st1 58 4 0) := ⟨⟨_, rfl⟩, refuseM I1 (k := 1) (by decide) (fun s2 G2 I2 k2 => ⟨rfl, _, H1.mfr (G1.tr G2), I2, HO.rf 1⟩)⟩
      by_cases h20 : 1 ≤ a.toInt ∧ a.toInt ≤ 20
      · obtain ⟨n, hn1, hn2, rfl⟩ := (inR (lo := 1) (hi := 20) (by decide)).mp h20
        rw [iN_toInt (by omega)] at hb h20
        refine ⟨rfl, s_isIn1 (by rw [Int32.toInt_toInt64, iN_toInt (by omega)]; exact h20.1) (by rw [Int32.toInt_toInt64, iN_toInt (by omega)]; exact h20.2) ⟨fun _ => R2, fun _ => ⟨rfl, ?_⟩⟩⟩
        rw [e36]
        refine ⟨fun hz => ?_, fun _ => R2⟩
        have hz : iN dd + iN n ≤ iN 999 := hz
        rw [← iN_add, iN_le (by omega) (by omega)] at hz
        omega
      · exact ⟨rfl, s_isIn0 (by rw [Int32.toInt_toInt64]; exact h20) ⟨fun _ => R2, fun hz => absurd rfl hz⟩⟩
    refine ⟨fun _ => R, fun h1 => ⟨fun _ => R, fun h2 => ⟨3, rfl, da_o D.hd, s_today D.hd ?_⟩⟩⟩
    rw [ch31, hc, ed]
    refine ⟨fun hz => ?_, fun _ => R⟩
    exfalso
    have h1 : ¬ a.toInt < 1 := fun z => h1 ((lt_iN (n := 1) (by decide)).mpr z)
    have h2 : ¬ 20 < a.toInt := fun z => h2 (by
      rw [Int32.lt_iff_toInt_lt]; exact z)
    obtain ⟨n, hn1, hn2, rfl⟩ := (inR (lo := 1) (hi := 20) (a := a) (by decide)).mp ⟨by omega, by omega⟩
    have hz : iN dd + iN n ≤ iN 999 := hz
    rw [← iN_add, iN_le (by omega) (by omega)] at hz
    rw [iN_toInt (by omega)] at hb
    omega
def popB (b : Bk) : Bk := (b.2.1.2 (b.2.1.1 - 1), (b.2.1.1 - 1, b.2.1.2), b.2.2)
theorem c_undo {st : St} (hI : Inv st) : P_X11_undo 0 st (fun r1 st1 => P_X12_undo 58 st1 (fun r2 st2 => r1 = r2 ∧ Inv st2)) := by
  obtain ⟨v, H, HM, HO⟩ := hI
  obtain ⟨B1, B2, B3, B4, B5⟩ := H.B
  have B1 : gA st 4 = v.2.1.1 := B1
  have hn40 := HO.2.2.1.2.1
  have e2 : gI st 7 2 = iN v.2.1.2.1.1 := by obtain ⟨f, _, _, e, _⟩ := B2; exact e
  refine ⟨2, rfl, ⟨_, rfl⟩, 7, rfl, rfl, ?_⟩
  by_cases h0 : v.2.1.2.1.1 = 0
  · refine ⟨fun hz => absurd (by rw [e2, h0]; rfl) hz, fun _ => ?_⟩
    obtain ⟨I1, G1, k1⟩ := m_beg HM
    have e38 : gI (sI st 58 4 0) 58 38 = 0 := by
      have e := I1.2.1.2.1
      rw [h0] at e
      exact e
    exact ⟨rfl, rfl, fun hz => absurd e38 hz, fun _ => ⟨rfl, v, H.mfr G1, I1, HO⟩⟩
  · refine ⟨fun _ => ⟨7, rfl, 3, rfl, 4, rfl, ⟨_, rfl⟩, s_pop hn40 (by omega) B2 (fun j hj => by rw [B1]; exact HO.2.2.1.1.2.1 j hj) (fun st1 hF hc hA => ⟨7, rfl, rfl, ?_⟩)⟩, fun hz => ?_⟩
    · have nA : ∀ x, x ≠ 4 → gA st1 x = gA st x := fun x q => hF.eA q
      obtain ⟨c1, c2⟩ := H.book (w := popB v.2.1) hF (fun o k z => Or.inl z.1) (fun x z => Or.inl (by rw [z]; decide)) ⟨hc, hA, by rw [hF.eI (by unfold Iac; decide)]; exact B3, fun i hi k hk => by rw [nA _ (by omega)]; exact B4 i hi k hk, fun k hk => by rw [nA _ (by decide)]; exact B5 k hk⟩
      have e71 : gI st1 7 2 = iN (v.2.1.2.1.1 - 1) := by obtain ⟨f, _, _, e, _⟩ := hA; exact e
      rw [e71]
      have HO2 : AvOk (setb v (popB v.2.1)) := by
        obtain ⟨o1, o2, ⟨b1, b2, b3, b4, b5⟩, o4⟩ := HO
        exact ⟨o1, o2, ⟨b3 _ (by omega), (by show v.2.1.2.1.1 - 1 ≤ 40; omega), fun k hk => b3 k (by have : k < v.2.1.2.1.1 - 1 := hk; omega), b4, b5⟩, o4⟩
      obtain ⟨I1, G1, k1⟩ := m_beg (HM.cfr c1)
      obtain ⟨m1, m2, m3, m4, m5, m6⟩ := I1.2.1
      have e38 : gI (sI st1 58 4 0) 58 38 = iN v.2.1.2.1.1 := m2
      refine ⟨rfl, rfl, fun _ => ⟨rfl, rfl, 81, rfl, rfl, ⟨_, rfl⟩, ?_⟩, fun hz => ?_⟩
      · rw [e38, iN_m1 (by omega), gI_sI]
        have e110 : 110 * iN (v.2.1.2.1.1 - 1) = iN (110 * (v.2.1.2.1.1 - 1)) := by rw [iN_mul]; rfl
        rw [e110]
        have F9 : Fx Imk (fun _ => False) (sI st1 58 4 0) (sI (sI st1 58 4 0) 58 38 (iN (v.2.1.2.1.1 - 1))) := Fx.si ⟨rfl, rfl⟩ _
        refine s_unpack al81 (by omega) (by decide) (by unfold isM; decide) (fun s3 F3 hH => ⟨rfl, ?_⟩)
        have g38 : gI s3 58 38 = iN (v.2.1.2.1.1 - 1) := by rw [F3.eI (by unfold IMd; decide), gI_sI]
        rw [g38]
        have em : mC v.1.2.1 s3 = v.2.1.2.1.2 (v.2.1.2.1.1 - 1) := by
          rw [← hH.row, ← m3 _ (by omega)]
          rfl
        have nA3 : ∀ x, ¬ isM x → gA s3 x = gA (sI st1 58 4 0) x := fun x q => F3.eA q
        have nI3 : ∀ k, k ≠ 36 → k ≠ 37 → k ≠ 38 → gI s3 58 k = gI (sI st1 58 4 0) 58 k := fun k q1 q2 q3 => by rw [F3.eI (fun z => z.2.elim q1 q2), gI_sI_ne (fun z => q3 z.2)]
        have FF : Fx (fun o k => o = 58 ∧ (k = 36 ∨ k = 37 ∨ k = 38)) isM (sI st1 58 4 0) s3 := (Fx.si (S := isM) ⟨rfl, Or.inr (Or.inr rfl)⟩ _).tr (F3.wk (fun o k z => ⟨z.1, z.2.elim Or.inl (fun y => Or.inr (Or.inl y))⟩) (fun _ z => z))
        have mfr : MFr (sI st1 58 4 0) s3 := FF.mfr (fun o k z => by rw [z.1]; decide) (fun x z => by unfold isM at z; omega)
        refine ⟨rfl, setb v (popB v.2.1), c2.mfr (G1.tr mfr), ?_, HO2⟩
        obtain ⟨i1, _, i3, i4, i5, i6, i7⟩ := I1
        have mN : ∀ k, k < 5 → ¬ isM (mseN k) := fun k hk => (mseN_s k hk).2
        have mT : ∀ k, k < 5 → ¬ isM (mseT k) := fun k hk => (mseT_s k hk).2
        refine ⟨i1.fx FF (by unfold nMP isM; decide), ⟨em, g38, fun k hk => ?_, by rw [nI3 39 (by decide) (by decide) (by decide)]; exact m4, fun i hi k hk => by rw [nA3 _ (mN k hk)]; exact m5 i hi k hk, fun k hk => by rw [nA3 71 (by unfold isM; decide)]; exact m6 k hk⟩, fun e => by rw [nI3 58 (by decide) (by decide) (by decide)]; exact i3 e, fun w e => ?_, by rw [nI3 16 (by decide) (by decide) (by decide)]; exact i5, fun j hj => by rw [nA3 72 (by unfold isM; decide)]; exact i6 j hj, by rw [nI3 25 (by decide) (by decide) (by decide)]; exact i7.1, i7.2.cg (nA3 93 (by unfold isM; decide)) (nA3 105 (by unfold isM; decide))⟩
        · rw [nA3 81 (by unfold isM; decide)]
          exact m3 k (by have : k < v.2.1.2.1.1 - 1 := hk; omega)
        · obtain ⟨q1, t1, t2, t3, t4, t5, t6⟩ := i4 w e
          exact ⟨by rw [nI3 58 (by decide) (by decide) (by decide)]; exact q1, by rw [nA3 98 (by unfold isM; decide)]; exact t1, by rw [nI3 59 (by decide) (by decide) (by decide)]; exact t2, fun k hk => by rw [nA3 99 (by unfold isM; decide)]; exact t3 k hk, by rw [nI3 60 (by decide) (by decide) (by decide)]; exact t4, fun i hi k hk => by rw [nA3 _ (mT k hk)]; exact t5 i hi k hk, fun k hk => by rw [nA3 104 (by unfold isM; decide)]; exact t6 k hk⟩
      · rw [e38] at hz
        have := (iN_eq (b := 0) (by omega) (by decide)).mp hz
        omega
    · rw [e2] at hz
      have := (iN_eq (b := 0) (by omega) (by decide)).mp hz
      omega
