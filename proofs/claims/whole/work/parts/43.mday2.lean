/-! PURE: the reference's wedding and day -/
theorem upd_id {f : Nat → Int32} {j : Nat} {x : Int32} (h : f j = x) : upd f j x = f := by
  funext k
  rw [updq]
  split
  · rename_i e; rw [e, h]
  · rfl
theorem upd_comm {f : Nat → Int32} {i j : Nat} {x y : Int32} (h : i ≠ j) : upd (upd f i x) j y = upd (upd f j y) i x := by
  funext k
  simp only [updq]
  repeat' split
  all_goals first | rfl | (exfalso; omega)
theorem lp_s {α : Type} (f : Nat → α → α) (a : α) (n : Nat) : lp f a (n + 1) = f n (lp f a n) := rfl
theorem lp_0 {α : Type} (f : Nat → α → α) (a : α) : lp f a 0 = a := rfl
theorem tiedS_s (n : Nat) (c : Nat → Int32) (b : Nat) : tiedS (n + 1) c b = if 0 < c (56 + 6 * n + b) then tiedS n c b ||| bit n else tiedS n c b := by unfold tiedS; rw [lp_s]
theorem tiedS_0 (c : Nat → Int32) (b : Nat) : tiedS 0 c b = 0 := by unfold tiedS; rw [lp_0]
theorem tiedS_congr {c c2 : Nat → Int32} {b : Nat} : ∀ n, (∀ p, p < n → c2 (56 + 6 * p + b) = c (56 + 6 * p + b)) → tiedS n c2 b = tiedS n c b := by
  intro n
  induction n with
  | zero => intro _; rw [tiedS_0, tiedS_0]
  | succ n ih =>
    intro h
    rw [tiedS_s, tiedS_s, ih (fun p hp => h p (Nat.lt_succ_of_lt hp)), h n (Nat.lt_succ_self n)]
/-- cells that no weight asks -/
def noW (j : Nat) : Prop := j = 1 ∨ ∃ b, b < 6 ∧ (j = 38 + 3 * b + 1 ∨ j = 38 + 3 * b + 2)
theorem weighF_upd {q : PD} {c : Nat → Int32} {j : Nat} {x : Int32} (hj : noW j) {p b : Nat} (hp : p < 9) (hb : b < 6) : weighF q (upd c j x) p b = weighF q c p b := by
  have key : ∀ i, i ≠ j → upd c j x i = c i := fun i h => upd_ne h
  have n1 : ∀ p2 b2, 56 + 6 * p2 + b2 ≠ j := by
    intro p2 b2
    rcases hj with rfl | ⟨b', hb', rfl | rfl⟩ <;> omega
  have n2 : ∀ p2, p2 < 9 → ∀ k, k < 4 → 2 + 4 * p2 + k ≠ j := by
    intro p2 hp2 k hk
    rcases hj with rfl | ⟨b', hb', rfl | rfl⟩ <;> omega
  have n3 : 38 + 3 * b ≠ j := by rcases hj with rfl | ⟨b', hb', rfl | rfl⟩ <;> omega
  have n4 : 0 ≠ j := by rcases hj with rfl | ⟨b', hb', rfl | rfl⟩ <;> omega
  have e1 := key _ (n1 p b)
  have e2 : upd c j x (2 + 4 * p) = c (2 + 4 * p) := key _ (n2 p hp 0 (by decide))
  have e3 := key _ (n2 p hp 2 (by decide))
  have e4 := key _ (n2 p hp 3 (by decide))
  have et : tiedS q.1 (upd c j x) b = tiedS q.1 c b := tiedS_congr q.1 (fun p2 _ => key _ (n1 p2 b))
  unfold weighF
  have ev : vW q (upd c j x) p b = vW q c p b := by
    funext i
    unfold vW vM riv
    rw [e1, e2, e3, e4, et, key _ n3, key _ n4]
  rw [e1, e2, e3, ev]
theorem kp_nn (v m : Int32) : 0 ≤ kp v m := by
  unfold kp
  generalize (if m < v then m else v) = w
  split
  · rename_i h; exact Int32.le_of_lt h
  · exact Int32.le_refl _
theorem weighF_cases (q : PD) (c : Nat → Int32) (p b : Nat) : weighF q c p b = -1 ∨ 0 ≤ weighF q c p b := by
  unfold weighF
  split
  · exact Or.inl rfl
  · split
    · exact Or.inr (kp_nn _ _)
    · exact Or.inr (kp_nn _ _)
theorem m1_le {x : Int32} (h : x = -1 ∨ 0 ≤ x) (h2 : ¬ x ≤ -1) : 0 ≤ x := by
  rcases h with rfl | h
  · exact absurd (Int32.le_refl _) h2
  · exact h
theorem hvL_most (q : PD) (c : Nat → Int32) (b : Nat) : ∀ n, (hvL q c b n = (-1, -1)) ∨ ∃ p, p < n ∧ hvL q c b n = (iN p, weighF q c p b) ∧ 0 ≤ weighF q c p b := by
  intro n
  induction n with
  | zero => exact Or.inl rfl
  | succ n ih =>
    have hs : hvL q c b (n + 1) = hvS q c b n (hvL q c b n) := rfl
    rw [hs]
    unfold hvS
    rcases ih with h | ⟨p, h1, h2, h3⟩
    · rw [h]
      split
      · exact Or.inl rfl
      · rename_i hc; exact Or.inr ⟨n, by omega, rfl, m1_le (weighF_cases _ _ _ _) hc⟩
    · rw [h2]
      split
      · exact Or.inr ⟨p, by omega, rfl, h3⟩
      · rename_i hc
        refine Or.inr ⟨n, by omega, rfl, ?_⟩
        exact Int32.le_trans h3 (Int32.le_of_lt (Int32.not_le.mp hc))
theorem heav_cases (q : PD) (c : Nat → Int32) (b : Nat) : heavF q c b = -1 ∨ ∃ p, p < q.1 ∧ heavF q c b = iN p ∧ 0 ≤ weighF q c p b := by
  rcases hvL_most q c b q.1 with h | ⟨p, h1, h2, h3⟩
  · left; unfold heavF; rw [h]
  · right; exact ⟨p, h1, by unfold heavF; rw [h2], h3⟩
theorem iN_ne_m1 {n : Nat} (h : n < 2147483648) : iN n ≠ -1 := by
  intro e
  have := congrArg Int32.toInt e
  rw [iN_toInt h, show (-1 : Int32).toInt = -1 by decide] at this
  omega
/-! what stands of the cells -/
def irr (j : Nat) : Prop := j < 38 ∧ (j < 2 ∨ (j - 2) % 4 ≠ 3)
theorem CI_irr {q : PD} (hq : PDok q) {c : Nat → Int32} {j : Nat} {x : Int32} (hj : irr j) (h : CI q c) : CI q (upd c j x) := by
  obtain ⟨h1, h2, h3⟩ := h
  obtain ⟨j1, j2⟩ := hj
  have q1 := hq.1
  refine ⟨fun p hp b hb => ?_, fun p hp => ?_, fun b hb => ?_⟩
  · rw [upd_ne (by omega)]; exact h1 p hp b hb
  · rw [upd_ne (by omega)]; exact h2 p hp
  · rw [upd_ne (by omega), upd_ne (by omega)]; exact h3 b hb
theorem or6 : ∀ k, k < 64 → ∀ b, b < 6 → ∃ m, m < 64 ∧ iN k ||| bit b = iN m := by decide +kernel
theorem CI_give {q : PD} (hq : PDok q) {s : CW} {b : Nat} (hb : b < q.2.1) {who : Int32} (hw : who = -1 ∨ ∃ p, p < q.1 ∧ who = iN p) (hh : s.1 (38 + 3 * b + 1) = 1) (h : CI q s.1) : CI q (giveF q s b who).1 := by
  have q1 := hq.1
  have q2 := hq.2.1
  have h0 : CI q (upd s.1 (38 + 3 * b + 1) 0) := by
    obtain ⟨h1, h2, h3⟩ := h
    refine ⟨fun p hp b2 hb2 => ?_, fun p hp => ?_, fun b2 hb2 => ?_⟩
    · rw [upd_ne (by omega)]; exact h1 p hp b2 hb2
    · rw [upd_ne (by omega)]; exact h2 p hp
    · by_cases e : b2 = b
      · subst e
        rw [upd_same, upd_ne (by omega)]
        exact ⟨Or.inl rfl, fun z => absurd z (by decide), (h3 b2 hb2).2.2⟩
      · rw [upd_ne (by omega), upd_ne (by omega)]; exact h3 b2 hb2
  show CI q (giveC (upd s.1 (38 + 3 * b + 1) 0) b who _)
  unfold giveC
  by_cases hpos : 0 < wgF q (upd s.1 (38 + 3 * b + 1) 0) b who
  · rw [if_pos hpos]
    rcases hw with rfl | ⟨p0, hp0, rfl⟩
    · exfalso
      unfold wgF at hpos
      rw [if_pos rfl] at hpos
      exact absurd hpos (by decide)
    rw [iN_cl (by omega)]
    refine CI_irr hq ⟨by omega, by omega⟩ ?_
    obtain ⟨h1, h2, h3⟩ := h0
    refine ⟨fun p hp b2 hb2 => ?_, fun p hp => ?_, fun b2 hb2 => ?_⟩
    · rw [upd_ne (by omega), upd_ne (by omega)]; exact h1 p hp b2 hb2
    · by_cases e : p = p0
      · subst e
        rw [upd_same]
        obtain ⟨k, hk, ek⟩ := h2 p hp
        rw [ek]
        obtain ⟨m, hm, em⟩ := or6 k hk b (by omega)
        exact ⟨m, hm, em⟩
      · rw [upd_ne (by omega), upd_ne (by omega)]; exact h2 p hp
    · by_cases e : b2 = b
      · subst e
        rw [upd_ne (show 38 + 3 * b2 + 1 ≠ 2 + 4 * p0 + 3 by omega), upd_ne (show 38 + 3 * b2 + 1 ≠ 38 + 3 * b2 + 2 by omega), upd_same, upd_ne (show 38 + 3 * b2 + 2 ≠ 2 + 4 * p0 + 3 by omega), upd_same]
        exact ⟨Or.inl rfl, fun z => absurd z (by decide), Or.inr ⟨p0, hp0, rfl⟩⟩
      · rw [upd_ne (show 38 + 3 * b2 + 1 ≠ 2 + 4 * p0 + 3 by omega), upd_ne (show 38 + 3 * b2 + 1 ≠ 38 + 3 * b + 2 by omega), upd_ne (show 38 + 3 * b2 + 2 ≠ 2 + 4 * p0 + 3 by omega), upd_ne (show 38 + 3 * b2 + 2 ≠ 38 + 3 * b + 2 by omega)]
        exact h3 b2 hb2
  · rw [if_neg hpos]
    exact CI_irr hq ⟨by omega, by omega⟩ h0
theorem CI_wed {q : PD} (hq : PDok q) {s : CW} {b : Nat} (hb : b < q.2.1) (h : CI q s.1) : CI q (wedF q b s).1 := by
  unfold wedF
  split
  · rename_i hc
    refine CI_give hq hb ?_ hc.1 h
    rcases heav_cases q s.1 b with e | ⟨p, hp, e, _⟩
    · exact Or.inl e
    · exact Or.inr ⟨p, hp, e⟩
  · exact h
theorem CI_weds {q : PD} (hq : PDok q) {s : CW} (h : CI q s.1) : ∀ n, n ≤ q.2.1 → CI q (weds q s n).1 := by
  intro n
  induction n with
  | zero => intro _; exact h
  | succ n ih => intro hn; exact CI_wed hq (by omega) (ih (by omega))
theorem CI_mors {q : PD} (hq : PDok q) {c : Nat → Int32} (h : CI q c) : ∀ n, n ≤ q.1 → CI q (mors q c n) := by
  intro n
  induction n with
  | zero => intro _; exact h
  | succ n ih =>
    intro hn
    have q1 := hq.1
    show CI q (morF q n (mors q c n))
    unfold morF
    exact CI_irr hq ⟨by omega, by omega⟩ (CI_irr hq ⟨by omega, by omega⟩ (ih (by omega)))
theorem CI_pass {q : PD} (hq : PDok q) {s : CW} (h : CI q s.1) : CI q (passF q s).1 :=
  CI_irr hq ⟨by decide, Or.inl (by decide)⟩ (CI_mors hq (CI_weds hq h _ (Nat.le_refl _)) _ (Nat.le_refl _))
/-! the reference -/
def IMd (o k : Nat) : Prop := o = 58 ∧ (k = 36 ∨ k = 37)
def SMd (a : Nat) : Prop := isM a ∨ a = 82 ∨ a = 83 ∨ a = 84
theorem smd_p : nMP SMd := by unfold nMP SMd isM; decide
theorem smw_d : ∀ x, SMw x → SMd x := by rintro x (rfl | rfl) <;> unfold SMd <;> simp
theorem s_heaviest {st : St} {q : PD} (M : MPl st q) {b nb : Nat} (hb : b < q.2.1) (hC : CI q (mC nb st)) {post : Int32 → St → Prop} (h : ∀ st2, Ex SMw st st2 → post (heavF q (mC nb st) b) st2) : P_X12_heaviest 58 (iN b) st post := by
  have hq := M.2.2.2.2.2.1.1
  refine ⟨q.1 + 1, loop_up (α := Int32 × Int32) (P := fun n i a st => P_X12_heaviest_7 58 (iN b) post n a.1 a.2 i st) (N := q.1) (fun i a st' => Ex SMw st st' ∧ a = hvL q (mC nb st) b i) ?_ ?_ q.1 0 (-1, -1) st (by omega) ⟨Ex.rf, rfl⟩⟩
  · rintro i hi a st' n ⟨hE, rfl⟩ ih
    have M2 := M.ex hE smw_p
    have eC : mC nb st' = mC nb st := mC_ex hE smw_m nb
    show P_X12_heaviest_7 58 (iN b) post (n + 1) _ _ (iN i) st'
    unfold P_X12_heaviest_7
    refine ⟨62, rfl, vp0 _ (by decide) (by decide), fun hc => ?_, fun _ => ⟨⟨_, rfl⟩, s_weightOf (nb := nb) M2 hi hb (by rw [eC]; exact hC) (fun st2 hE2 => ?_)⟩⟩
    · have e : gA st' 62 (0 : Int32).toNatClampNeg = iN q.1 := M2.1
      rw [e, iN_le (by omega) (by omega)] at hc; omega
    rw [eC]
    have hs : hvL q (mC nb st) b (i + 1) = hvS q (mC nb st) b i (hvL q (mC nb st) b i) := rfl
    refine ⟨fun hc => ?_, fun hc => ?_⟩
    · have h9 := ih (iN i, weighF q (mC nb st) i b) st2 ⟨hE.tr hE2, by rw [hs]; unfold hvS; rw [if_neg (Int32.not_le.mpr hc)]⟩
      rw [← iN_s] at h9
      exact h9
    · have h9 := ih (hvL q (mC nb st) b i) st2 ⟨hE.tr hE2, by rw [hs]; unfold hvS; rw [if_pos (Int32.not_lt.mp hc)]⟩
      rw [← iN_s] at h9
      exact h9
  · rintro a st' n ⟨hE, rfl⟩
    have M2 := M.ex hE smw_p
    show P_X12_heaviest_7 58 (iN b) post (n + 1) _ _ (iN q.1) st'
    unfold P_X12_heaviest_7
    refine ⟨62, rfl, vp0 _ (by decide) (by decide), fun _ => h st' hE, fun hc => absurd ?_ hc⟩
    have e : gA st' 62 (0 : Int32).toNatClampNeg = iN q.1 := M2.1
    rw [e]; exact Int32.le_refl _
def leadF (q : PD) (c : Nat → Int32) (b : Nat) : Int32 := if heavF q c b = -1 then -1 else if weighF q c (heavF q c b).toNatClampNeg b = 0 then -1 else heavF q c b
theorem s_leaderNow {st : St} {q : PD} (M : MPl st q) {b nb : Nat} (hb : b < q.2.1) (hC : CI q (mC nb st)) {post : Int32 → St → Prop} (h : ∀ st2, Ex SMw st st2 → post (leadF q (mC nb st) b) st2) : P_X12_leaderNow 58 (iN b) st post := by
  have hq := M.2.2.2.2.2.1.1
  refine ⟨⟨_, rfl⟩, s_heaviest M hb hC (fun st2 hE => ⟨fun he => ?_, fun he => ⟨⟨_, rfl⟩, ?_⟩⟩)⟩
  · have e9 := h st2 hE
    unfold leadF at e9
    rw [if_pos he] at e9
    exact e9
  · have M2 := M.ex hE smw_p
    have eC : mC nb st2 = mC nb st := mC_ex hE smw_m nb
    rcases heav_cases q (mC nb st) b with e | ⟨p, hp, e, _⟩
    · exact absurd e he
    rw [e]
    refine s_weightOf (nb := nb) M2 hp hb (by rw [eC]; exact hC) (fun st3 hE3 => ?_)
    have e9 := h st3 (hE.tr hE3)
    unfold leadF at e9
    rw [if_neg he, e, iN_cl (by omega)] at e9
    rw [eC]
    refine ⟨fun hz => ?_, fun hz => ?_⟩
    · rw [if_neg hz] at e9; exact e9
    · rw [if_pos hz] at e9; exact e9
theorem lead_cases (q : PD) (hq : q.1 ≤ 9) (c : Nat → Int32) (b : Nat) : (leadF q c b = -1 ∧ ((heavF q c b = -1) ∨ ∃ p, p < q.1 ∧ heavF q c b = iN p ∧ weighF q c p b = 0)) ∨ ∃ p, p < q.1 ∧ leadF q c b = iN p ∧ heavF q c b = iN p ∧ 0 < weighF q c p b := by
  rcases heav_cases q c b with e | ⟨p, hp, e, h0⟩
  · left
    exact ⟨by unfold leadF; rw [if_pos e], Or.inl e⟩
  · have hne : ¬ iN p = -1 := iN_ne_m1 (by omega)
    by_cases hz : weighF q c p b = 0
    · left
      refine ⟨?_, Or.inr ⟨p, hp, e, hz⟩⟩
      unfold leadF
      rw [e, if_neg hne, iN_cl (by omega), if_pos hz]
    · right
      refine ⟨p, hp, ?_, e, Int32.lt_of_le_of_ne h0 (Ne.symm hz)⟩
      unfold leadF
      rw [e, if_neg hne, iN_cl (by omega), if_neg hz]
section Mset
variable {nb : Nat} {st : St}
theorem mC_sg {p : Nat} {x : Int32} (hp : p < 9) : mC nb (sA st 73 p x) = upd (mC nb st) (2 + 4 * p) x := by
  unfold mC
  rw [← rC_ug hp, gA_sA, gA_sA_ne (by decide), gA_sA_ne (by decide), gA_sA_ne (by decide), gA_sA_ne (by decide), gA_sA_ne (by decide), gA_sA_ne (by decide), gA_sA_ne (by decide)]; rfl
theorem mC_st {p : Nat} {x : Int32} (hp : p < 9) : mC nb (sA st 74 p x) = upd (mC nb st) (2 + 4 * p + 1) x := by
  unfold mC
  rw [← rC_ut hp, gA_sA, gA_sA_ne (by decide), gA_sA_ne (by decide), gA_sA_ne (by decide), gA_sA_ne (by decide), gA_sA_ne (by decide), gA_sA_ne (by decide), gA_sA_ne (by decide)]; rfl
theorem mC_so {p : Nat} {x : Int32} (hp : p < 9) : mC nb (sA st 75 p x) = upd (mC nb st) (2 + 4 * p + 2) x := by
  unfold mC
  rw [← rC_uo hp, gA_sA, gA_sA_ne (by decide), gA_sA_ne (by decide), gA_sA_ne (by decide), gA_sA_ne (by decide), gA_sA_ne (by decide), gA_sA_ne (by decide), gA_sA_ne (by decide)]; rfl
theorem mC_sl {p : Nat} {x : Int32} (hp : p < 9) : mC nb (sA st 76 p x) = upd (mC nb st) (2 + 4 * p + 3) x := by
  unfold mC
  rw [← rC_ul hp, gA_sA, gA_sA_ne (by decide), gA_sA_ne (by decide), gA_sA_ne (by decide), gA_sA_ne (by decide), gA_sA_ne (by decide), gA_sA_ne (by decide), gA_sA_ne (by decide)]; rfl
theorem mC_sw {b : Nat} {x : Int32} (hb : b < 6) : mC nb (sA st 77 b x) = upd (mC nb st) (38 + 3 * b) x := by
  unfold mC
  rw [← rC_uw hb, gA_sA, gA_sA_ne (by decide), gA_sA_ne (by decide), gA_sA_ne (by decide), gA_sA_ne (by decide), gA_sA_ne (by decide), gA_sA_ne (by decide), gA_sA_ne (by decide)]; rfl
theorem mC_sh {b : Nat} {x : Int32} (hb : b < 6) : mC nb (sA st 78 b x) = upd (mC nb st) (38 + 3 * b + 1) x := by
  unfold mC
  rw [← rC_uh hb, gA_sA, gA_sA_ne (by decide), gA_sA_ne (by decide), gA_sA_ne (by decide), gA_sA_ne (by decide), gA_sA_ne (by decide), gA_sA_ne (by decide), gA_sA_ne (by decide)]; rfl
theorem mC_sle {b : Nat} {x : Int32} (hb : b < nb ∧ b < 6) : mC nb (sA st 79 b x) = upd (mC nb st) (38 + 3 * b + 2) x := by
  unfold mC
  rw [← rC_ule hb, gA_sA, gA_sA_ne (by decide), gA_sA_ne (by decide), gA_sA_ne (by decide), gA_sA_ne (by decide), gA_sA_ne (by decide), gA_sA_ne (by decide), gA_sA_ne (by decide)]; rfl
theorem mC_sti {k : Nat} {x : Int32} (hk : k < 54) : mC nb (sA st 80 k x) = upd (mC nb st) (56 + k) x := by
  unfold mC
  rw [← rC_uti hk, gA_sA, gA_sA_ne (by decide), gA_sA_ne (by decide), gA_sA_ne (by decide), gA_sA_ne (by decide), gA_sA_ne (by decide), gA_sA_ne (by decide), gA_sA_ne (by decide)]; rfl
theorem mC_sd {x : Int32} : mC nb (sI st 58 36 x) = upd (mC nb st) 0 x := by
  unfold mC
  rw [← rC_ud (dy := gI st 58 36), gI_sI, gI_sI_ne (by decide)]; rfl
theorem mC_sk {x : Int32} : mC nb (sI st 58 37 x) = upd (mC nb st) 1 x := by
  unfold mC
  rw [← rC_uk (dg := gI st 58 37), gI_sI, gI_sI_ne (by decide)]; rfl
theorem mC_sx {a j : Nat} {x : Int32} (h : ¬ isM a) : mC nb (sA st a j x) = mC nb st := mC_ex (S := fun y => y = a) (Ex.sa (S := fun y => y = a) rfl _ _) (fun y e => by rw [e]; exact h) nb
end Mset
