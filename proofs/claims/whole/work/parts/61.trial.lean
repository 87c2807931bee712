/-! PURE: a trial is a copy of the dale; cells that are alike pass alike -/
/-- alike but for ties with brides whom nobody told -/
def AgC (nb : Nat) (c c2 : Nat → Int32) : Prop := ∀ j, j < 110 → (56 ≤ j → (j - 56) % 6 < nb) → c j = c2 j
theorem AgC.rf {nb : Nat} {c : Nat → Int32} : AgC nb c c := fun _ _ _ => rfl
theorem AgC.tr {nb : Nat} {a b c : Nat → Int32} (h1 : AgC nb a b) (h2 : AgC nb b c) : AgC nb a c := fun j hj hn => (h1 j hj hn).trans (h2 j hj hn)
theorem AgC.up {nb : Nat} {c c2 : Nat → Int32} (h : AgC nb c c2) (j : Nat) (x : Int32) : AgC nb (upd c j x) (upd c2 j x) := by
  intro i hi hn
  by_cases e : i = j
  · subst e; rw [upd_same, upd_same]
  · rw [upd_ne e, upd_ne e]; exact h i hi hn
theorem vM_ag {q : PD} {c c2 : Nat → Int32} (h : AgC q.2.1 c c2) {p : Nat} (hp : p < 9) : vM q c p = vM q c2 p := by
  have e2 : c (2 + 4 * p) = c2 (2 + 4 * p) := h _ (by omega) (by omega)
  have e3 : c (2 + 4 * p + 2) = c2 (2 + 4 * p + 2) := h _ (by omega) (by omega)
  have e4 : c (2 + 4 * p + 3) = c2 (2 + 4 * p + 3) := h _ (by omega) (by omega)
  have e6 : c 0 = c2 0 := h _ (by omega) (by omega)
  funext j
  unfold vM
  rw [e2, e3, e4, e6]
theorem weighF_ag {q : PD} (hq : q.1 ≤ 9) {c c2 : Nat → Int32} (h : AgC q.2.1 c c2) (hq2 : q.2.1 ≤ 6) {p b : Nat} (hp : p < 9) (hb : b < q.2.1) : weighF q c p b = weighF q c2 p b := by
  have e1 : c (56 + 6 * p + b) = c2 (56 + 6 * p + b) := h _ (by omega) (by omega)
  have e2 : c (2 + 4 * p) = c2 (2 + 4 * p) := h _ (by omega) (by omega)
  have e3 : c (2 + 4 * p + 2) = c2 (2 + 4 * p + 2) := h _ (by omega) (by omega)
  have e5 : c (38 + 3 * b) = c2 (38 + 3 * b) := h _ (by omega) (by omega)
  have e6 : c 0 = c2 0 := h _ (by omega) (by omega)
  have e7 : tiedS q.1 c b = tiedS q.1 c2 b := tiedS_congr q.1 (fun p2 hp2 => h _ (by omega) (by omega))
  have e8 : vW q c p b = vW q c2 p b := by
    funext j
    unfold vW riv
    rw [e1, e5, e6, e7, vM_ag h hp]
  unfold weighF
  rw [e1, e2, e3, e8]
theorem mournF_ag {q : PD} {c c2 : Nat → Int32} (h : AgC q.2.1 c c2) {p : Nat} (hp : p < 9) : mournF q c p = mournF q c2 p := by
  have e1 : c (2 + 4 * p + 1) = c2 (2 + 4 * p + 1) := h _ (by omega) (by omega)
  unfold mournF
  rw [e1, vM_ag h hp]
theorem hvL_s (q : PD) (c : Nat → Int32) (b n : Nat) : hvL q c b (n + 1) = hvS q c b n (hvL q c b n) := by unfold hvL; rw [lp_s]
theorem heavF_ag {q : PD} (hq : q.1 ≤ 9) {c c2 : Nat → Int32} (h : AgC q.2.1 c c2) (hq2 : q.2.1 ≤ 6) {b : Nat} (hb : b < q.2.1) : heavF q c b = heavF q c2 b := by
  have key : ∀ n, n ≤ 9 → hvL q c b n = hvL q c2 b n := by
    intro n
    induction n with
    | zero => intro _; unfold hvL; rw [lp_0, lp_0]
    | succ n ih =>
      intro hn
      rw [hvL_s, hvL_s, ih (by omega)]
      unfold hvS
      rw [weighF_ag hq h hq2 (by omega) hb]
  unfold heavF
  rw [key _ hq]
/-- two ways of a dale that are alike; what her leader weighed too, once she is led -/
def AgS (nb b0 : Nat) (s s2 : CW) : Prop := AgC nb s.1 s2.1 ∧ (s.1 (38 + 3 * b0 + 1) ≠ 1 → s.2 b0 = s2.2 b0)
theorem who9 {x : Int32} (h : x = -1 ∨ ∃ p, p < 9 ∧ x = iN p) : x.toNatClampNeg < 9 := by
  rcases h with rfl | ⟨p, hp, rfl⟩
  · decide
  · rw [iN_cl (by omega)]; exact hp
theorem giveC_hm {c : Nat → Int32} {b b0 : Nat} (hne : b ≠ b0) {who w : Int32} (hw : who.toNatClampNeg < 9) (hb : b < 6) (hb0 : b0 < 6) : giveC (upd c (38 + 3 * b + 1) 0) b who w (38 + 3 * b0 + 1) = c (38 + 3 * b0 + 1) := by
  unfold giveC
  split
  · rw [upd_ne (by omega), upd_ne (by omega), upd_ne (by omega), upd_ne (by omega)]
  · rw [upd_ne (by omega), upd_ne (by omega)]
theorem give_ag {q : PD} (hq : PDok q) {b b0 : Nat} (hb : b < q.2.1) (hb0 : b0 < 6) {s s2 : CW} (h : AgS q.2.1 b0 s s2) {who : Int32} (hw : who.toNatClampNeg < 9) : AgS q.2.1 b0 (giveF q s b who) (giveF q s2 b who) := by
  have hq2 := hq.2.1
  have A := h.1.up (38 + 3 * b + 1) 0
  have ew : wgF q (upd s.1 (38 + 3 * b + 1) 0) b who = wgF q (upd s2.1 (38 + 3 * b + 1) 0) b who := by
    unfold wgF
    rw [weighF_ag hq.1 A hq2 hw hb]
  refine ⟨?_, fun hn => ?_⟩
  · show AgC q.2.1 (giveC _ b who _) (giveC _ b who _)
    rw [ew]
    unfold giveC
    split
    · rw [A (2 + 4 * who.toNatClampNeg + 3) (by omega) (by omega), A (2 + 4 * who.toNatClampNeg) (by omega) (by omega)]
      exact ((A.up _ _).up _ _).up _ _
    · rw [A 1 (by omega) (by omega)]
      exact A.up _ _
  · show upd s.2 b _ b0 = upd s2.2 b _ b0
    rw [ew]
    by_cases e : b = b0
    · subst e; rw [upd_same, upd_same]
    · rw [upd_ne (Ne.symm e), upd_ne (Ne.symm e)]
      refine h.2 (fun h1 => hn ?_)
      show giveC _ b who _ (38 + 3 * b0 + 1) = 1
      rw [giveC_hm e hw (by omega) hb0]
      exact h1
theorem wed_ag {q : PD} (hq : PDok q) {b b0 : Nat} (hb : b < q.2.1) (hb0 : b0 < 6) {s s2 : CW} (h : AgS q.2.1 b0 s s2) : AgS q.2.1 b0 (wedF q b s) (wedF q b s2) := by
  have hq2 := hq.2.1
  unfold wedF
  rw [h.1 (38 + 3 * b + 1) (by omega) (by omega), h.1 (38 + 3 * b) (by omega) (by omega), h.1 0 (by omega) (by omega), heavF_ag hq.1 h.1 hq2 hb]
  split
  · exact give_ag hq hb hb0 h (who9 (heav_who hq.1 _ _))
  · exact h
theorem weds_ag {q : PD} (hq : PDok q) {b0 : Nat} (hb0 : b0 < 6) {s s2 : CW} (h : AgS q.2.1 b0 s s2) : ∀ n, n ≤ q.2.1 → AgS q.2.1 b0 (weds q s n) (weds q s2 n) := by
  intro n
  induction n with
  | zero => intro _; exact h
  | succ n ih => intro hn; exact wed_ag hq (by omega) hb0 (ih (by omega))
theorem mors_ag {q : PD} {c c2 : Nat → Int32} (h : AgC q.2.1 c c2) : ∀ n, n ≤ 9 → AgC q.2.1 (mors q c n) (mors q c2 n) := by
  intro n
  induction n with
  | zero => intro _; exact h
  | succ n ih =>
    intro hn
    have A := ih (by omega)
    show AgC q.2.1 (morF q n (mors q c n)) (morF q n (mors q c2 n))
    unfold morF
    rw [mournF_ag A (by omega), A (2 + 4 * n) (by omega) (by omega), A (2 + 4 * n + 2) (by omega) (by omega)]
    exact (A.up _ _).up _ _
theorem mors_hi {q : PD} {c : Nat → Int32} {j : Nat} (hj : 38 ≤ j) : ∀ n, n ≤ 9 → mors q c n j = c j := by
  intro n
  induction n with
  | zero => intro _; rfl
  | succ n ih =>
    intro hn
    have hs : mors q c (n + 1) = morF q n (mors q c n) := rfl
    rw [hs]
    unfold morF
    rw [upd_ne (by omega), upd_ne (by omega)]
    exact ih (by omega)
theorem pass_ag {q : PD} (hq : PDok q) {b0 : Nat} (hb0 : b0 < 6) {s s2 : CW} (h : AgS q.2.1 b0 s s2) : AgS q.2.1 b0 (passF q s) (passF q s2) := by
  have W := weds_ag hq hb0 h q.2.1 (Nat.le_refl _)
  have A := mors_ag (q := q) W.1 q.1 hq.1
  refine ⟨?_, fun hn => W.2 (fun h1 => hn ?_)⟩
  · show AgC q.2.1 (upd _ 0 _) (upd _ 0 _)
    rw [A 0 (by omega) (by omega)]
    exact A.up _ _
  · show upd (mors q (weds q s q.2.1).1 q.1) 0 (mors q (weds q s q.2.1).1 q.1 0 + 1) (38 + 3 * b0 + 1) = 1
    rw [upd_ne (by omega), mors_hi (by omega) _ hq.1]
    exact h1
/-- cells of people, of brides -/
theorem AgC.lo {nb : Nat} {c c2 : Nat → Int32} (h : AgC nb c c2) {j : Nat} (hj : j < 56) : c j = c2 j := h j (by omega) (by omega)
theorem it_ags {q : PD} (hq : PDok q) {b0 : Nat} (hb0 : b0 < 6) {s s2 : CW} (h : AgS q.2.1 b0 s s2) : ∀ n, AgS q.2.1 b0 (itP q s n) (itP q s2 n) := by
  intro n
  induction n with
  | zero => exact h
  | succ n ih => rw [it_s, it_s]; exact pass_ag hq hb0 ih
theorem it_ag {q : PD} (hq : PDok q) {c c2 w : Nat → Int32} (h : AgC q.2.1 c c2) (n : Nat) : AgC q.2.1 (itP q (c, w) n).1 (itC q c2 n) := by
  have A := (it_ags hq (b0 := 0) (by decide) (s := (c, w)) (s2 := (c2, w)) ⟨h, fun _ => rfl⟩ n).1
  rw [itC_eq (c := c2)] at A
  exact A
theorem it_add {q : PD} {s : CW} (n : Nat) : ∀ m, itP q s (n + m) = itP q (itP q s n) m := by
  intro m
  induction m with
  | zero => rfl
  | succ m ih => rw [show n + (m + 1) = (n + m) + 1 by omega, it_s, it_s, ih]
/-! no wedding comes -/
def quiet (q : PD) (c : Nat → Int32) (u : Int32) : Prop := ∀ b, b < q.2.1 → c (38 + 3 * b + 1) = 1 → u ≤ c (38 + 3 * b)
theorem weds_quiet {q : PD} {s : CW} {u : Int32} (h : quiet q s.1 u) (h0 : s.1 0 < u) : ∀ n, n ≤ q.2.1 → weds q s n = s := by
  intro n
  induction n with
  | zero => intro _; rfl
  | succ n ih =>
    intro hn
    show wedF q n (weds q s n) = s
    rw [ih (by omega)]
    unfold wedF
    rw [if_neg]
    rintro ⟨h1, h2⟩
    have h3 := h n (by omega) h1
    rw [h2] at h3
    exact absurd h0 (Int32.not_lt.mpr h3)
theorem it_quiet {q : PD} (hq : PDok q) {s : CW} {d m : Nat} (hd : d + m < 100000) (h0 : s.1 0 = iN d) (h : quiet q s.1 (iN (d + m))) : ∀ n, n ≤ m → ∀ j, 38 ≤ j → (itP q s n).1 j = s.1 j := by
  intro n
  induction n with
  | zero => intro _ j _; rfl
  | succ n ih =>
    intro hn j hj
    have e := ih (by omega)
    rw [it_s]
    show upd (mors q (weds q (itP q s n) q.2.1).1 q.1) 0 _ j = _
    rw [upd_ne (by omega), mors_hi hj _ hq.1, weds_quiet (u := iN (d + m)) (fun b hb h1 => ?_) ?_ _ (Nat.le_refl _)]
    · exact e j hj
    · rw [it_day hq h0, iN_lt (by omega) (by omega)]; omega
    · rw [e _ (by omega)] at h1 ⊢
      exact h b hb h1
/-! the class: the trial -/
theorem ch301 : ch 30 1 = 31 := rfl
theorem ch303 : ch 30 3 = 33 := rfl
theorem isDa30 : isDa 30 := Or.inr (Or.inr rfl)
theorem sd30_sc : ∀ x, SD 30 x → ScC x := by
  rintro x (rfl | rfl | rfl | h)
  · unfold ScC; decide
  · unfold ScC; decide
  · unfold ScC; decide
  · exact scv3_sc x (Or.inr h)
theorem QFr.rf {a : St} (ht : ∃ pt, isPl pt ∧ gR a 30 0 = some pt) : QFr a a := ⟨fun _ _ _ _ _ => rfl, fun _ _ _ _ _ => rfl, ht, fun _ _ => rfl⟩
theorem DSt.tp {st : St} {p : Nat} {q : PD} (D : DSt st 30 p q) : ∃ pt, isPl pt ∧ gR st 30 0 = some pt := ⟨p, D.2.1, D.2.2.1⟩
theorem QFr.e4 {a b : St} (h : QFr a b) : gA b 4 = gA a 4 := h.2.2.2 4 (by unfold ScC; decide)
theorem gR_sR (st : St) (o k : Nat) (v : Option Nat) : gR (sR st o k v) o k = v := by
  show (if o = o ∧ k = k then v else st.2.1 o k) = v
  rw [if_pos ⟨rfl, rfl⟩]
theorem gR_sR_ne {st : St} {o k o2 k2 : Nat} {v : Option Nat} (h : ¬ (o2 = o ∧ k2 = k)) : gR (sR st o k v) o2 k2 = gR st o2 k2 := by
  show (if o2 = o ∧ k2 = k then v else st.2.1 o2 k2) = _
  rw [if_neg h]; rfl
theorem s_copyT {st : St} {p : Nat} {q : PD} (D : DSt st 3 p q) {post : St → Prop} (h : ∀ st1, QFr st st1 → DSt st1 30 p q → AgC q.2.1 (gA st1 31) (gA st 4) → (∀ x, x ≠ 31 → gA st1 x = gA st x) → post st1) : P_X2_copyFrom 30 3 st post := by
  have hQ : ∀ f, QFr st (sF (sR st 30 0 (some p)) 31 f) := fun f => by
    refine ⟨fun _ _ _ _ _ => rfl, fun o k hn _ _ => ?_, ⟨p, D.hp, ?_⟩, fun x hx => ?_⟩
    · exact gR_sR_ne hn
    · exact gR_sR st 30 0 (some p)
    · rw [gA_sF_ne (fun e => hx (by rw [e]; unfold ScC; decide))]; rfl
  refine ⟨p, D.pl, rfl, 4, rfl, 31, rfl, by decide, by decide, by decide, by decide, by decide, by decide, by decide, h _ (hQ _) ?_ ?_ (fun x hx => by rw [gA_sF_ne hx]; rfl)⟩
  · have D3 := D.qfr (hQ (va_cpy (gA (sR st 30 0 (some p)) 4) (gA (sR st 30 0 (some p)) 31) (0 : Int32).toNatClampNeg (0 : Int32).toNatClampNeg (110 : Int32).toNatClampNeg))
    exact ⟨isDa30, D3.2.1, gR_sR st 30 0 (some p), D3.2.2.2⟩
  · intro j hj _
    have e110 : (110 : Int32).toNatClampNeg = 110 := rfl
    have e0 : (0 : Int32).toNatClampNeg = 0 := rfl
    rw [e110, e0, gA_sF, cpy_in (by omega) (by omega)]
    show gA st 4 (0 + (j - 0)) = _
    congr 1; omega
theorem s_letPass {st : St} {p : Nat} {q : PD} (D : DSt st 3 p q) (hM : okM q.2.2.2.2) {N : Nat} (hN : N < 1000) {c : Nat → Int32} (hc : gA st 4 = c) {post : St → Prop} (h : ∀ st1, QFr st st1 → DSt st1 30 p q → AgC q.2.1 (gA st1 31) (itC q c N) → post st1) : P_X9_letPass 36 (iN N) st post := by
  refine ⟨30, rfl, 3, rfl, ⟨_, rfl⟩, s_copyT D (fun st1 Q1 D1 A1 _ => ?_)⟩
  refine ⟨N + 1, loop_up (α := Unit) (P := fun n i _ st => P_X9_letPass_13 36 (iN N) post n i st) (N := N) (fun i _ st' => QFr st st' ∧ DSt st' 30 p q ∧ gA st' 31 = (itP q (gA st1 31, gA st1 33) i).1 ∧ gA st' 33 = (itP q (gA st1 31, gA st1 33) i).2) ?_ ?_ N 0 () st1 (by omega) ⟨Q1, D1, rfl, rfl⟩⟩
  · rintro i hi _ st' n ⟨Q2, D2, e1, e2⟩ ih
    show P_X9_letPass_13 36 (iN N) post (n + 1) (iN i) st'
    unfold P_X9_letPass_13
    refine ⟨fun hz => absurd hz (nle (by omega) hi), fun _ => ⟨30, rfl, ⟨_, rfl⟩, s_passDay D2 hM (fun st2 hE2 h1 h2 => ?_)⟩⟩
    have h1 : gA st2 31 = (passF q (gA st' 31, gA st' 33)).1 := h1
    have h2 : gA st2 33 = (passF q (gA st' 31, gA st' 33)).2 := h2
    rw [e1, e2] at h1 h2
    rw [iN_s]
    exact ih () st2 ⟨Q2.tr (QFr.ex hE2 sd30_sc D2.tp), D2.ex (npl_sd isDa30) hE2, h1, h2⟩
  · rintro _ st' n ⟨Q2, D2, e1, e2⟩
    show P_X9_letPass_13 36 (iN N) post (n + 1) (iN N) st'
    unfold P_X9_letPass_13
    refine ⟨fun _ => h st' Q2 D2 ?_, fun hz => absurd (Int32.le_refl _) hz⟩
    rw [e1]
    exact it_ag D.ok (by rw [← hc]; exact A1) N
theorem s_hasWB {st : St} {d p : Nat} {q : PD} (D : DSt st d p q) {u : Int32} {post : Int32 → St → Prop} (h1 : quiet q (gA st (ch d 1)) u → post 0 st) (h2 : post 1 st) : P_X2_hasWeddingBefore d u st post := by
  have q2 := D.ok.2.1
  refine ⟨q.2.1 + 1, loop_up (α := Unit) (P := fun n i _ st => P_X2_hasWeddingBefore_2 d u post n i st) (N := q.2.1) (fun i _ st' => st' = st ∧ ∀ b, b < i → gA st (ch d 1) (38 + 3 * b + 1) = 1 → u ≤ gA st (ch d 1) (38 + 3 * b)) ?_ ?_ q.2.1 0 () st (by omega) ⟨rfl, fun b hb => absurd hb (Nat.not_lt_zero _)⟩⟩
  · rintro i hi _ st' n ⟨rfl, hJ⟩ ih
    have nxt : (gA st' (ch d 1) (38 + 3 * i + 1) = 1 → u ≤ gA st' (ch d 1) (38 + 3 * i)) → P_X2_hasWeddingBefore_2 d u post n (iN i + 1) st' := fun hn => by
      rw [iN_s]
      refine ih () st' ⟨rfl, fun b hb => ?_⟩
      by_cases e : b = i
      · subst e; exact hn
      · exact hJ b (by omega)
    show P_X2_hasWeddingBefore_2 d u post (n + 1) (iN i) st'
    unfold P_X2_hasWeddingBefore_2
    refine ⟨_, D.pl, pl_1 D.hp, fun hz => ?_, fun _ => ⟨da_o D.hd, s_isHome D.hd (by omega) ⟨fun hz => nxt (fun e => absurd e (ite1 hz)), fun hz => ⟨da_o D.hd, s_weddingOf D.hd (by omega) ⟨fun h0 => nxt (fun _ => h0), fun _ => h2⟩⟩⟩⟩⟩
    rw [D.nb] at hz; exact absurd hz (nle (by omega) hi)
  · rintro _ st' n ⟨rfl, hJ⟩
    show P_X2_hasWeddingBefore_2 d u post (n + 1) (iN q.2.1) st'
    unfold P_X2_hasWeddingBefore_2
    exact ⟨_, D.pl, pl_1 D.hp, fun _ => h1 hJ, fun hz => absurd (by rw [D.nb]; exact Int32.le_refl _) hz⟩
/-- who leads her in the end, by cells c -/
def ldF (q : PD) (c : Nat → Int32) (b : Nat) : Int32 := itC q c 60 (38 + 3 * b + 2)
theorem s_foresee {st : St} {p : Nat} {q : PD} (D : DSt st 30 p q) (hM : okM q.2.2.2.2) {d : Nat} (hd : d ≤ 2000) (hday : gA st 4 0 = iN d) {c : Nat → Int32} (hA : AgC q.2.1 (gA st 31) c) (h0 : c 0 = iN d) {post : St → Prop} (h : ∀ st1, Ex (SD 30) st st1 → QFr st st1 → DSt st1 30 p q → (∀ b, b < q.2.1 → gA st1 31 (38 + 3 * b + 2) = ldF q c b) → post st1) : P_X9_foresee 36 st post := by
  have q2 := D.ok.2.1
  have fin : ∀ i st', Ex (SD 30) st st' → gA st' 31 = (itP q (gA st 31, gA st 33) i).1 → i ≤ 60 → (i = 60 ∨ quiet q (gA st' 31) (iN (d + 60))) → post st' := by
    intro i st' E2 e1 hi hor
    refine h st' E2 (QFr.ex E2 sd30_sc D.tp) (D.ex (npl_sd isDa30) E2) (fun b hb => ?_)
    unfold ldF
    rw [← it_ag D.ok (w := gA st 33) hA 60 _ (by omega) (by omega), e1]
    rcases hor with rfl | hq
    · rfl
    · rw [e1] at hq
      have e := it_add (q := q) (s := (gA st 31, gA st 33)) i (60 - i)
      rw [show i + (60 - i) = 60 by omega] at e
      rw [e]
      have hz : (itP q (gA st 31, gA st 33) i).1 0 = iN (d + i) := it_day D.ok (by show gA st 31 0 = iN d; rw [hA 0 (by omega) (by omega)]; exact h0) i
      refine (it_quiet D.ok (d := d + i) (m := 60 - i) (by omega) hz ?_ (60 - i) (Nat.le_refl _) _ (by omega)).symm
      rw [show d + i + (60 - i) = d + 60 by omega]
      exact hq
  refine ⟨3, rfl, ⟨_, rfl⟩, s_today (Or.inl rfl) ?_⟩
  have eu : gA st (ch 3 1) 0 + 60 = iN (d + 60) := by rw [ch31, hday, iN_add]; rfl
  rw [eu]
  refine ⟨61, loop_up (α := Unit) (P := fun n i _ st => P_X9_foresee_13 36 post n (iN (d + 60)) i st) (N := 60) (fun i _ st' => Ex (SD 30) st st' ∧ gA st' 31 = (itP q (gA st 31, gA st 33) i).1 ∧ gA st' 33 = (itP q (gA st 31, gA st 33) i).2) ?_ ?_ 60 0 () st (by omega) ⟨Ex.rf, rfl, rfl⟩⟩
  · rintro i hi _ st' n ⟨E2, e1, e2⟩ ih
    have D2 := D.ex (npl_sd isDa30) E2
    show P_X9_foresee_13 36 post (n + 1) (iN (d + 60)) (iN i) st'
    unfold P_X9_foresee_13
    refine ⟨fun hz => absurd hz (nle (a := 60) (by omega) hi), fun _ => ⟨30, rfl, ⟨_, rfl⟩, s_hasWB D2 (fun hq => ⟨fun _ => fin i st' E2 e1 (by omega) (Or.inr hq), fun hz => absurd rfl hz⟩) ⟨fun hz => absurd hz (by decide), fun _ => ⟨30, rfl, ⟨_, rfl⟩, s_passDay D2 hM (fun st2 hE2 h1 h2 => ?_)⟩⟩⟩⟩
    have h1 : gA st2 31 = (passF q (gA st' 31, gA st' 33)).1 := h1
    have h2 : gA st2 33 = (passF q (gA st' 31, gA st' 33)).2 := h2
    rw [e1, e2] at h1 h2
    rw [iN_s]
    exact ih () st2 ⟨E2.tr hE2, h1, h2⟩
  · rintro _ st' n ⟨E2, e1, e2⟩
    show P_X9_foresee_13 36 post (n + 1) (iN (d + 60)) (iN 60) st'
    unfold P_X9_foresee_13
    exact ⟨fun _ => fin 60 st' E2 e1 (by omega) (Or.inl rfl), fun hz => absurd (Int32.le_refl _) hz⟩
theorem s_whoLedT {st : St} {b : Nat} (hb : b < 6) {post : Int32 → St → Prop} (h : post (gA st 31 (38 + 3 * b + 2)) st) : P_X2_whoLed 30 (iN b) st post := s_whoLed isDa30 hb h
theorem upd_upd {f : Nat → Int32} {j : Nat} {x y : Int32} : upd (upd f j x) j y = upd f j y := by
  funext i
  by_cases e : i = j
  · subst e; rw [upd_same, upd_same]
  · rw [upd_ne e, upd_ne e, upd_ne e]
/-- the trial takes a number -/
theorem tr_up {st st1 : St} {p : Nat} {q : PD} (Q : QFr st st1) (D : DSt st1 30 p q) {nb : Nat} {c : Nat → Int32} (A : AgC nb (gA st1 31) c) (j : Nat) (x : Int32) : QFr st (sA st1 31 j x) ∧ DSt (sA st1 31 j x) 30 p q ∧ AgC nb (gA (sA st1 31 j x) 31) (upd c j x) := by
  have E : Ex (SD 30) st1 (sA st1 31 j x) := Ex.sa (Or.inl rfl) j x
  exact ⟨Q.tr (QFr.ex E sd30_sc D.tp), D.ex (npl_sd isDa30) E, by rw [gA_sA]; exact A.up j x⟩
