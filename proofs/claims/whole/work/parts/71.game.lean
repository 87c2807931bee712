/-! PURE: game -/
def chC (c : Nat → Int32) (p t : Nat) : Nat → Int32 := if t = 0 then upd c (2 + 4 * p + 2) (min9 (c (2 + 4 * p + 2) + 3)) else upd c (2 + 4 * p + 1) (min9 (c (2 + 4 * p + 1) + 3))
def glF (q : PD) (c : Nat → Int32) (x y b k : Nat) : Int32 := ldF q (chC (chC c x (k / 2)) y (k % 2)) b
def gn (p t l : Int32) : Int32 := (if l = p then 10 else 0) + (if t = 0 then 1 else -2)
def gx (q : PD) (c : Nat → Int32) (x y b k : Nat) : Int32 := gn (iN x) (iN (k / 2)) (glF q c x y b k)
def gy (q : PD) (c : Nat → Int32) (x y b k : Nat) : Int32 := gn (iN y) (iN (k % 2)) (glF q c x y b k)
def rsB (q : PD) (c : Nat → Int32) (x y b k : Nat) : Prop := ¬ gx q c x y b k < gx q c x y b (k ^^^ 2) ∧ ¬ gy q c x y b k < gy q c x y b (k ^^^ 1)
theorem s_gainOf {p t l : Int32} {st : St} {post : Int32 → St → Prop} (h : post (gn p t l) st) : P_X9_gainOf p t l st post := by
  unfold gn at h
  refine ⟨fun h1 => ⟨fun h2 => ?_, fun h2 => ?_⟩, fun h1 => ⟨fun h2 => ?_, fun h2 => ?_⟩⟩
  · rw [if_neg h1, if_neg h2] at h; exact h
  · rw [if_neg h1, if_pos h2] at h; exact h
  · rw [if_pos h1, if_neg h2] at h; exact h
  · rw [if_pos h1, if_pos h2] at h; exact h
theorem gix : ∀ k, k < 4 → iN k / 2 = iN (k / 2) ∧ iN k - iN k / 2 * 2 = iN (k % 2) ∧ (2 * iN (k / 2)) + iN (k % 2) = iN k ∧ (2 * (1 - iN (k / 2))) + iN (k % 2) = iN (k ^^^ 2) ∧ ((2 * iN (k / 2)) + 1) - iN (k % 2) = iN (k ^^^ 1) ∧ 1 - iN (k / 2) = iN ((k ^^^ 2) / 2) ∧ 1 - iN (k % 2) = iN ((k ^^^ 1) % 2) := by decide
theorem gix2 : ∀ k, k < 4 → k ^^^ 2 < 4 ∧ k ^^^ 1 < 4 ∧ iN k ^^^ 2 = iN (k ^^^ 2) ∧ iN k ^^^ 1 = iN (k ^^^ 1) ∧ k / 2 < 2 ∧ k % 2 < 2 ∧ 10 * iN (k / 2) + iN (k % 2) = iN (10 * (k / 2) + k % 2) := by decide
theorem al38 : al 0 38 = 4 := rfl
theorem s_rests {st : St} {q : PD} {c : Nat → Int32} {x y b k : Nat} (hk : k < 4) (h38 : ∀ j, j < 4 → gA st 38 j = glF q c x y b j) {post : Int32 → St → Prop} (h1 : rsB q c x y b k → post 1 st) (h0 : ¬ rsB q c x y b k → post 0 st) : P_X9_rests 36 (iN x) (iN y) (iN k / 2) (iN k - iN k / 2 * 2) st post := by
  obtain ⟨g1, g2, g3, g4, g5, g6, g7⟩ := gix k hk
  obtain ⟨j1, j2, _⟩ := gix2 k hk
  have vk : ∀ j, j < 4 → vp_in (iN j) (al 0 38) := fun j hj => by rw [al38]; exact iN_vp hj (by decide)
  rw [g2, g1]
  unfold P_X9_rests
  rw [g3, g4, g5, g6, g7, iN_cl (by omega), iN_cl (by omega), iN_cl (by omega)]
  refine ⟨38, rfl, vk k hk, 38, rfl, vk _ j1, s_gainOf ⟨38, rfl, vk _ j2, s_gainOf (s_gainOf ?_)⟩⟩
  rw [h38 k hk, h38 _ j1, h38 _ j2]
  refine ⟨fun z1 => ⟨Or.inl rfl, h0 (fun e => e.1 z1)⟩, fun z1 => s_gainOf ⟨fun z2 => ⟨Or.inl rfl, h0 (fun e => e.2 z2)⟩, fun z2 => ⟨Or.inr rfl, h1 ⟨z1, z2⟩⟩⟩⟩
noncomputable def rcF (q : PD) (c : Nat → Int32) (x y b : Nat) (n : Nat) : Int32 × Int32 := lp (fun k s => @ite _ (rsB q c x y b k) (Classical.propDecidable _) (s.1 + 1, if s.2 = -1 then iN (10 * (k / 2) + k % 2) else s.2) s) ((0 : Int32), (-1 : Int32)) n
theorem rc_p {q : PD} {c : Nat → Int32} {x y b n : Nat} (h : rsB q c x y b n) : rcF q c x y b (n + 1) = ((rcF q c x y b n).1 + 1, if (rcF q c x y b n).2 = -1 then iN (10 * (n / 2) + n % 2) else (rcF q c x y b n).2) := by unfold rcF; rw [lp_s]; exact if_pos h
theorem rc_n {q : PD} {c : Nat → Int32} {x y b n : Nat} (h : ¬ rsB q c x y b n) : rcF q c x y b (n + 1) = rcF q c x y b n := by unfold rcF; rw [lp_s]; exact if_neg h
theorem rc_stay {q : PD} {c : Nat → Int32} {x y b n : Nat} (h : (rcF q c x y b n).2 ≠ -1) : ∀ m, (rcF q c x y b (n + m)).2 = (rcF q c x y b n).2 := by
  intro m
  induction m with
  | zero => rfl
  | succ m ih =>
    rw [show n + (m + 1) = (n + m) + 1 by omega]
    by_cases e : rsB q c x y b (n + m)
    · rw [rc_p e]
      show (if _ then _ else _) = _
      rw [ih, if_neg h]
    · rw [rc_n e]; exact ih
theorem s_rcC {st : St} {q : PD} {c : Nat → Int32} {x y b : Nat} (h38 : ∀ j, j < 4 → gA st 38 j = glF q c x y b j) {post : Int32 → St → Prop} (h : post (rcF q c x y b 4).1 st) : P_X9_restingCount 36 (iN x) (iN y) st post := by
  refine ⟨5, loop_up (P := fun n i s st => P_X9_restingCount_5 36 (iN x) (iN y) post n s i st) (N := 4) (fun i s st' => st' = st ∧ s = (rcF q c x y b i).1) ?_ ?_ 4 0 0 st (by omega) ⟨rfl, rfl⟩⟩
  · rintro i hi s st' n ⟨rfl, rfl⟩ ih
    show P_X9_restingCount_5 36 (iN x) (iN y) post (n + 1) _ (iN i) st'
    unfold P_X9_restingCount_5
    refine ⟨fun hz => absurd hz (nle (a := 4) (by omega) hi), fun _ => ⟨⟨_, rfl⟩, s_rests hi h38 (fun hr => ⟨fun hz => absurd hz (by decide), fun _ => ?_⟩) (fun hr => ⟨fun _ => ?_, fun hz => absurd rfl hz⟩)⟩⟩
    · show P_X9_restingCount_5 36 (iN x) (iN y) post n _ (iN i + 1) st'
      rw [iN_s]
      exact ih _ _ ⟨rfl, by rw [rc_p hr]⟩
    · show P_X9_restingCount_5 36 (iN x) (iN y) post n _ (iN i + 1) st'
      rw [iN_s]
      exact ih _ _ ⟨rfl, by rw [rc_n hr]⟩
  · rintro s st' n ⟨rfl, rfl⟩
    show P_X9_restingCount_5 36 (iN x) (iN y) post (n + 1) _ (iN 4) st'
    unfold P_X9_restingCount_5
    exact ⟨fun _ => h, fun hz => absurd (Int32.le_refl _) hz⟩
theorem s_frC {st : St} {q : PD} {c : Nat → Int32} {x y b : Nat} (h38 : ∀ j, j < 4 → gA st 38 j = glF q c x y b j) {post : Int32 → St → Prop} (h : post (rcF q c x y b 4).2 st) : P_X9_firstResting 36 (iN x) (iN y) st post := by
  refine ⟨5, loop_up (α := Unit) (P := fun n i _ st => P_X9_firstResting_2 36 (iN x) (iN y) post n i st) (N := 4) (fun i _ st' => st' = st ∧ (rcF q c x y b i).2 = -1) ?_ ?_ 4 0 () st (by omega) ⟨rfl, rfl⟩⟩
  · rintro i hi _ st' n ⟨rfl, e⟩ ih
    obtain ⟨g1, g2, _⟩ := gix i hi
    have g9 := (gix2 i hi).2.2.2.2.2.2
    show P_X9_firstResting_2 36 (iN x) (iN y) post (n + 1) (iN i) st'
    unfold P_X9_firstResting_2
    refine ⟨fun hz => absurd hz (nle (a := 4) (by omega) hi), fun _ => ⟨⟨_, rfl⟩, s_rests hi h38 (fun hr => ⟨fun hz => absurd hz (by decide), fun _ => ?_⟩) (fun hr => ⟨fun _ => ?_, fun hz => absurd rfl hz⟩)⟩⟩
    · rw [g2, g1, g9]
      have e1 : (rcF q c x y b (i + 1)).2 = iN (10 * (i / 2) + i % 2) := by
        rw [rc_p hr]
        show (if _ then _ else _) = _
        rw [if_pos e]
      have e2 := rc_stay (q := q) (c := c) (x := x) (y := y) (b := b) (n := i + 1) (by rw [e1]; exact iN_ne_m1 (by omega)) (3 - i)
      rw [show i + 1 + (3 - i) = 4 by omega, e1] at e2
      rw [e2] at h
      exact h
    · rw [iN_s]
      exact ih () _ ⟨rfl, by rw [rc_n hr]; exact e⟩
  · rintro _ st' n ⟨rfl, e⟩
    show P_X9_firstResting_2 36 (iN x) (iN y) post (n + 1) (iN 4) st'
    unfold P_X9_firstResting_2
    rw [e] at h
    exact ⟨fun _ => h, fun hz => absurd (Int32.le_refl _) hz⟩
/-! the class plays -/
theorem s_chooseC {st0 st : St} {p : Nat} {q : PD} (Q : QFr st0 st) (D : DSt st 30 p q) {c : Nat → Int32} (A : AgC q.2.1 (gA st 31) c) {x t : Nat} (hx : x < 9) (ht : t < 2) {post : St → Prop} (h : ∀ st1, QFr st0 st1 → DSt st1 30 p q → AgC q.2.1 (gA st1 31) (chC c x t) → gA st1 38 = gA st 38 → post st1) : P_X9_choose 36 (iN x) (iN t) st post := by
  unfold chC at h
  refine ⟨fun hz => ⟨30, rfl, 30, rfl, ⟨_, rfl⟩, s_trainsOf isDa30 hx ⟨⟨_, rfl⟩, s_setTrains isDa30 hx ?_⟩⟩, fun hz => ⟨30, rfl, 30, rfl, ⟨_, rfl⟩, s_onionsOf isDa30 hx ⟨⟨_, rfl⟩, s_setOnions isDa30 hx ?_⟩⟩⟩
  · have t1 : t ≠ 0 := fun e => hz (by rw [e]; rfl)
    rw [ch301, A.lo (by omega)]
    obtain ⟨Q2, D2, A2⟩ := tr_up Q D A (2 + 4 * x + 1) (min9 (c (2 + 4 * x + 1) + 3))
    have K := h _ Q2 D2 (by rw [if_neg t1]; exact A2) (gA_sA_ne (by decide))
    exact K
  · have t0 : t = 0 := (iN_eq (b := 0) (by omega) (by decide)).mp hz
    rw [ch301, A.lo (by omega)]
    obtain ⟨Q2, D2, A2⟩ := tr_up Q D A (2 + 4 * x + 2) (min9 (c (2 + 4 * x + 2) + 3))
    have K := h _ Q2 D2 (by rw [if_pos t0]; exact A2) (gA_sA_ne (by decide))
    exact K
theorem chC_0 {c : Nat → Int32} {p t : Nat} : chC c p t 0 = c 0 := by
  unfold chC
  split
  · rw [upd_ne (by omega)]
  · rw [upd_ne (by omega)]
theorem CI_ch {q : PD} (hq : PDok q) {c : Nat → Int32} {p t : Nat} (hp : p < 9) (h : CI q c) : CI q (chC c p t) := by
  unfold chC
  split
  · exact CI_irr hq ⟨by omega, by omega⟩ h
  · exact CI_irr hq ⟨by omega, by omega⟩ h
theorem ex38 {st : St} (ht : ∃ pt, isPl pt ∧ gR st 30 0 = some pt) (j : Nat) (x : Int32) : QFr st (sA st 38 j x) := QFr.ex (Ex.sa (S := fun y => y = 38) rfl j x) (fun y z => by rw [z]; unfold ScC; decide) ht
set_option maxHeartbeats 1000000 in
theorem s_playAll {st : St} {v : AV} (H : InvC st v) (HO : AvOk v) {x y b : Nat} (hx : x < 9) (hy : y < 9) (hb : b < v.1.2.1) {post : St → Prop} (h : ∀ st1, QFr st st1 → (∀ j, j < 4 → gA st1 38 j = glF v.1 v.2.1.1 x y b j) → post st1) : P_X9_playAll 36 (iN x) (iN y) (iN b) st post := by
  obtain ⟨p, D⟩ := H.D
  have q2 := HO.1.2.1
  have hc := H.c
  obtain ⟨dd, hdd, ed⟩ := HO.2.2.1.1.2.2.1
  refine ⟨3, loop_up (α := Unit) (P := fun n i _ st => P_X9_playAll_3 36 (iN x) (iN y) (iN b) post n i st) (N := 2) (fun i _ st' => QFr st st' ∧ ∀ j, j < 2 * i → gA st' 38 j = glF v.1 v.2.1.1 x y b j) ?_ ?_ 2 0 () st (by omega) ⟨QFr.rf H.tp, fun j hj => by omega⟩⟩
  · rintro i hi _ st' n ⟨Q1, e1⟩ ih
    show P_X9_playAll_3 36 (iN x) (iN y) (iN b) post (n + 1) (iN i) st'
    unfold P_X9_playAll_3
    refine ⟨fun hz => absurd hz (nle (a := 2) (by omega) hi), fun _ => ⟨3, ?_⟩⟩
    refine loop_up (α := Unit) (P := fun n2 l _ st => P_X9_playAll_12 36 (iN x) (iN y) (iN b) (fun x4 st => P_X9_playAll_3 36 (iN x) (iN y) (iN b) post n x4 st) post n2 (iN i) l st) (N := 2) (fun l _ st2 => QFr st st2 ∧ ∀ j, j < 2 * i + l → gA st2 38 j = glF v.1 v.2.1.1 x y b j) ?_ ?_ 2 0 () st' (by omega) ⟨Q1, e1⟩
    · rintro l hl _ st2 n2 ⟨Q2, e2⟩ ih2
      show P_X9_playAll_12 36 (iN x) (iN y) (iN b) _ post (n2 + 1) (iN i) (iN l) st2
      unfold P_X9_playAll_12
      refine ⟨fun hz => absurd hz (nle (a := 2) (by omega) hl), fun _ => ⟨30, rfl, 3, rfl, ⟨_, rfl⟩, s_copyT (D.qfr Q2) (fun st3 Q3 D3 A3 n3 => ⟨⟨_, rfl⟩, ?_⟩)⟩⟩
      rw [Q2.e4, hc] at A3
      refine s_chooseC (Q2.tr Q3) D3 A3 hx hi (fun st4 Q4 D4 A4 f4 => ⟨⟨_, rfl⟩, s_chooseC Q4 D4 A4 hy hl (fun st5 Q5 D5 A5 f5 => ⟨⟨_, rfl⟩, s_foresee D5 HO.2.1 (d := dd) (by omega) (by rw [Q5.e4, hc]; exact ed) A5 (by rw [chC_0, chC_0]; exact ed) (fun st6 E6 Q6 D6 e6 => ⟨38, rfl, 30, rfl, ⟨_, rfl⟩, s_whoLedT (by omega) ?_⟩)⟩)⟩)
      have ei : (2 * iN i) + iN l = iN (2 * i + l) := by rw [iN_add, iN_mul]; rfl
      have g6 : gA st6 38 = gA st2 38 := by rw [E6.eA (by unfold SD ScV; decide), f5, f4, n3 38 (by decide)]
      rw [ei, iN_cl (by omega), e6 b hb, iN_s]
      refine ⟨by rw [al38]; exact iN_vp (by omega) (by decide), ih2 () _ ⟨(Q5.tr Q6).tr (ex38 D6.tp _ _), fun j hj => ?_⟩⟩
      rw [gA_sA, g6]
      by_cases e : j = 2 * i + l
      · subst e
        rw [upd_same]
        unfold glF
        rw [show (2 * i + l) / 2 = i by omega, show (2 * i + l) % 2 = l by omega]
      · rw [upd_ne e]; exact e2 j (by omega)
    · rintro _ st2 n2 ⟨Q2, e2⟩
      show P_X9_playAll_12 36 (iN x) (iN y) (iN b) _ post (n2 + 1) (iN i) (iN 2) st2
      unfold P_X9_playAll_12
      refine ⟨fun _ => ?_, fun hz => absurd (Int32.le_refl _) hz⟩
      rw [iN_s]
      exact ih () st2 ⟨Q2, fun j hj => e2 j (by omega)⟩
  · rintro _ st' n ⟨Q1, e1⟩
    show P_X9_playAll_3 36 (iN x) (iN y) (iN b) post (n + 1) (iN 2) st'
    unfold P_X9_playAll_3
    exact ⟨fun _ => h st' Q1 e1, fun hz => absurd (Int32.le_refl _) hz⟩
/-! the reference plays -/
def SWg (x : Nat) : Prop := SWt x ∨ x = 96 ∨ x = 97
theorem swg_sw : ∀ x, SWg x → SW x := by
  rintro x (z | rfl | rfl)
  · exact swt_sw x z
  · exact Or.inr (by unfold ScM; decide)
  · exact Or.inr (by unfold ScM; decide)
theorem swg_p : nMP SWg := by unfold nMP SWg SWt SMd isM; decide
theorem n97 : ¬ isM 97 := by unfold isM; decide
theorem s_chooseM {st : St} {nb : Nat} {C : Nat → Int32} (hm : mC nb st = C) {x t : Nat} (hx : x < 9) (ht : t < 2) {post : St → Prop} (h : ∀ st1, Fx IMd isM st st1 → mC nb st1 = chC C x t → post st1) : P_X12_choose 58 (iN x) (iN t) st post := by
  have vx : ∀ y, al 0 y = 9 → vp_in (iN x) (al 0 y) := fun y e => vi9 hx (Nat.le_refl _) e
  unfold chC at h
  unfold P_X12_choose
  rw [iN_cl (by omega)]
  refine ⟨fun hz => ⟨75, rfl, 75, rfl, vx 75 rfl, vx 75 rfl, h _ (Fx.sa ⟨by decide, by decide⟩ _ _) ?_⟩, fun hz => ⟨74, rfl, 74, rfl, vx 74 rfl, vx 74 rfl, h _ (Fx.sa ⟨by decide, by decide⟩ _ _) ?_⟩⟩
  · have t0 : t = 0 := by
      have : t ≠ 1 := fun e => hz (by rw [e]; rfl)
      omega
    have e : gA st 75 x = C (2 + 4 * x + 2) := by rw [← hm]; exact (rC_o hx).symm
    rw [if_pos t0, mC_so hx, hm, e]; rfl
  · have t1 : t = 1 := (iN_eq (b := 1) (by omega) (by decide)).mp hz
    have e : gA st 74 x = C (2 + 4 * x + 1) := by rw [← hm]; exact (rC_t hx).symm
    rw [if_neg (show ¬ t = 0 by omega), mC_st hx, hm, e]; rfl
theorem al96 : al 0 96 = 8 := rfl
theorem h1_iff : ∀ t, t < 2 → (iN t = 1 ↔ ¬ iN t = 0) := by decide
set_option maxHeartbeats 2000000 in
theorem s_tellGains {st : St} {q : PD} (M : MPl st q) {C : Nat → Int32} (hm : mC q.2.1 st = C) (hC : CI q C) {x y b : Nat} (hx : x < 9) (hy : y < 9) (hb : b < q.2.1) {post : St → Prop} (h : ∀ st1, Fx IMd SWg st st1 → mC q.2.1 st1 = C → (∀ k, k < 4 → gA st1 96 (2 * k) = gx q C x y b k ∧ gA st1 96 (2 * k + 1) = gy q C x y b k) → post st1) : P_X12_tellGains 58 (iN x) (iN y) (iN b) st post := by
  have q2 := M.nb
  refine ⟨97, rfl, ⟨_, rfl⟩, s_packT rfl n97 (fun s1 E1 H1 => ?_)⟩
  have e1 : mC q.2.1 s1 = C := (mC_pk n97 E1 _).trans hm
  refine ⟨5, loop_up (α := Unit) (P := fun n i _ st => P_X12_tellGains_12 58 (iN x) (iN y) (iN b) post n i st) (N := 4) (fun i _ st' => Fx IMd SWg st st' ∧ mC q.2.1 st' = C ∧ gA st' 97 = gA s1 97 ∧ ∀ k, k < i → gA st' 96 (2 * k) = gx q C x y b k ∧ gA st' 96 (2 * k + 1) = gy q C x y b k) ?_ ?_ 4 0 () s1 (by omega) ⟨E1.fw (fun x z => Or.inr (Or.inr z)), e1, rfl, fun k hk => absurd hk (Nat.not_lt_zero _)⟩⟩
  · rintro i hi _ st' n ⟨F2, e2, r2, g2⟩ ih
    obtain ⟨d1, d2, _⟩ := gix i hi
    obtain ⟨_, _, _, _, d5, d6, _⟩ := gix2 i hi
    show P_X12_tellGains_12 58 (iN x) (iN y) (iN b) post (n + 1) (iN i) st'
    unfold P_X12_tellGains_12
    rw [d2, d1]
    refine ⟨fun hz => absurd hz (nle (a := 4) (by omega) hi), fun _ => ⟨⟨_, rfl⟩, s_chooseM e2 hx d5 (fun s3 F3 e3 => ⟨⟨_, rfl⟩, s_chooseM e3 hy d6 (fun s4 F4 e4 => ⟨⟨_, rfl⟩, ?_⟩)⟩)⟩⟩
    have w : ∀ {a c : St}, Fx IMd isM a c → Fx IMd SWg a c := fun F => F.wk (fun _ _ z => z) (fun _ z => Or.inl (Or.inl (Or.inl z)))
    have F24 := (F2.tr (w F3)).tr (w F4)
    refine s_leaderOf (M.fx F24 swg_p) (by rw [e4]; exact CI_ch M.ok hy (CI_ch M.ok hx hC)) hb (fun s5 F5 e5 => ⟨96, rfl, ?_⟩)
    rw [e4]
    have el : ldF q (chC (chC C x (i / 2)) y (i % 2)) b = glF q C x y b i := rfl
    rw [el]
    have ei : (2 : Int32) * iN i = iN (2 * i) := by rw [iN_mul]; rfl
    have ei1 : (2 : Int32) * iN i + 1 = iN (2 * i + 1) := by rw [ei, iN_s]
    have F25 : Fx IMd SWg st s5 := F24.tr (F5.wk (fun _ _ z => z) (fun _ z => Or.inl z))
    have r5 : gA s5 97 = gA s1 97 := by rw [F5.eA (by unfold SWt SMd isM; decide), F4.eA n97, F3.eA n97, r2]
    have g5 : gA s5 96 = gA st' 96 := by rw [F5.eA (by unfold SWt SMd isM; decide), F4.eA (by unfold isM; decide), F3.eA (by unfold isM; decide)]
    have v96 : ∀ j, j < 8 → vp_in (iN j) (al 0 96) := fun j hj => by rw [al96]; exact iN_vp hj (by decide)
    -- the second gain, then back
    have B : ∀ (z w1 w0 : Int32) (s6 : St), s6 = sA s5 96 (2 * i) z → z = gx q C x y b i → w1 + w0 = gy q C x y b i → P_X12_tellGains_115 58 (iN x) (iN y) (iN b) (fun x4 st => P_X12_tellGains_12 58 (iN x) (iN y) (iN b) post n x4 st) post (iN i) w0 w1 ((2 * iN i) + 1) 96 s6 := by
      intro z w1 w0 s6 es6 ez ew
      unfold P_X12_tellGains_115
      rw [ei1, iN_cl (by omega), ew]
      refine ⟨v96 _ (by omega), 97, rfl, ⟨_, rfl⟩, s_unpackT rfl n97 (fun s7 F7 H7 => ?_)⟩
      rw [iN_s]
      have q7 : ∀ {a : St} (j : Nat) (u : Int32), Fx IMd SWg a (sA a 96 j u) := fun j u => Fx.sa (Or.inr (Or.inl rfl)) j u
      have r7 : gA (sA s6 96 (2 * i + 1) (gy q C x y b i)) 97 = gA s1 97 := by rw [gA_sA_ne (by decide), es6, gA_sA_ne (by decide), r5]
      refine ih () s7 ⟨?_, ?_, ?_, fun k hk => ?_⟩
      · rw [es6] at F7
        exact ((F25.tr (q7 _ _)).tr (q7 _ _)).tr (w F7)
      · rw [← H7.row, r7, H1.row]; exact hm
      · rw [F7.eA n97, r7]
      · rw [F7.eA (by unfold isM; decide), gA_sA, es6, gA_sA, g5]
        by_cases e : k = i
        · subst e
          rw [upd_same, upd_ne (by omega), upd_same]
          exact ⟨ez, rfl⟩
        · rw [upd_ne (by omega), upd_ne (by omega), upd_ne (by omega), upd_ne (by omega)]
          exact g2 k (by omega)
    have B2 : ∀ (z : Int32) (s6 : St), s6 = sA s5 96 (2 * i) z → z = gx q C x y b i → ∀ w1 : Int32, w1 = (if glF q C x y b i = iN y then 10 else 0) → P_X12_tellGains_101 58 (iN x) (iN y) (iN b) (fun x4 st => P_X12_tellGains_12 58 (iN x) (iN y) (iN b) post n x4 st) post (iN i) w1 ((2 * iN i) + 1) 96 s6 := by
      intro z s6 es6 ez w1 ew1
      unfold P_X12_tellGains_101
      rw [d2]
      refine ⟨fun hz => B z w1 1 s6 es6 ez ?_, fun hz => B z w1 (-2) s6 es6 ez ?_⟩
      · unfold gy gn
        rw [ew1, if_pos (Classical.byContradiction (fun hn => hz ((h1_iff _ d6).mpr hn)))]
      · unfold gy gn
        rw [ew1, if_neg ((h1_iff _ d6).mp hz)]
    have B3 : ∀ (w1 w0 : Int32), w1 + w0 = gx q C x y b i → P_X12_tellGains_77 58 (iN x) (iN y) (iN b) (fun x4 st => P_X12_tellGains_12 58 (iN x) (iN y) (iN b) post n x4 st) post (iN i) (glF q C x y b i) w0 w1 (2 * iN i) 96 s5 := by
      intro w1 w0 ew
      unfold P_X12_tellGains_77
      rw [ei, iN_cl (by omega), ew]
      refine ⟨v96 _ (by omega), 96, rfl, fun hz => ?_, fun hz => ?_⟩
      · rw [← ei]
        exact B2 _ _ rfl rfl 0 (by rw [if_neg hz])
      · rw [← ei]
        exact B2 _ _ rfl rfl 10 (by rw [if_pos hz])
    have B4 : ∀ w1 : Int32, w1 = (if glF q C x y b i = iN x then 10 else 0) → P_X12_tellGains_63 58 (iN x) (iN y) (iN b) (fun x4 st => P_X12_tellGains_12 58 (iN x) (iN y) (iN b) post n x4 st) post (iN i) (glF q C x y b i) w1 (2 * iN i) 96 s5 := by
      intro w1 ew1
      unfold P_X12_tellGains_63
      rw [d1]
      refine ⟨fun hz => B3 w1 1 ?_, fun hz => B3 w1 (-2) ?_⟩
      · unfold gx gn
        rw [ew1, if_pos (Classical.byContradiction (fun hn => hz ((h1_iff _ d5).mpr hn)))]
      · unfold gx gn
        rw [ew1, if_neg ((h1_iff _ d5).mp hz)]
    exact ⟨fun hz => B4 0 (by rw [if_neg hz]), fun hz => B4 10 (by rw [if_pos hz])⟩
  · rintro _ st' n ⟨F2, e2, r2, g2⟩
    show P_X12_tellGains_12 58 (iN x) (iN y) (iN b) post (n + 1) (iN 4) st'
    unfold P_X12_tellGains_12
    exact ⟨fun _ => h st' F2 e2 g2, fun hz => absurd (Int32.le_refl _) hz⟩
theorem s_rcM {st : St} {q : PD} {C : Nat → Int32} {x y b : Nat} (g : ∀ k, k < 4 → gA st 96 (2 * k) = gx q C x y b k ∧ gA st 96 (2 * k + 1) = gy q C x y b k) {a1 a2 a3 a4 : Int32} {post : Int32 → St → Prop} (h : post (if a4 = 0 then (rcF q C x y b 4).1 else (rcF q C x y b 4).2) st) : ∃ n8, P_X12_game_110 58 a1 a2 a3 a4 post n8 0 (-1) 0 st := by
  have v96 : ∀ j, j < 8 → vp_in (iN j) (al 0 96) := fun j hj => by rw [al96]; exact iN_vp hj (by decide)
  refine ⟨5, loop_up (α := Int32 × Int32) (P := fun n i s st => P_X12_game_110 58 a1 a2 a3 a4 post n s.1 s.2 i st) (N := 4) (fun i s st' => st' = st ∧ s = rcF q C x y b i) ?_ ?_ 4 0 (0, -1) st (by omega) ⟨rfl, rfl⟩⟩
  · rintro i hi s st' n ⟨rfl, rfl⟩ ih
    obtain ⟨d1, d2, _⟩ := gix i hi
    obtain ⟨j1, j2, j3, j4, _, _, j7⟩ := gix2 i hi
    have m2 : ∀ k, (2 : Int32) * iN k = iN (2 * k) := fun k => by rw [iN_mul]; rfl
    have skip : ¬ rsB q C x y b i → P_X12_game_110 58 a1 a2 a3 a4 post n (rcF q C x y b i).1 (rcF q C x y b i).2 (iN i + 1) st' := fun hn => by
      rw [iN_s]
      exact ih _ _ ⟨rfl, by rw [rc_n hn]⟩
    show P_X12_game_110 58 a1 a2 a3 a4 post (n + 1) _ _ (iN i) st'
    unfold P_X12_game_110
    rw [j3, j4, m2, m2, m2, iN_s, iN_s, iN_cl (by omega), iN_cl (by omega), iN_cl (by omega), iN_cl (by omega), d2, d1, j7]
    refine ⟨fun hz => absurd hz (nle (a := 4) (by omega) hi), fun _ => ⟨96, rfl, v96 _ (by omega), 96, rfl, v96 _ (by omega), ?_⟩⟩
    rw [(g i hi).1, (g _ j1).1]
    refine ⟨fun h1 => skip (fun e => e.1 h1), fun h1 => ⟨96, rfl, v96 _ (by omega), 96, rfl, v96 _ (by omega), ?_⟩⟩
    rw [(g i hi).2, (g _ j2).2]
    refine ⟨fun h2 => ?_, fun h2 => skip (fun e => e.2 (Int32.not_le.mp h2))⟩
    have hr : rsB q C x y b i := ⟨h1, Int32.not_lt.mpr h2⟩
    have hp := rc_p hr
    refine ⟨fun h3 => ?_, fun h3 => ?_⟩
    · show P_X12_game_110 58 a1 a2 a3 a4 post n ((rcF q C x y b i).1 + 1) (rcF q C x y b i).2 (iN i + 1) st'
      rw [iN_s (n := i)]
      exact ih ((rcF q C x y b i).1 + 1, (rcF q C x y b i).2) _ ⟨rfl, by rw [hp, if_neg h3]⟩
    · show P_X12_game_110 58 a1 a2 a3 a4 post n ((rcF q C x y b i).1 + 1) (iN (10 * (i / 2) + i % 2)) (iN i + 1) st'
      rw [iN_s (n := i)]
      exact ih ((rcF q C x y b i).1 + 1, iN (10 * (i / 2) + i % 2)) _ ⟨rfl, by rw [hp, if_pos h3]⟩
  · rintro s st' n ⟨rfl, rfl⟩
    show P_X12_game_110 58 a1 a2 a3 a4 post (n + 1) _ _ (iN 4) st'
    unfold P_X12_game_110
    refine ⟨fun _ => ⟨fun h1 => ?_, fun h1 => ?_⟩, fun hz => absurd (Int32.le_refl _) hz⟩
    · rw [if_neg h1] at h; exact h
    · rw [if_pos h1] at h; exact h
theorem c_game {a b d w : Int32} {st : St} (hI : Inv st) : P_L_game a b d w st (fun k st1 => Bth (P_X12_game 58 a b d w) k st1) := by
  obtain ⟨v, H, HM, HO⟩ := hI
  obtain ⟨p, D⟩ := H.D
  have q1 := HO.1.1
  have q2 := HO.1.2.1
  have hc := H.c
  have hC := HO.2.2.1.1.1
  by_cases ha : isI v.1.1 a
  · obtain ⟨x, hx, rfl⟩ := ha
    by_cases hb : isI v.1.1 b
    · obtain ⟨y, hy, rfl⟩ := hb
      by_cases hd : isI v.1.2.1 d
      · obtain ⟨z, hz, rfl⟩ := hd
        by_cases hw : isI 2 w
        · obtain ⟨u, hu, rfl⟩ := hw
          have hhome := (hC.2.2 z hz).1
          have nx := hC.1 x hx z hz
          have ny := hC.1 y hy z hz
          have ge0 : ∀ s : St, InvM s v → gA (sI s 58 4 0) 80 (iN (6 * x + z)).toNatClampNeg = v.2.1.1 (56 + 6 * x + z) ∧ gA (sI s 58 4 0) 80 (iN (6 * y + z)).toNatClampNeg = v.2.1.1 (56 + 6 * y + z) ∧ gA (sI s 58 4 0) 78 (iN z).toNatClampNeg = v.2.1.1 (38 + 3 * z + 1) := fun s I0 => by
            have eC := (m_beg I0).1.c
            rw [iN_cl (by omega), iN_cl (by omega), iN_cl (by omega), ← eC]
            exact ⟨(rC_t2 (by omega) (by omega)).symm, (rC_t2 (by omega) (by omega)).symm, (rC_h (by omega)).symm⟩
          have v80 : ∀ r, r < 9 → vp_in (iN (6 * r + z)) (al 0 80) := fun r hr => by rw [al80]; exact iN_vp (by omega) (by decide)
          have w1 : iN u ≤ 1 := (iN_le (b := 1) (by omega) (by decide)).mpr (by omega)
          have w0 : ¬ iN u < 0 := fun hz => by rw [lt0, iN_toInt (by omega)] at hz; omega
          by_cases hok : x ≠ y ∧ 0 < v.2.1.1 (56 + 6 * x + z) ∧ 0 < v.2.1.1 (56 + 6 * y + z) ∧ v.2.1.1 (38 + 3 * z + 1) = 1
          · obtain ⟨o1, o2, o3, o4⟩ := hok
            have o1i : ¬ iN x = iN y := fun e => o1 ((iN_eq (by omega) (by omega)).mp e)
            refine h_ok (PC := fun post pex => P_X11_game 0 (iN x) (iN y) (iN z) (iN u) st post pex) (PM := P_X12_game 58 (iN x) (iN y) (iN z) (iN u)) (v2 := v) (r := if iN u = 0 then (rcF v.1 v.2.1.1 x y z 4).1 else (rcF v.1 v.2.1.1 x y z 4).2) HM HO (fun post h => ?_) (fun s1 post I0 h => ?_)
            · refine ⟨tb_out, s_needP D hx ⟨tb_out, s_needP D hy ⟨tb_out, s_needB D hz ⟨tb_out, s_needW (l := 1) (by decide) hu ⟨tb_out, 3, rfl, ⟨_, rfl⟩, s_yearsOf D.hd (by omega) (by omega) ?_⟩⟩⟩⟩⟩
              rw [ch31, hc]
              refine ⟨fun hn => absurd o2 (Int32.not_lt.mpr hn), fun _ => ⟨3, rfl, ⟨_, rfl⟩, s_yearsOf D.hd (by omega) (by omega) ?_⟩⟩
              rw [ch31, hc]
              refine ⟨fun hn => absurd o3 (Int32.not_lt.mpr hn), fun _ => ⟨fun hn => absurd hn o1i, fun _ => ⟨fun hn => absurd hn (by decide), fun _ => ⟨3, rfl, ⟨_, rfl⟩, s_isHome D.hd (by omega) ?_⟩⟩⟩⟩
              rw [ch31, hc, if_pos o4]
              refine ⟨fun _ => ⟨36, rfl, ⟨_, rfl⟩, s_playAll H HO (by omega) (by omega) hz (fun st1 Q1 e38 => ?_)⟩, fun hn => absurd hn (by decide)⟩
              have K := h st1 Q1.cfr (H.qfr Q1)
              refine ⟨fun h1 => ⟨36, rfl, ⟨_, rfl⟩, s_frC e38 ?_⟩, fun h1 => ⟨36, rfl, ⟨_, rfl⟩, s_rcC e38 ?_⟩⟩
              · rw [if_neg h1] at K; exact K
              · rw [if_pos h1] at K; exact K
            · have I1 := (m_beg I0).1
              have eC := I1.c
              obtain ⟨e1, e2, e3⟩ := ge0 s1 I0
              refine ⟨rfl, ⟨_, rfl⟩, s_isP I1.1 hx ⟨fun hn => absurd hn (by decide), fun _ => ⟨⟨_, rfl⟩, s_isP I1.1 hy ⟨fun hn => absurd hn (by decide), fun _ => ⟨⟨_, rfl⟩, s_isB I1.1 hz ⟨fun hn => absurd hn (by decide), fun _ => ⟨fun hn => absurd hn w0, fun _ => ⟨fun _ => ⟨fun hn => absurd hn o1i, fun _ => ⟨80, rfl, ?_⟩⟩, fun hn => absurd w1 hn⟩⟩⟩⟩⟩⟩⟩⟩
              rw [x_m, x_m, e1]
              refine ⟨v80 x (by omega), fun hn => absurd hn (pos_ne o2), fun _ => ⟨80, rfl, v80 y (by omega), ?_⟩⟩
              rw [e2]
              refine ⟨fun hn => absurd hn (pos_ne o3), fun _ => ⟨78, rfl, vi6 hz q2 rfl, ?_⟩⟩
              rw [e3, o4]
              refine ⟨fun _ => ⟨⟨_, rfl⟩, s_tellGains I1.1 eC hC (by omega) (by omega) hz (fun s3 F3 m3 g3 => s_rcM g3 ?_)⟩, fun hn => absurd hn (by decide)⟩
              obtain ⟨k1, k2, k3⟩ := m_q I0 F3 swg_sw (m3.trans eC.symm)
              exact h s3 k1 k2 k3
          · refine h_thr (PC := fun post pex => P_X11_game 0 (iN x) (iN y) (iN z) (iN u) st post pex) (PM := P_X12_game 58 (iN x) (iN y) (iN z) (iN u)) (X := IAE) (k := 2) (by decide) H HM HO (fun pex h => ?_) (fun s1 post I0 h => ?_) (fun h => Or.inr ⟨rfl, h⟩)
            · refine ⟨tb_out, s_needP D hx ⟨tb_out, s_needP D hy ⟨tb_out, s_needB D hz ⟨tb_out, s_needW (l := 1) (by decide) hu ⟨tb_out, 3, rfl, ⟨_, rfl⟩, s_yearsOf D.hd (by omega) (by omega) ?_⟩⟩⟩⟩⟩
              rw [ch31, hc]
              refine ⟨fun _ => ⟨fun _ => h, fun _ => ⟨fun _ => h, fun hn => absurd rfl hn⟩⟩, fun g1 => ⟨3, rfl, ⟨_, rfl⟩, s_yearsOf D.hd (by omega) (by omega) ?_⟩⟩
              rw [ch31, hc]
              refine ⟨fun _ => ⟨fun _ => h, fun _ => ⟨fun _ => h, fun hn => absurd rfl hn⟩⟩, fun g2 => ⟨fun _ => h, fun g3 => ⟨fun _ => h, fun _ => ⟨3, rfl, ⟨_, rfl⟩, s_isHome D.hd (by omega) ?_⟩⟩⟩⟩
              rw [ch31, hc]
              refine ⟨fun g4 => absurd ⟨fun e => g3 (by rw [e]), Int32.not_le.mp g1, Int32.not_le.mp g2, ite2 g4⟩ hok, fun _ => h⟩
            · have I1 := (m_beg I0).1
              obtain ⟨e1, e2, e3⟩ := ge0 s1 I0
              have R : P_X12_game_88 58 (iN x) (iN y) (iN z) (iN u) post (sI s1 58 4 0) := ⟨⟨_, rfl⟩, m_fail I0 h⟩
              refine ⟨rfl, ⟨_, rfl⟩, s_isP I1.1 hx ⟨fun hn => absurd hn (by decide), fun _ => ⟨⟨_, rfl⟩, s_isP I1.1 hy ⟨fun hn => absurd hn (by decide), fun _ => ⟨⟨_, rfl⟩, s_isB I1.1 hz ⟨fun hn => absurd hn (by decide), fun _ => ⟨fun hn => absurd hn w0, fun _ => ⟨fun _ => ⟨fun _ => R, fun g3 => ⟨80, rfl, ?_⟩⟩, fun hn => absurd w1 hn⟩⟩⟩⟩⟩⟩⟩⟩
              rw [x_m, x_m, e1]
              refine ⟨v80 x (by omega), fun _ => R, fun g1 => ⟨80, rfl, v80 y (by omega), ?_⟩⟩
              rw [e2]
              refine ⟨fun _ => R, fun g2 => ⟨78, rfl, vi6 hz q2 rfl, ?_⟩⟩
              rw [e3]
              refine ⟨fun g4 => absurd ⟨fun e => g3 (by rw [e]), Int32.lt_iff_le_and_ne.mpr ⟨nx, Ne.symm g1⟩, Int32.lt_iff_le_and_ne.mpr ⟨ny, Ne.symm g2⟩, hhome.resolve_left g4⟩ hok, fun _ => R⟩
        · refine h_thr (PC := fun post pex => P_X11_game 0 (iN x) (iN y) (iN z) w st post pex) (PM := P_X12_game 58 (iN x) (iN y) (iN z) w) (X := NSE) (k := 1) (by decide) H HM HO (fun pex h => ⟨tb_out, s_needP D hx ⟨tb_out, s_needP D hy ⟨tb_out, s_needB D hz ⟨tb_out, s_needW0 (l := 1) (by decide) hw h⟩⟩⟩⟩) (fun s1 post I0 h => ?_) (fun h => Or.inl ⟨rfl, h⟩)
          have R : P_X12_game_40 58 (iN x) (iN y) (iN z) w post (sI s1 58 4 0) := ⟨⟨_, rfl⟩, m_fail I0 h⟩
          refine ⟨rfl, ⟨_, rfl⟩, s_isP (m_beg I0).1.1 hx ⟨fun hn => absurd hn (by decide), fun _ => ⟨⟨_, rfl⟩, s_isP (m_beg I0).1.1 hy ⟨fun hn => absurd hn (by decide), fun _ => ⟨⟨_, rfl⟩, s_isB (m_beg I0).1.1 hz ⟨fun hn => absurd hn (by decide), fun _ => ⟨fun _ => R, fun h0 => ⟨fun h1 => absurd ?_ hw, fun _ => R⟩⟩⟩⟩⟩⟩⟩⟩
          rw [isI_iff (by omega)]
          rw [lt0] at h0
          have h1 := (le_iN (n := 1) (by decide)).mp h1
          omega
      · refine h_thr (PC := fun post pex => P_X11_game 0 (iN x) (iN y) d w st post pex) (PM := P_X12_game 58 (iN x) (iN y) d w) (X := NSE) (k := 1) (by decide) H HM HO (fun pex h => ⟨tb_out, s_needP D hx ⟨tb_out, s_needP D hy ⟨tb_out, s_needB0 D hd h⟩⟩⟩) (fun s1 post I0 h => ?_) (fun h => Or.inl ⟨rfl, h⟩)
        exact ⟨rfl, ⟨_, rfl⟩, s_isP (m_beg I0).1.1 hx ⟨fun hn => absurd hn (by decide), fun _ => ⟨⟨_, rfl⟩, s_isP (m_beg I0).1.1 hy ⟨fun hn => absurd hn (by decide), fun _ => ⟨⟨_, rfl⟩, s_isB0 (m_beg I0).1.1 hd ⟨fun _ => ⟨⟨_, rfl⟩, m_fail I0 h⟩, fun hz => absurd rfl hz⟩⟩⟩⟩⟩⟩
    · refine h_thr (PC := fun post pex => P_X11_game 0 (iN x) b d w st post pex) (PM := P_X12_game 58 (iN x) b d w) (X := NSE) (k := 1) (by decide) H HM HO (fun pex h => ⟨tb_out, s_needP D hx ⟨tb_out, s_needP0 D hb h⟩⟩) (fun s1 post I0 h => ?_) (fun h => Or.inl ⟨rfl, h⟩)
      exact ⟨rfl, ⟨_, rfl⟩, s_isP (m_beg I0).1.1 hx ⟨fun hn => absurd hn (by decide), fun _ => ⟨⟨_, rfl⟩, s_isP0 (m_beg I0).1.1 hb ⟨fun _ => ⟨⟨_, rfl⟩, m_fail I0 h⟩, fun hz => absurd rfl hz⟩⟩⟩⟩
  · refine h_thr (PC := fun post pex => P_X11_game 0 a b d w st post pex) (PM := P_X12_game 58 a b d w) (X := NSE) (k := 1) (by decide) H HM HO (fun pex h => ⟨tb_out, s_needP0 D ha h⟩) (fun s1 post I0 h => ?_) (fun h => Or.inl ⟨rfl, h⟩)
    exact ⟨rfl, ⟨_, rfl⟩, s_isP0 (m_beg I0).1.1 ha ⟨fun _ => ⟨⟨_, rfl⟩, m_fail I0 h⟩, fun hz => absurd rfl hz⟩⟩
