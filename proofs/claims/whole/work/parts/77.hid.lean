/-! PURE: hidden: what the scales told -/
def mr (q : PD) (c e : Nat → Int32) : Int32 := if weighF q c (e 3).toNatClampNeg (e 0).toNatClampNeg < weighF q c (e 2).toNatClampNeg (e 0).toNatClampNeg then 1 else 0
def hAll (q : PD) (c : Nat → Int32) (E : Nat → Nat → Int32) (n d : Nat) : Prop := ∀ i, i < n → E i 1 = iN d → mr q c (E i) = E i 4
def SeenA (q : PD) (c : Nat → Int32) (E : Nat → Nat → Int32) (n : Nat) : Prop := ∀ d, d ≤ 20 → hAll q (itC q c d) E n d
def SeT (A : Nat → Nat → Int32) (z : Int32) (q : PD) (n : Nat) (E : Nat → Nat → Int32) : Prop := z = iN n ∧ n ≤ 8 ∧ ∀ i, i < n → (∀ k, k < 5 → A k i = E i k) ∧ SeOk q (E i)
def SeC (st : St) (q : PD) (n : Nat) (E : Nat → Nat → Int32) : Prop := SeT (fun k => gA st (10 + k)) (gI st 9 5) q n E
theorem SeC.cg {a b : St} {q : PD} {n : Nat} {E : Nat → Nat → Int32} (h5 : gI b 9 5 = gI a 9 5) (hA : ∀ k, k < 5 → gA b (10 + k) = gA a (10 + k)) (S : SeC a q n E) : SeC b q n E := by
  obtain ⟨s1, s2, s3⟩ := S
  exact ⟨h5.trans s1, s2, fun i hi => ⟨fun k hk => (congrFun (hA k hk) i).trans ((s3 i hi).1 k hk), (s3 i hi).2⟩⟩
theorem SeC.qfr {a b : St} {q : PD} {n : Nat} {E : Nat → Nat → Int32} (Q : QFr a b) (S : SeC a q n E) : SeC b q n E := S.cg (Q.1 9 5 (by decide) (by decide) (by decide)) (fun k hk => Q.2.2.2 _ (by unfold ScC; omega))
theorem mr_ag {q : PD} (hq : PDok q) {c c2 : Nat → Int32} (h : AgC q.2.1 c c2) {e : Nat → Int32} (hS : SeOk q e) : mr q c e = mr q c2 e := by
  obtain ⟨⟨b, hb, e0⟩, _, ⟨x, hx, e2⟩, ⟨y, hy, e3⟩, _⟩ := hS
  have q1 := hq.1
  have q2 := hq.2.1
  unfold mr
  rw [e0, e2, e3, iN_cl (by omega), iN_cl (by omega), iN_cl (by omega), weighF_ag q1 h q2 (by omega) hb, weighF_ag q1 h q2 (by omega) hb]
theorem scv30_sc : ∀ x, ScV 30 x → ScC x := fun x z => sd30_sc x (sd_v z)
theorem sc10 {k : Nat} (hk : k < 5) : ¬ ScV 30 (10 + k) := by
  have h : k = 0 ∨ k = 1 ∨ k = 2 ∨ k = 3 ∨ k = 4 := by omega
  rcases h with rfl | rfl | rfl | rfl | rfl <;> unfold ScV <;> decide
theorem s_isMore {st : St} {p i : Nat} {q : PD} (D : DSt st 30 p q) (hi : i < 8) {e : Nat → Int32} (hE : ∀ k, k < 5 → gA st (10 + k) i = e k) (hS : SeOk q e) {post : Int32 → St → Prop} (h : ∀ st2, Ex (ScV 30) st st2 → post (mr q (gA st 31) e) st2) : P_X7_isMore 9 30 (iN i) st post := by
  have q1 := D.ok.1
  have q2 := D.ok.2.1
  obtain ⟨⟨b, hb, e0⟩, _, ⟨x, hx, e2⟩, ⟨y, hy, e3⟩, _⟩ := hS
  have v : vp_in (iN i) 8 := iN_vp hi (by decide)
  have g0 : gA st 10 i = iN b := (hE 0 (by decide)).trans e0
  have g2 : gA st 12 i = iN x := (hE 2 (by decide)).trans e2
  have g3 : gA st 13 i = iN y := (hE 3 (by decide)).trans e3
  refine ⟨12, rfl, v, 10, rfl, v, ⟨_, rfl⟩, ?_⟩
  rw [iN_cl (by omega), g0, g2]
  refine s_weigh D (by omega) (by omega) (fun st2 E2 => ⟨13, rfl, v, 10, rfl, v, ⟨_, rfl⟩, ?_⟩)
  rw [E2.eA (show ¬ ScV 30 13 from sc10 (k := 3) (by decide)), E2.eA (show ¬ ScV 30 10 from sc10 (k := 0) (by decide)), g0, g3]
  have D2 := D.ex (npl_scv isDa30) E2
  refine s_weigh D2 (by omega) (by omega) (fun st3 E3 => ?_)
  have e31 : gA st2 (ch 30 1) = gA st 31 := E2.eA (scv_c isDa30 isDa30)
  have K := h st3 (E2.tr E3)
  unfold mr at K
  rw [e0, e2, e3, iN_cl (by omega), iN_cl (by omega), iN_cl (by omega)] at K
  rw [e31, ch301]
  refine ⟨fun hz => ⟨Or.inl rfl, ?_⟩, fun hz => ⟨Or.inr rfl, ?_⟩⟩
  · rw [if_neg (Int32.not_lt.mpr hz)] at K; exact K
  · rw [if_pos (Int32.not_le.mp hz)] at K; exact K
theorem s_holdsIn {st : St} {p : Nat} {q : PD} (D : DSt st 30 p q) {n : Nat} {E : Nat → Nat → Int32} (S : SeC st q n E) {d : Nat} (hd : d < 1000) {post : Int32 → St → Prop} (h1 : ∀ st2, Ex (ScV 30) st st2 → hAll q (gA st 31) E n d → post 1 st2) (h0 : ∀ st2, Ex (ScV 30) st st2 → ¬ hAll q (gA st 31) E n d → post 0 st2) : P_X7_holdsIn 9 30 (iN d) st post := by
  have n8 := S.2.1
  refine ⟨n + 1, loop_up (α := Unit) (P := fun m i _ st => P_X7_holdsIn_2 9 30 (iN d) post m i st) (N := n) (fun i _ st' => Ex (ScV 30) st st' ∧ hAll q (gA st 31) E i d) ?_ ?_ n 0 () st (by omega) ⟨Ex.rf, fun i hi => absurd hi (Nat.not_lt_zero _)⟩⟩
  · rintro i hi _ st' m ⟨E1, r⟩ ih
    have S1 : SeC st' q n E := S.cg (E1.eI _ _) (fun k hk => E1.eA (sc10 hk))
    have D1 := D.ex (npl_scv isDa30) E1
    have v : vp_in (iN i) 8 := iN_vp (by omega) (by decide)
    have e31 : gA st' 31 = gA st 31 := E1.eA (scv_c isDa30 isDa30)
    obtain ⟨r1, r2⟩ := S1.2.2 i hi
    have g1 : gA st' 11 i = E i 1 := r1 1 (by decide)
    have g4 : gA st' 14 i = E i 4 := r1 4 (by decide)
    show P_X7_holdsIn_2 9 30 (iN d) post (m + 1) (iN i) st'
    unfold P_X7_holdsIn_2
    refine ⟨rfl, fun hz => ?_, fun _ => ⟨11, rfl, v, ?_⟩⟩
    · rw [S1.1] at hz; exact absurd hz (nle (by omega) hi)
    rw [iN_cl (by omega), g1]
    refine ⟨fun hz => ?_, fun hz => ⟨14, rfl, v, ⟨_, rfl⟩, s_isMore D1 (by omega) r1 r2 (fun st2 E2 => ?_)⟩⟩
    · show P_X7_holdsIn_2 9 30 (iN d) post m (iN i + 1) st'
      rw [iN_s]
      refine ih () st' ⟨E1, fun j hj e => ?_⟩
      by_cases ej : j = i
      · rw [ej] at e; exact absurd e hz
      · exact r j (by omega) e
    · rw [g4, e31]
      refine ⟨fun hm => ?_, fun hm => h0 st2 (E1.tr E2) (fun hA => hm (hA i hi hz).symm)⟩
      show P_X7_holdsIn_2 9 30 (iN d) post m (iN i + 1) st2
      rw [iN_s]
      refine ih () st2 ⟨E1.tr E2, fun j hj e => ?_⟩
      by_cases ej : j = i
      · rw [ej]; exact hm.symm
      · exact r j (by omega) e
  · rintro _ st' m ⟨E1, r⟩
    have e5 : gI st' 9 5 = iN n := (E1.eI _ _).trans S.1
    show P_X7_holdsIn_2 9 30 (iN d) post (m + 1) (iN n) st'
    unfold P_X7_holdsIn_2
    exact ⟨rfl, fun _ => h1 st' E1 r, fun hz => absurd (by rw [e5]; exact Int32.le_refl _) hz⟩
def fzF (F : Nat) : Int32 := if F = 0 then -1 else iN (F - 1)
theorem fz_lt {F i : Nat} (hF : F < 1000) (hi : i < 1000) : fzF F < iN i ↔ F ≤ i := by
  unfold fzF
  split
  · rename_i h0
    rw [Int32.lt_iff_toInt_lt, iN_toInt (by omega), show (-1 : Int32).toInt = -1 by decide]; omega
  · rw [iN_lt (by omega) (by omega)]; omega
theorem s_farthest {st : St} {q : PD} {n : Nat} {E : Nat → Nat → Int32} (S : SeC st q n E) {post : Int32 → St → Prop} (h : ∀ F, F ≤ 21 → (∀ i, i < n → ∃ t, t < F ∧ E i 1 = iN t) → post (fzF F) st) : P_X7_farthest 9 st post := by
  have n8 := S.2.1
  refine ⟨n + 1, loop_up (P := fun m i a st => P_X7_farthest_4 9 post m a i st) (N := n) (fun i a st' => st' = st ∧ ∃ F, F ≤ 21 ∧ a = fzF F ∧ ∀ j, j < i → ∃ t, t < F ∧ E j 1 = iN t) ?_ ?_ n 0 (-1) st (by omega) ⟨rfl, 0, by decide, rfl, fun j hj => absurd hj (Nat.not_lt_zero _)⟩⟩
  · rintro i hi a st' m ⟨rfl, F, hF, rfl, r⟩ ih
    have v : vp_in (iN i) 8 := iN_vp (by omega) (by decide)
    obtain ⟨r1, r2⟩ := S.2.2 i hi
    obtain ⟨t, ht, et⟩ := r2.2.1
    have g1 : gA st' 11 (iN i).toNatClampNeg = iN t := by rw [iN_cl (by omega)]; exact (r1 1 (by decide)).trans et
    show P_X7_farthest_4 9 post (m + 1) _ (iN i) st'
    unfold P_X7_farthest_4
    refine ⟨rfl, fun hz => ?_, fun _ => ⟨11, rfl, v, ?_⟩⟩
    · rw [S.1] at hz; exact absurd hz (nle (by omega) hi)
    rw [g1, iN_s]
    by_cases hc : F ≤ t
    · rw [if_pos ((fz_lt (by omega) (by omega)).mpr hc)]
      refine ih _ _ ⟨rfl, t + 1, by omega, ?_, fun j hj => ?_⟩
      · unfold fzF; rw [if_neg (by omega), Nat.add_sub_cancel]
      · by_cases ej : j = i
        · exact ⟨t, by omega, by rw [ej]; exact et⟩
        · obtain ⟨t2, h2, e2⟩ := r j (by omega)
          exact ⟨t2, by omega, e2⟩
    · rw [if_neg (fun z => hc ((fz_lt (by omega) (by omega)).mp z))]
      refine ih _ _ ⟨rfl, F, hF, rfl, fun j hj => ?_⟩
      by_cases ej : j = i
      · exact ⟨t, by omega, by rw [ej]; exact et⟩
      · exact r j (by omega)
  · rintro a st' m ⟨rfl, F, hF, rfl, r⟩
    show P_X7_farthest_4 9 post (m + 1) _ (iN n) st'
    unfold P_X7_farthest_4
    exact ⟨rfl, fun _ => h F hF r, fun hz => absurd (by rw [S.1]; exact Int32.le_refl _) hz⟩
theorem hAll_ag {q : PD} (hq : PDok q) {c c2 : Nat → Int32} (h : AgC q.2.1 c c2) {n d : Nat} {E : Nat → Nat → Int32} (hS : ∀ i, i < n → SeOk q (E i)) : hAll q c E n d ↔ hAll q c2 E n d := by
  constructor
  · intro H i hi e; rw [← mr_ag hq h (hS i hi)]; exact H i hi e
  · intro H i hi e; rw [mr_ag hq h (hS i hi)]; exact H i hi e
theorem itC_add {q : PD} {c : Nat → Int32} (n m : Nat) : itC q (itC q c n) m = itC q c (n + m) := by
  have e : itP q (c, fun _ => 0) (n + m) = itP q (itP q (c, fun _ => 0) n) m := it_add n m
  show itC q (itC q c n) m = (itP q (c, fun _ => 0) (n + m)).1
  rw [e]
  exact (itC_eq (q := q) (c := (itP q (c, fun _ => 0) n).1) (w := (itP q (c, fun _ => 0) n).2) m).symm
theorem it_pass {q : PD} {c w : Nat → Int32} (hq : PDok q) {n : Nat} {x : Nat → Int32} (A : AgC q.2.1 x (itC q c n)) : AgC q.2.1 (passF q (x, w)).1 (itC q c (n + 1)) := by
  have e := it_ag hq (w := w) A 1
  rw [itC_add] at e
  exact e
set_option maxHeartbeats 1000000 in
theorem s_isSeen {st0 st : St} {p : Nat} {q : PD} (Q : QFr st0 st) (D : DSt st 30 p q) (hM : okM q.2.2.2.2) {n : Nat} {E : Nat → Nat → Int32} (S : SeC st q n E) {c : Nat → Int32} (A : AgC q.2.1 (gA st 31) c) {post : Int32 → St → Prop} (h1 : ∀ st1 f, f ≤ 20 → QFr st0 st1 → DSt st1 30 p q → AgC q.2.1 (gA st1 31) (itC q c f) → gA st1 37 = gA st 37 → SeenA q c E n → post 1 st1) (h0 : ∀ st1, QFr st0 st1 → DSt st1 30 p q → gA st1 37 = gA st 37 → ¬ SeenA q c E n → post 0 st1) : P_X9_isSeenInTrial 36 st post := by
  have hS : ∀ i, i < n → SeOk q (E i) := fun i hi => (S.2.2 i hi).2
  refine ⟨9, rfl, ⟨_, rfl⟩, s_farthest S (fun F hF hr => ?_)⟩
  refine ⟨F + 1, loop_up (α := Unit) (P := fun m i _ st => P_X9_isSeenInTrial_10 36 post m (fzF F) i st) (N := F) (fun i _ st' => QFr st0 st' ∧ Ex (SD 30) st st' ∧ AgC q.2.1 (gA st' 31) (itC q c (min i (F - 1))) ∧ ∀ d, d < i → hAll q (itC q c d) E n d) ?_ ?_ F 0 () st (by omega) ⟨Q, Ex.rf, ?_, fun d hd => absurd hd (Nat.not_lt_zero _)⟩⟩
  · rintro i hi _ st' m ⟨Q1, E1, A1, r⟩ ih
    have D1 := D.ex (npl_sd isDa30) E1
    have S1 : SeC st' q n E := S.cg (E1.eI _ _) (fun k hk => E1.eA (by have h : k = 0 ∨ k = 1 ∨ k = 2 ∨ k = 3 ∨ k = 4 := by omega
                                                                       rcases h with rfl | rfl | rfl | rfl | rfl <;> unfold SD ScV <;> decide))
    rw [show min i (F - 1) = i by omega] at A1
    have hag : hAll q (gA st' 31) E n i ↔ hAll q (itC q c i) E n i := hAll_ag D.ok A1 hS
    show P_X9_isSeenInTrial_10 36 post (m + 1) (fzF F) (iN i) st'
    unfold P_X9_isSeenInTrial_10
    refine ⟨fun hz => absurd ((fz_lt (by omega) (by omega)).mp hz) (by omega), fun _ => ⟨9, rfl, 30, rfl, ⟨_, rfl⟩, s_holdsIn D1 S1 (by omega) (fun st2 E2 hA => ⟨fun _ => ⟨fun hz => ?_, fun hz => ?_⟩, fun hz => absurd hz (by decide)⟩) (fun st2 E2 hA => ⟨fun hz => absurd rfl hz, fun _ => ?_⟩)⟩⟩
    · -- the last of them
      have E12 : Ex (SD 30) st st2 := E1.tr (E2.wk (fun _ z => sd_v z))
      have hl : F - 1 ≤ i := by
        have hz : fzF F ≤ iN i := hz
        unfold fzF at hz
        rw [if_neg (by omega), iN_le (by omega) (by omega)] at hz
        exact hz
      show P_X9_isSeenInTrial_10 36 post m (fzF F) (iN i + 1) st2
      rw [iN_s]
      refine ih () st2 ⟨Q1.tr (QFr.ex E2 scv30_sc D1.tp), E12, ?_, fun d hd => ?_⟩
      · have e31 : gA st2 31 = gA st' 31 := E2.eA (scv_c isDa30 isDa30)
        rw [e31, show min (i + 1) (F - 1) = i by omega]; exact A1
      · by_cases ed : d = i
        · rw [ed]; exact hag.mp hA
        · exact r d (by omega)
    · have D2 := D1.ex (npl_scv isDa30) E2
      have hl : i < F - 1 := by
        have hz : ¬ fzF F ≤ iN i := hz
        unfold fzF at hz
        rw [if_neg (by omega), iN_le (by omega) (by omega)] at hz
        omega
      refine ⟨30, rfl, ⟨_, rfl⟩, s_passDay D2 hM (fun st3 E3 k1 _ => ?_)⟩
      have k1 : gA st3 31 = (passF q (gA st2 31, gA st2 33)).1 := k1
      have E13 : Ex (SD 30) st st3 := (E1.tr (E2.wk (fun _ z => sd_v z))).tr E3
      have e31 : gA st2 31 = gA st' 31 := E2.eA (scv_c isDa30 isDa30)
      have A2 : AgC q.2.1 (gA st2 31) (itC q c i) := by rw [e31]; exact A1
      show P_X9_isSeenInTrial_10 36 post m (fzF F) (iN i + 1) st3
      rw [iN_s]
      refine ih () st3 ⟨(Q1.tr (QFr.ex E2 scv30_sc D1.tp)).tr (QFr.ex E3 sd30_sc D2.tp), E13, ?_, fun d hd => ?_⟩
      · rw [k1, show min (i + 1) (F - 1) = i + 1 by omega]
        exact it_pass D.ok A2
      · by_cases ed : d = i
        · rw [ed]; exact hag.mp hA
        · exact r d (by omega)
    · have E12 : Ex (SD 30) st st2 := E1.tr (E2.wk (fun _ z => sd_v z))
      exact h0 st2 (Q1.tr (QFr.ex E2 scv30_sc D1.tp)) (D.ex (npl_sd isDa30) E12) (E12.eA (by unfold SD ScV; decide)) (fun hs => hA (hag.mpr (hs i (by omega))))
  · rintro _ st' m ⟨Q1, E1, A1, r⟩
    show P_X9_isSeenInTrial_10 36 post (m + 1) (fzF F) (iN F) st'
    unfold P_X9_isSeenInTrial_10
    refine ⟨fun _ => h1 st' (min F (F - 1)) (by omega) Q1 (D.ex (npl_sd isDa30) E1) A1 (E1.eA (by unfold SD ScV; decide)) (fun d hd => ?_), fun hz => absurd ((fz_lt (by omega) (by omega)).mpr (Nat.le_refl _)) hz⟩
    by_cases hdF : d < F
    · exact r d hdF
    · intro i hi e
      obtain ⟨t, ht, et⟩ := hr i hi
      rw [et] at e
      have := (iN_eq (by omega) (by omega)).mp e
      omega
  · rw [show min 0 (F - 1) = 0 by omega]; exact A
/-! a guess -/
def gsC (c : Nat → Int32) (g : Nat) : Nat → Int32 := upd c (2 + 4 * (g / 10) + 2) (iN (g % 10))
def Fit (q : PD) (c : Nat → Int32) (E : Nat → Nat → Int32) (n g : Nat) : Prop := c (2 + 4 * (g / 10) + 2) ≠ iN (g % 10) ∧ SeenA q (gsC c g) E n
theorem s_suppose {st0 st : St} {p : Nat} {q : PD} (Q : QFr st0 st) (D : DSt st 3 p q) {c : Nat → Int32} (hc : gA st 4 = c) {g : Nat} (hg : g < 10 * q.1) {post : Int32 → St → Prop} (h1 : c (2 + 4 * (g / 10) + 2) ≠ iN (g % 10) → ∀ st1, QFr st0 st1 → DSt st1 30 p q → AgC q.2.1 (gA st1 31) (gsC c g) → gA st1 37 = gA st 37 → post 1 st1) (h0 : c (2 + 4 * (g / 10) + 2) = iN (g % 10) → ∀ st1, QFr st0 st1 → gA st1 37 = gA st 37 → post 0 st1) : P_X9_suppose 36 (iN g) st post := by
  have q1 := D.ok.1
  have e1 : iN g / 10 = iN (g / 10) := iN_div (b := 10) (by omega) (by decide)
  have e2 : iN g - iN g / 10 * 10 = iN (g % 10) := iN_mod (b := 10) (by omega) (by decide)
  refine ⟨30, rfl, 3, rfl, ⟨_, rfl⟩, s_copyT D (fun st1 Q1 D1 A1 n1 => ⟨30, rfl, ⟨_, rfl⟩, ?_⟩)⟩
  rw [e2, e1]
  refine s_setOnions isDa30 (by omega) ⟨3, rfl, ⟨_, rfl⟩, s_onionsOf (Or.inl rfl) (by omega) ?_⟩
  rw [hc] at A1
  obtain ⟨Q2, D2, A2⟩ := tr_up (Q.tr Q1) D1 A1 (2 + 4 * (g / 10) + 2) (iN (g % 10))
  have e37 : gA (sA st1 31 (2 + 4 * (g / 10) + 2) (iN (g % 10))) 37 = gA st 37 := by rw [gA_sA_ne (by decide), n1 37 (by decide)]
  have e4 : gA (sA st1 (ch 30 1) (2 + 4 * (g / 10) + 2) (iN (g % 10))) (ch 3 1) = c := by
    rw [ch301, ch31, gA_sA_ne (by decide), n1 4 (by decide), hc]
  rw [e4]
  exact ⟨fun hz => ⟨Or.inl rfl, h0 hz _ Q2 e37⟩, fun hz => ⟨Or.inr rfl, h1 hz _ Q2 D2 A2 e37⟩⟩
noncomputable def ftF (q : PD) (c : Nat → Int32) (E : Nat → Nat → Int32) (n N : Nat) : Nat × (Nat → Nat) := lp (fun g s => @ite _ (Fit q c E n g) (Classical.propDecidable _) (s.1 + 1, fun j => if j = s.1 then g else s.2 j) s) ((0 : Nat), fun _ => 0) N
theorem ft_0 (q : PD) (c : Nat → Int32) (E : Nat → Nat → Int32) (n : Nat) : ftF q c E n 0 = (0, fun _ => 0) := by unfold ftF; rw [lp_0]
theorem ft_p {q : PD} {c : Nat → Int32} {E : Nat → Nat → Int32} {n g : Nat} (h : Fit q c E n g) : ftF q c E n (g + 1) = ((ftF q c E n g).1 + 1, fun j => if j = (ftF q c E n g).1 then g else (ftF q c E n g).2 j) := by unfold ftF; rw [lp_s]; exact if_pos h
theorem ft_n {q : PD} {c : Nat → Int32} {E : Nat → Nat → Int32} {n g : Nat} (h : ¬ Fit q c E n g) : ftF q c E n (g + 1) = ftF q c E n g := by unfold ftF; rw [lp_s]; exact if_neg h
theorem ft_le (q : PD) (c : Nat → Int32) (E : Nat → Nat → Int32) (n : Nat) : ∀ N, (ftF q c E n N).1 ≤ N ∧ ∀ j, j < (ftF q c E n N).1 → (ftF q c E n N).2 j < N ∧ Fit q c E n ((ftF q c E n N).2 j) := by
  intro N
  induction N with
  | zero => rw [ft_0]; exact ⟨Nat.le_refl _, fun j hj => absurd hj (Nat.not_lt_zero _)⟩
  | succ N ih =>
    by_cases h : Fit q c E n N
    · rw [ft_p h]
      refine ⟨by show (ftF q c E n N).1 + 1 ≤ N + 1; omega, fun j hj => ?_⟩
      have hj : j < (ftF q c E n N).1 + 1 := hj
      show (if j = (ftF q c E n N).1 then N else (ftF q c E n N).2 j) < N + 1 ∧ Fit q c E n (if j = (ftF q c E n N).1 then N else (ftF q c E n N).2 j)
      split
      · exact ⟨by omega, h⟩
      · have := ih.2 j (by omega)
        exact ⟨by omega, this.2⟩
    · rw [ft_n h]
      exact ⟨by omega, fun j hj => ⟨by have := (ih.2 j hj).1; omega, (ih.2 j hj).2⟩⟩
theorem ft_first {q : PD} {c : Nat → Int32} {E : Nat → Nat → Int32} {n N : Nat} (h : 0 < (ftF q c E n N).1) : ∀ m, 0 < (ftF q c E n (N + m)).1 ∧ (ftF q c E n (N + m)).2 0 = (ftF q c E n N).2 0 := by
  intro m
  induction m with
  | zero => exact ⟨h, rfl⟩
  | succ m ih =>
    rw [show N + (m + 1) = (N + m) + 1 by omega]
    by_cases hf : Fit q c E n (N + m)
    · rw [ft_p hf]
      refine ⟨by show 0 < (ftF q c E n (N + m)).1 + 1; omega, ?_⟩
      show (if 0 = (ftF q c E n (N + m)).1 then _ else _) = _
      rw [if_neg (by have := ih.1; omega)]; exact ih.2
    · rw [ft_n hf]; exact ih
