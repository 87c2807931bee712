/-! PURE: the reference's weights, and its day -/
def bOk : Nat → Int32 → Int32 → Int32 → Bool
  | 0, _, _, _ => false
  | f + 1, n, v, r => if v = 0 then n == r else bOk f (n + 1) (v &&& (v - 1)) r
theorem bOk_P {a : Int32} {st : St} {post : Int32 → St → Prop} {r : Int32} (h : post r st) : ∀ (f : Nat) (n v : Int32), bOk f n v r = true → P_X12_bitsOf_4 a post f n v st := by
  intro f
  induction f with
  | zero => intro n v q; cases q
  | succ f ih =>
    intro n v q
    unfold P_X12_bitsOf_4
    unfold bOk at q
    refine ⟨fun hv => ?_, fun hv => ?_⟩
    · rw [if_pos hv] at q
      rw [eq_of_beq q]; exact h
    · rw [if_neg hv] at q
      exact ih _ _ q
theorem bOk_all : ∀ k, k < 512 → bOk 11 0 (iN k) (bc (iN k)) = true := by decide +kernel
def sm9 (x : Int32) : Prop := ∃ k, k < 512 ∧ x = iN k
theorem s_bitsOf {x : Int32} (hx : sm9 x) {st : St} {post : Int32 → St → Prop} (h : post (bc x) st) : P_X12_bitsOf x st post := by
  obtain ⟨k, hk, rfl⟩ := hx
  exact ⟨11, bOk_P h 11 0 (iN k) (bOk_all k hk)⟩
theorem or_bit : ∀ n, n < 9 → ∀ k, k < 2 ^ n → iN k ||| bit n = iN (k + 2 ^ n) := by decide +kernel
theorem bits_lp {P : Nat → Prop} [DecidablePred P] : ∀ n, n ≤ 9 → ∃ k, k < 2 ^ n ∧ lp (fun p s => if P p then s ||| bit p else s) 0 n = iN k ∧ ((∃ p, p < n ∧ P p) → 0 < k) := by
  intro n
  induction n with
  | zero => intro _; exact ⟨0, by decide, rfl, fun ⟨p, hp, _⟩ => by cases hp⟩
  | succ n ih =>
    intro hn
    obtain ⟨k, hk, e, hpos⟩ := ih (by omega)
    have hpow : 2 ^ (n + 1) = 2 ^ n + 2 ^ n := by rw [Nat.pow_succ]; omega
    show ∃ k, k < 2 ^ (n + 1) ∧ (if P n then lp _ 0 n ||| bit n else lp _ 0 n) = iN k ∧ _
    by_cases hP : P n
    · rw [if_pos hP, e, or_bit n (by omega) k hk]
      exact ⟨k + 2 ^ n, by omega, rfl, fun _ => by have := Nat.pos_of_ne_zero (show 2 ^ n ≠ 0 from Nat.pos_iff_ne_zero.mp (Nat.two_pow_pos n)); omega⟩
    · rw [if_neg hP]
      refine ⟨k, by omega, e, fun ⟨p, hp, hPp⟩ => hpos ⟨p, ?_, hPp⟩⟩
      rcases Nat.lt_or_ge p n with h | h
      · exact h
      · exact absurd (show P n by rw [show n = p by omega]; exact hPp) hP
theorem pow9 {n k : Nat} (hn : n ≤ 9) (hk : k < 2 ^ n) : k < 512 := Nat.lt_of_lt_of_le hk (show 2 ^ n ≤ 2 ^ 9 from Nat.pow_le_pow_right (by decide) hn)
theorem tiedS_sm {np : Nat} (h : np ≤ 9) (c : Nat → Int32) (b : Nat) : sm9 (tiedS np c b) := by
  obtain ⟨k, h1, h2, _⟩ := bits_lp (P := fun p => 0 < c (56 + 6 * p + b)) np h
  exact ⟨k, pow9 h h1, h2⟩
theorem tiedB_sm {nb : Nat} (h : nb ≤ 9) (c : Nat → Int32) (p : Nat) : sm9 (tiedB nb c p) := by
  obtain ⟨k, h1, h2, _⟩ := bits_lp (P := fun b => 0 < c (56 + 6 * p + b)) nb h
  exact ⟨k, pow9 h h1, h2⟩
theorem bc_pos : ∀ k, k < 512 → 0 < k → mx0 (bc (iN k) - 1) = bc (iN k) - 1 := by decide +kernel
theorem riv_tied {np : Nat} (h : np ≤ 9) {c : Nat → Int32} {p b : Nat} (hp : p < np) (hy : 0 < c (56 + 6 * p + b)) : riv np c b = bc (tiedS np c b) - 1 := by
  obtain ⟨k, h1, h2, h3⟩ := bits_lp (P := fun p => 0 < c (56 + 6 * p + b)) np h
  have h4 : tiedS np c b = iN k := h2
  unfold riv
  rw [h4]
  exact bc_pos k (pow9 h h1) (h3 ⟨p, hp, hy⟩)
/-- how the reference keeps a plan -/
def MR (t : Int32) (row : Nat → Int32) (r : Rl) : Prop := (r.1 = 0 → t = 0) ∧ (r.1 ≠ 0 → t = iN r.2.1 ∧ 1 ≤ r.2.1 ∧ ∀ i, i < r.2.1 → row i = trC (r.2.2 i))
def MPl (st : St) (q : PD) : Prop := gA st 62 0 = iN q.1 ∧ gA st 62 1 = iN q.2.1 ∧ (∀ p, p < q.1 → gA st 63 p = q.2.2.1 p) ∧ MR (gA st 62 3) (gA st 69) q.2.2.2.1 ∧ MR (gA st 62 4) (gA st 70) q.2.2.2.2 ∧ PDok q ∧ okM q.2.2.2.2
def nMP (S : Nat → Prop) : Prop := ¬ S 62 ∧ ¬ S 63 ∧ ¬ S 69 ∧ ¬ S 70
theorem MPl.fx {I : Nat → Nat → Prop} {S : Nat → Prop} {a b : St} (h : Fx I S a b) (hS : nMP S) {q : PD} (M : MPl a q) : MPl b q := by
  obtain ⟨s1, s2, s3, s4⟩ := hS
  unfold MPl at M ⊢
  rw [h.eA s1, h.eA s2, h.eA s3, h.eA s4]
  exact M
theorem MPl.ex {S : Nat → Prop} {a b : St} (h : Ex S a b) (hS : nMP S) {q : PD} (M : MPl a q) : MPl b q := M.fx (I := fun _ _ => False) (Ex.fx h) hS
def noI : Nat → Nat → Prop := fun _ _ => False
theorem mC_ex {S : Nat → Prop} {a b : St} (h : Ex S a b) (hS : ∀ x, S x → ¬ isM x) (nb : Nat) : mC nb b = mC nb a := mC_fx (I := noI) (Ex.fx h) (fun h => h) (fun h => h) hS nb
/-- the reference's scratch for a weight -/
def SMw (a : Nat) : Prop := a = 82 ∨ a = 83
theorem smw_m : ∀ x, SMw x → ¬ isM x := by rintro x (rfl | rfl) <;> unfold isM <;> decide
theorem smw_p : nMP SMw := by unfold nMP SMw; decide
theorem x_m (p b : Nat) : (6 * iN p) + iN b = iN (6 * p + b) := by rw [iN_add, iN_mul]; rfl
theorem al80 : al 0 80 = 54 := rfl
theorem al62 : al 0 62 = 10 := rfl
theorem al63 : al 0 63 = 18 := rfl
theorem al73 : al 0 73 = 9 := rfl
theorem al77 : al 0 77 = 6 := rfl
theorem vp0 (n : Nat) (h : 0 < n) (h2 : n < 2147483648) : vp_in 0 n := iN_vp (j := 0) h h2
theorem s_tiedTo {st : St} {q : PD} (M : MPl st q) {b nb : Nat} (hb : b < 6) {post : Int32 → St → Prop} (h : post (tiedS q.1 (mC nb st) b) st) : P_X12_tiedTo 58 (iN b) st post := by
  have hq := M.2.2.2.2.2.1.1
  have ht : ∀ p, p < 9 → mC nb st (56 + 6 * p + b) = gA st 80 (6 * p + b) := fun p hp => rC_t2 hp hb
  refine ⟨q.1 + 1, loop_up (P := fun n i a st => P_X12_tiedTo_4 58 (iN b) post n a i st) (N := q.1) (fun i a st' => st' = st ∧ a = tiedS i (mC nb st) b) ?_ ?_ q.1 0 0 st (by omega) ⟨rfl, rfl⟩⟩
  · rintro i hi a st' n ⟨rfl, rfl⟩ ih
    show P_X12_tiedTo_4 58 (iN b) post (n + 1) _ (iN i) st'
    unfold P_X12_tiedTo_4
    have hs : tiedS (i + 1) (mC nb st') b = if 0 < gA st' 80 (6 * i + b) then tiedS i (mC nb st') b ||| bit i else tiedS i (mC nb st') b := by rw [← ht i (by omega)]; rfl
    refine ⟨62, rfl, vp0 _ (by decide) (by decide), fun hc => ?_, fun _ => ⟨80, rfl, ?_, ?_⟩⟩
    · have e : gA st' 62 (0 : Int32).toNatClampNeg = iN q.1 := M.1
      rw [e, iN_le (by omega) (by omega)] at hc; omega
    · rw [x_m, al80]; exact iN_vp (by omega) (by decide)
    rw [x_m, iN_cl (by omega)]
    refine ⟨fun hc => ?_, fun hc => ?_⟩
    · show P_X12_tiedTo_4 58 (iN b) post n (tiedS i (mC nb st') b ||| 0) (iN i + 1) st'
      rw [iN_s, Int32.or_zero]
      refine ih _ _ ⟨rfl, ?_⟩
      rw [hs, if_neg (Int32.not_lt.mpr hc)]
    · show P_X12_tiedTo_4 58 (iN b) post n (tiedS i (mC nb st') b ||| bit i) (iN i + 1) st'
      rw [iN_s]
      refine ih _ _ ⟨rfl, ?_⟩
      rw [hs, if_pos (Int32.not_le.mp hc)]
  · rintro a st' n ⟨rfl, rfl⟩
    show P_X12_tiedTo_4 58 (iN b) post (n + 1) _ (iN q.1) st'
    unfold P_X12_tiedTo_4
    refine ⟨62, rfl, vp0 _ (by decide) (by decide), fun _ => h, fun hc => absurd ?_ hc⟩
    have e : gA st' 62 (0 : Int32).toNatClampNeg = iN q.1 := M.1
    rw [e]; exact Int32.le_refl _
theorem s_tiesOf {st : St} {q : PD} (M : MPl st q) {p nb : Nat} (hp : p < 9) {post : Int32 → St → Prop} (h : post (tiedB q.2.1 (mC nb st) p) st) : P_X12_tiesOf 58 (iN p) st post := by
  have hq := M.2.2.2.2.2.1.2.1
  have ht : ∀ b, b < 6 → mC nb st (56 + 6 * p + b) = gA st 80 (6 * p + b) := fun b hb => rC_t2 hp hb
  refine ⟨q.2.1 + 1, loop_up (P := fun n i a st => P_X12_tiesOf_4 58 (iN p) post n a i st) (N := q.2.1) (fun i a st' => st' = st ∧ a = tiedB i (mC nb st) p) ?_ ?_ q.2.1 0 0 st (by omega) ⟨rfl, rfl⟩⟩
  · rintro i hi a st' n ⟨rfl, rfl⟩ ih
    show P_X12_tiesOf_4 58 (iN p) post (n + 1) _ (iN i) st'
    unfold P_X12_tiesOf_4
    have hs : tiedB (i + 1) (mC nb st') p = if 0 < gA st' 80 (6 * p + i) then tiedB i (mC nb st') p ||| bit i else tiedB i (mC nb st') p := by rw [← ht i (by omega)]; rfl
    refine ⟨62, rfl, iN_vp (j := 1) (by decide) (by decide), fun hc => ?_, fun _ => ⟨80, rfl, ?_, ?_⟩⟩
    · have e : gA st' 62 (1 : Int32).toNatClampNeg = iN q.2.1 := M.2.1
      rw [e, iN_le (by omega) (by omega)] at hc; omega
    · rw [x_m, al80]; exact iN_vp (by omega) (by decide)
    rw [x_m, iN_cl (by omega)]
    refine ⟨fun hc => ?_, fun hc => ?_⟩
    · show P_X12_tiesOf_4 58 (iN p) post n (tiedB i (mC nb st') p ||| 0) (iN i + 1) st'
      rw [iN_s, Int32.or_zero]
      refine ih _ _ ⟨rfl, ?_⟩
      rw [hs, if_neg (Int32.not_lt.mpr hc)]
    · show P_X12_tiesOf_4 58 (iN p) post n (tiedB i (mC nb st') p ||| bit i) (iN i + 1) st'
      rw [iN_s]
      refine ih _ _ ⟨rfl, ?_⟩
      rw [hs, if_pos (Int32.not_le.mp hc)]
  · rintro a st' n ⟨rfl, rfl⟩
    show P_X12_tiesOf_4 58 (iN p) post (n + 1) _ (iN q.2.1) st'
    unfold P_X12_tiesOf_4
    refine ⟨62, rfl, iN_vp (j := 1) (by decide) (by decide), fun _ => h, fun hc => absurd ?_ hc⟩
    have e : gA st' 62 (1 : Int32).toNatClampNeg = iN q.2.1 := M.2.1
    rw [e]; exact Int32.le_refl _
/-- cells as they come: the weddings that are led, and ties, by their signs -/
def sm6 (x : Int32) : Prop := ∃ k, k < 64 ∧ x = iN k
theorem sm6_9 {x : Int32} (h : sm6 x) : sm9 x := by
  obtain ⟨k, hk, e⟩ := h
  exact ⟨k, by omega, e⟩
def CI (q : PD) (c : Nat → Int32) : Prop := (∀ p, p < q.1 → ∀ b, b < q.2.1 → 0 ≤ c (56 + 6 * p + b)) ∧ (∀ p, p < q.1 → sm6 (c (2 + 4 * p + 3))) ∧ ∀ b, b < q.2.1 → (c (38 + 3 * b + 1) = 0 ∨ c (38 + 3 * b + 1) = 1) ∧ (c (38 + 3 * b + 1) = 1 → c (38 + 3 * b + 2) = -1) ∧ (c (38 + 3 * b + 2) = -1 ∨ ∃ x, x < q.1 ∧ c (38 + 3 * b + 2) = iN x)
theorem s_ask {st : St} {q : PD} (M : MPl st q) {p nb : Nat} (hp : p < q.1) (hl : sm9 (gA st 76 p)) {post : St → Prop} (h : ∀ st2, Ex SMw st st2 → (∀ j, j < 5 → gA st2 82 j = vM q (mC nb st) p j) → post st2) : P_X12_ask 58 (iN p) st post := by
  have hq := M.2.2.2.2.2.1.1
  have s82 : SMw 82 := Or.inl rfl
  have v9 : ∀ a, al 0 a = 9 → vp_in (iN p) (al 0 a) := fun a e => by rw [e]; exact iN_vp (by omega) (by decide)
  have v8 : ∀ j : Nat, j < 8 → vp_in (iN j) (al 0 82) := fun j hj => by rw [al82]; exact iN_vp hj (by decide)
  refine ⟨82, rfl, 73, rfl, v9 73 rfl, v8 0 (by decide), 82, rfl, 75, rfl, v9 75 rfl, v8 1 (by decide), 82, rfl, 63, rfl, ?_, v8 2 (by decide), 82, rfl, 76, rfl, v9 76 rfl, s_bitsOf ?_ ⟨v8 3 (by decide), 82, rfl, rfl, v8 4 (by decide), h _ ?_ ?_⟩⟩
  · rw [al63]; exact iN_vp (by omega) (by decide)
  · rw [iN_cl (by omega), gA_sA_ne (by decide), gA_sA_ne (by decide), gA_sA_ne (by decide)]; exact hl
  · exact ((((Ex.sa s82 _ _).tr (Ex.sa s82 _ _)).tr (Ex.sa s82 _ _)).tr (Ex.sa s82 _ _)).tr (Ex.sa s82 _ _)
  · intro j hj
    have e0 : (0 : Int32).toNatClampNeg = 0 := rfl
    have e1 : (1 : Int32).toNatClampNeg = 1 := rfl
    have e2 : (2 : Int32).toNatClampNeg = 2 := rfl
    have e3 : (3 : Int32).toNatClampNeg = 3 := rfl
    have e4 : (4 : Int32).toNatClampNeg = 4 := rfl
    rw [e0, e1, e2, e3, e4, iN_cl (by omega)]
    simp only [gA_sA, gA_sA_ne (show (73 : Nat) ≠ 82 by decide), gA_sA_ne (show (75 : Nat) ≠ 82 by decide), gA_sA_ne (show (63 : Nat) ≠ 82 by decide), gA_sA_ne (show (76 : Nat) ≠ 82 by decide), gI_sA]
    have c0 : mC nb st (2 + 4 * p) = gA st 73 p := rC_g (by omega)
    have c1 : mC nb st (2 + 4 * p + 2) = gA st 75 p := rC_o (by omega)
    have c3 : mC nb st (2 + 4 * p + 3) = gA st 76 p := rC_l (by omega)
    have c4 : mC nb st 0 = gI st 58 36 := rfl
    unfold vM
    rw [c0, c1, c3, c4, ← M.2.2.1 p hp]
    have hj5 : j = 0 ∨ j = 1 ∨ j = 2 ∨ j = 3 ∨ j = 4 := by omega
    rcases hj5 with rfl | rfl | rfl | rfl | rfl <;> simp [upd]
theorem kp_m (v m : Int32) : (if (0 : Int32) < (if v < m then v else m) then (if v < m then v else m) else 0) = kp v m := by
  unfold kp
  by_cases h1 : v < m
  · rw [if_pos h1, if_neg (fun h2 => Int32.lt_irrefl (Int32.lt_trans h1 h2))]
  · rw [if_neg h1]
    by_cases h2 : m < v
    · rw [if_pos h2]
    · rw [if_neg h2]
      have : v = m := Int32.le_antisymm (Int32.not_lt.mp h2) (Int32.not_lt.mp h1)
      rw [this]
set_option maxHeartbeats 1000000 in
theorem s_weightOf {st : St} {q : PD} (M : MPl st q) {p b nb : Nat} (hp : p < q.1) (hb : b < q.2.1) (hC : CI q (mC nb st)) {post : Int32 → St → Prop} (h : ∀ st2, Ex SMw st st2 → post (weighF q (mC nb st) p b) st2) : P_X12_weightOf 58 (iN p) (iN b) st post := by
  have hq := M.2.2.2.2.2.1.1
  have hq2 := M.2.2.2.2.2.1.2.1
  have s82 : SMw 82 := Or.inl rfl
  have cy : mC nb st (56 + 6 * p + b) = gA st 80 (6 * p + b) := rC_t2 (by omega) (by omega)
  have c0 : mC nb st (2 + 4 * p) = gA st 73 p := rC_g (by omega)
  have c1 : mC nb st (2 + 4 * p + 2) = gA st 75 p := rC_o (by omega)
  have c3 : mC nb st (2 + 4 * p + 3) = gA st 76 p := rC_l (by omega)
  have v8 : ∀ j : Nat, j < 8 → vp_in (iN j) (al 0 82) := fun j hj => by rw [al82]; exact iN_vp hj (by decide)
  unfold P_X12_weightOf
  rw [x_m, iN_cl (by omega), iN_cl (by omega)]
  refine ⟨80, rfl, by rw [al80]; exact iN_vp (by omega) (by decide), fun hy => ⟨73, rfl, by rw [al73]; exact iN_vp (by omega) (by decide), 75, rfl, (show vp_in (iN p) 9 from iN_vp (by omega) (by decide)), 62, rfl, iN_vp (j := 3) (by decide) (by decide), fun ht => ?_, fun ht => ⟨⟨_, rfl⟩, s_ask (nb := nb) M hp (by rw [← c3]; exact sm6_9 (hC.2.1 p hp)) (fun st2 hE hV => ?_)⟩⟩, fun hy => ?_⟩
  · have ht0 : q.2.2.2.1.1 = 0 := by
      by_cases e : q.2.2.2.1.1 = 0
      · exact e
      · obtain ⟨e1, e2, _⟩ := M.2.2.2.1.2 e
        have e3 : gA st 62 (3 : Int32).toNatClampNeg = iN q.2.2.2.1.2.1 := e1
        have e4 := (M.2.2.2.2.2.1.2.2.1 e).1
        rw [e3] at ht
        have : iN q.2.2.2.1.2.1 ≤ iN 0 := ht
        rw [iN_le (by omega) (by omega)] at this
        omega
    have e9 := h st Ex.rf
    unfold weighF at e9
    rw [cy, if_neg hy, if_pos ht0, c0, c1] at e9
    unfold P_X12_weightOf_113
    rw [kp_m]
    exact e9
  · have ht1 : q.2.2.2.1.1 ≠ 0 := by
      intro e
      have e3 : gA st 62 (3 : Int32).toNatClampNeg = 0 := M.2.2.2.1.1 e
      rw [e3] at ht
      exact ht (Int32.le_refl _)
    obtain ⟨et, _, er⟩ := M.2.2.2.1.2 ht1
    have ey : gA st2 80 = gA st 80 := hE.eA (by unfold SMw; decide)
    refine ⟨82, rfl, v8 5 (by decide), 82, rfl, 77, rfl, (show vp_in (iN b) 6 from iN_vp (by omega) (by decide)), rfl, v8 6 (by decide), 82, rfl, ⟨_, rfl⟩, ?_⟩
    rw [gA_sA_ne (show (77 : Nat) ≠ 82 by decide), hE.eA (show ¬ SMw 77 by unfold SMw; decide), gI_sA, hE.eI, iN_cl (n := b) (by omega)]
    generalize hst3 : sA (sA st2 82 (5 : Int32).toNatClampNeg (gA st 80 (6 * p + b))) 82 (6 : Int32).toNatClampNeg (if (0 : Int32) < gA st 77 b - gI st 58 36 then gA st 77 b - gI st 58 36 else 0) = st3
    have E3 : Ex SMw st st3 := by rw [← hst3]; exact (hE.tr (Ex.sa s82 _ _)).tr (Ex.sa s82 _ _)
    have M3 := M.ex E3 smw_p
    have eC3 : mC nb st3 = mC nb st := mC_ex E3 smw_m nb
    refine s_tiedTo (nb := nb) (b := b) M3 (by omega) ?_
    rw [eC3]
    refine s_bitsOf (tiedS_sm hq _ _) ⟨v8 7 (by decide), ?_⟩
    generalize hst4 : sA st3 82 (7 : Int32).toNatClampNeg (bc (tiedS q.1 (mC nb st) b) - 1) = st4
    have E4 : Ex SMw st st4 := by rw [← hst4]; exact E3.tr (Ex.sa s82 _ _)
    have M4 := M.ex E4 smw_p
    refine ⟨69, rfl, 62, rfl, iN_vp (j := 3) (by decide) (by decide), ⟨_, rfl⟩, ?_⟩
    obtain ⟨et4, _, er4⟩ := M4.2.2.2.1.2 ht1
    have e3 : gA st4 62 (3 : Int32).toNatClampNeg = iN q.2.2.2.1.2.1 := et4
    rw [e3]
    refine s_valueNow (row := q.2.2.2.1.2.2) rfl (by decide) (M.2.2.2.2.2.1.2.2.1 ht1) er4 (fun st5 hE5 => ?_)
    have e8 : work q.2.2.2.1.2.2 q.2.2.2.1.2.1 (vW q (mC nb st) p b) = work q.2.2.2.1.2.2 q.2.2.2.1.2.1 (gA st4 82) := by
      refine work_w (fun j hj => ?_)
      rw [← hst4, ← hst3]
      have e5 : (5 : Int32).toNatClampNeg = 5 := rfl
      have e6 : (6 : Int32).toNatClampNeg = 6 := rfl
      have e7 : (7 : Int32).toNatClampNeg = 7 := rfl
      rw [e5, e6, e7]
      simp only [gA_sA]
      unfold vW
      have hpos : 0 < mC nb st (56 + 6 * p + b) := by
        have h1 := hC.1 p hp b hb
        rw [cy] at h1 ⊢
        exact Int32.lt_of_le_of_ne h1 (Ne.symm hy)
      by_cases h7 : j = 7
      · subst h7
        rw [upd_same, if_neg (by decide), if_neg (by decide), if_pos rfl]
        exact riv_tied hq hp hpos
      · by_cases h6 : j = 6
        · subst h6
          have cw : mC nb st (38 + 3 * b) = gA st 77 b := rC_w (by omega)
          have cd : mC nb st 0 = gI st 58 36 := rfl
          rw [upd_ne h7, upd_same, if_neg (by decide), if_pos rfl, cw, cd]
          rfl
        · by_cases h5 : j = 5
          · subst h5
            rw [upd_ne h7, upd_ne h6, upd_same, if_pos rfl, cy]
          · rw [if_neg h5, if_neg h6, if_neg h7, upd_ne h7, upd_ne h6, upd_ne h5]
            exact (hV j (by omega)).symm
    have e9 := h st5 (E4.tr (hE5.wk (fun a ha => Or.inr ha)))
    unfold weighF at e9
    rw [cy, if_neg hy, if_neg ht1, e8] at e9
    unfold P_X12_weightOf_113
    rw [kp_m]
    exact e9
  · have e9 := h st Ex.rf
    unfold weighF at e9
    rw [cy, if_pos hy] at e9
    exact e9
