/-! PURE: the scales: sets that pull -/
theorem iN_and (a b : Nat) : iN a &&& iN b = iN (a &&& b) := by
  apply Int32.toBitVec_inj.mp
  show BitVec.ofNat 32 a &&& BitVec.ofNat 32 b = BitVec.ofNat 32 (a &&& b)
  exact BitVec.ofNat_and.symm
theorem iN_xor (a b : Nat) : iN a ^^^ iN b = iN (a ^^^ b) := by
  apply Int32.toBitVec_inj.mp
  show BitVec.ofNat 32 a ^^^ BitVec.ofNat 32 b = BitVec.ofNat 32 (a ^^^ b)
  exact BitVec.ofNat_xor.symm
/-- who is in t and not in m -/
def lss (t m : Nat) : Nat := t &&& (m ^^^ 4294967295)
theorem m1_iN : (-1 : Int32) = iN 4294967295 := rfl
theorem iN_lss (t m : Nat) : iN t &&& (iN m ^^^ (-1)) = iN (lss t m) := by rw [m1_iN, iN_xor, iN_and]; rfl
theorem lss_lt {t : Nat} (m : Nat) (h : t < 512) : lss t m < 512 := Nat.lt_of_le_of_lt Nat.and_le_left h
theorem tb_ff : ∀ j, j < 9 → (4294967295 : Nat).testBit j = true := by decide
theorem lss_tb {t m j : Nat} (hj : j < 9) : (lss t m).testBit j = (t.testBit j && !(m.testBit j)) := by
  unfold lss
  rw [Nat.testBit_and, Nat.testBit_xor, tb_ff j hj, Bool.xor_true]
theorem tb_ext {a b : Nat} (ha : a < 512) (hb : b < 512) (h : ∀ j, j < 9 → a.testBit j = b.testBit j) : a = b := by
  apply Nat.eq_of_testBit_eq
  intro j
  by_cases hj : j < 9
  · exact h j hj
  · have p9 : 2 ^ 9 ≤ 2 ^ j := Nat.pow_le_pow_right (by decide) (by omega)
    rw [Nat.testBit_lt_two_pow (x := a) (i := j) (by omega), Nat.testBit_lt_two_pow (x := b) (i := j) (by omega)]
theorem sub_tb {t m : Nat} (h : iN m &&& (iN t ^^^ (-1)) = 0) (hm : m < 512) : ∀ j, j < 9 → m.testBit j = true → t.testBit j = true := by
  intro j hj hb
  rw [iN_lss] at h
  have h := (iN_eq (b := 0) (by have := lss_lt t hm; omega) (by decide)).mp h
  have e := lss_tb (t := m) (m := t) hj
  rw [h, hb, Nat.zero_testBit, Bool.true_and] at e
  revert e
  cases t.testBit j <;> simp
/-- weights of a set -/
def wS (w : Nat → Int32) (k n : Nat) : Int32 := lp (fun p a => if k.testBit p then a + w p else a) 0 n
theorem wS_s (w : Nat → Int32) (k n : Nat) : wS w k (n + 1) = if k.testBit n then wS w k n + w n else wS w k n := rfl
def nS (w : Nat → Nat) (k n : Nat) : Nat := lp (fun p a => if k.testBit p then a + w p else a) 0 n
theorem nS_s (w : Nat → Nat) (k n : Nat) : nS w k (n + 1) = if k.testBit n then nS w k n + w n else nS w k n := rfl
theorem wS_nS {w : Nat → Int32} {wn : Nat → Nat} {k : Nat} : ∀ n, (∀ p, p < n → k.testBit p = true → w p = iN (wn p) ∧ wn p ≤ 999) → wS w k n = iN (nS wn k n) ∧ nS wn k n ≤ 999 * n := by
  intro n
  induction n with
  | zero => intro _; exact ⟨rfl, Nat.le_refl _⟩
  | succ n ih =>
    intro h
    obtain ⟨h1, h2⟩ := ih (fun p hp => h p (by omega))
    rw [wS_s, nS_s]
    by_cases e : k.testBit n = true
    · rw [if_pos e, if_pos e, h1, (h n (by omega) e).1, ← iN_add]
      have := (h n (by omega) e).2
      exact ⟨rfl, by omega⟩
    · rw [if_neg e, if_neg e]
      exact ⟨h1, by omega⟩
theorem nS_add {wn : Nat → Nat} {t m : Nat} (h : ∀ j, j < 9 → m.testBit j = true → t.testBit j = true) : ∀ n, n ≤ 9 → nS wn t n = nS wn m n + nS wn (lss t m) n := by
  intro n
  induction n with
  | zero => intro _; rfl
  | succ n ih =>
    intro hn
    have e := ih (by omega)
    have el := lss_tb (t := t) (m := m) (j := n) (by omega)
    have hs := h n (by omega)
    rw [nS_s, nS_s, nS_s, el]
    revert hs
    cases t.testBit n <;> cases m.testBit n
    · intro _; simp; exact e
    · intro hs; exact absurd (hs rfl) (by decide)
    · intro _; simp; omega
    · intro _; simp; omega
theorem kp_bd (v : Int32) : ∃ n, n ≤ 999 ∧ kp v 999 = iN n := by
  have h1 := kp_nn v 999
  have h2 : (kp v 999).toInt ≤ 999 := by
    have h9 : (999 : Int32).toInt = 999 := by decide
    unfold kp
    by_cases e : (999 : Int32) < v
    · rw [if_pos e]; decide
    · rw [if_neg e]
      by_cases e2 : (0 : Int32) < v
      · rw [if_pos e2]; rw [Int32.lt_iff_toInt_lt, h9] at e; omega
      · rw [if_neg e2]; decide
  rw [Int32.le_iff_toInt_le, show (0 : Int32).toInt = 0 by decide] at h1
  refine ⟨(kp v 999).toInt.toNat, by omega, ?_⟩
  apply Int32.toInt_inj.mp
  rw [iN_toInt (by omega)]; omega
theorem weighF_bd {q : PD} {c : Nat → Int32} {p b : Nat} (h : c (56 + 6 * p + b) ≠ 0) : ∃ n, n ≤ 999 ∧ weighF q c p b = iN n := by
  unfold weighF
  rw [if_neg h]
  split
  · exact kp_bd _
  · exact kp_bd _
theorem pos_ne {x : Int32} (h : 0 < x) : x ≠ 0 := fun e => by rw [e] at h; exact absurd h (by decide)
/-- a set pulls: by the rest, by the whole -/
theorem pull_eq {q : PD} (hq : q.1 ≤ 9) {c : Nat → Int32} {b t m : Nat} (ht : ∀ j, j < 9 → t.testBit j = true → j < q.1 ∧ 0 < c (56 + 6 * j + b)) (h : ∀ j, j < 9 → m.testBit j = true → t.testBit j = true) : (wS (fun p => weighF q c p b) m q.1 ≤ wS (fun p => weighF q c p b) (lss t m) q.1) ↔ 2 * wS (fun p => weighF q c p b) m q.1 ≤ wS (fun p => weighF q c p b) t q.1 := by
  have wn : ∀ k : Nat, (∀ j, j < 9 → k.testBit j = true → t.testBit j = true) → ∀ p, p < q.1 → k.testBit p = true → weighF q c p b = iN (weighF q c p b).toNatClampNeg ∧ (weighF q c p b).toNatClampNeg ≤ 999 := by
    intro k hk p hp hb
    obtain ⟨n, h1, h2⟩ := weighF_bd (q := q) (p := p) (b := b) (pos_ne (ht p (by omega) (hk p (by omega) hb)).2)
    rw [h2, iN_cl (by omega)]
    exact ⟨rfl, h1⟩
  obtain ⟨m1, m2⟩ := wS_nS (w := fun p => weighF q c p b) (wn := fun p => (weighF q c p b).toNatClampNeg) q.1 (wn m h)
  obtain ⟨l1, l2⟩ := wS_nS (w := fun p => weighF q c p b) (wn := fun p => (weighF q c p b).toNatClampNeg) q.1 (wn (lss t m) (fun j hj e => by rw [lss_tb hj, Bool.and_eq_true] at e; exact e.1))
  obtain ⟨t1, t2⟩ := wS_nS (w := fun p => weighF q c p b) (wn := fun p => (weighF q c p b).toNatClampNeg) q.1 (wn t (fun _ _ e => e))
  have ea := nS_add (wn := fun p => (weighF q c p b).toNatClampNeg) h q.1 hq
  rw [m1, l1, t1, show (2 : Int32) = iN 2 from rfl, ← iN_mul, iN_le (by omega) (by omega), iN_le (by omega) (by omega)]
  omega
/-! the class -/
theorem s_wSet {st : St} {p : Nat} {q : PD} (D : DSt st 3 p q) {w : Nat → Int32} {k b : Nat} (hk : k < 512) (hb : b < 6) (hw : ∀ x, x < q.1 → gA st 56 (6 * x + b) = w x) {post : Int32 → St → Prop} (h : post (wS w k q.1) st) : P_X6_weightOfSet 39 (iN k) (iN b) st post := by
  have q1 := D.ok.1
  refine ⟨q.1 + 1, loop_up (P := fun n i s st => P_X6_weightOfSet_5 39 (iN k) (iN b) post n s i st) (N := q.1) (fun i s st' => st' = st ∧ s = wS w k i) ?_ ?_ q.1 0 0 st (by omega) ⟨rfl, rfl⟩⟩
  · rintro i hi s st' n ⟨rfl, rfl⟩ ih
    have hs := wS_s w k i
    show P_X6_weightOfSet_5 39 (iN k) (iN b) post (n + 1) _ (iN i) st'
    unfold P_X6_weightOfSet_5
    rw [tb_all k hk i (by omega)]
    refine ⟨3, rfl, _, D.pl, pl_0 D.hp, fun hz => ?_, fun _ => ⟨fun hz => ?_, fun hz => ⟨⟨_, rfl⟩, s_wOf (by omega) hb ?_⟩⟩⟩
    · rw [D.np] at hz; exact absurd hz (nle (by omega) hi)
    · show P_X6_weightOfSet_5 39 (iN k) (iN b) post n _ (iN i + 1) st'
      rw [iN_s]
      exact ih _ _ ⟨rfl, by rw [hs, if_neg (fun e => hz (by rw [if_pos e]))]⟩
    · rw [hw i hi]
      show P_X6_weightOfSet_5 39 (iN k) (iN b) post n (wS w k i + w i) (iN i + 1) st'
      rw [iN_s]
      refine ih _ _ ⟨rfl, ?_⟩
      by_cases e : k.testBit i = true
      · rw [hs, if_pos e]
      · rw [if_neg e] at hz; exact absurd hz (by decide)
  · rintro s st' n ⟨rfl, rfl⟩
    show P_X6_weightOfSet_5 39 (iN k) (iN b) post (n + 1) _ (iN q.1) st'
    unfold P_X6_weightOfSet_5
    exact ⟨3, rfl, _, D.pl, pl_0 D.hp, fun _ => h, fun hz => absurd (by rw [D.np]; exact Int32.le_refl _) hz⟩
theorem s_pulls {st : St} {p : Nat} {q : PD} (D : DSt st 3 p q) {w : Nat → Int32} {m t b : Nat} (hm : m < 512) (ht : t < 512) (hb : b < 6) (hw : ∀ x, x < q.1 → gA st 56 (6 * x + b) = w x) {post : Int32 → St → Prop} (h0 : wS w m q.1 ≤ wS w (lss t m) q.1 → post 0 st) (h1 : ¬ wS w m q.1 ≤ wS w (lss t m) q.1 → post 1 st) : P_X6_pulls 39 (iN m) (iN t) (iN b) st post := by
  refine ⟨⟨_, rfl⟩, s_wSet D hm hb hw ⟨⟨_, rfl⟩, ?_⟩⟩
  rw [iN_lss]
  exact s_wSet D (lss_lt m ht) hb hw ⟨fun hz => ⟨Or.inl rfl, h0 hz⟩, fun hz => ⟨Or.inr rfl, h1 hz⟩⟩
/-! what the tug answers -/
def tgW (q : PD) (c : Nat → Int32) (b k : Nat) : Int32 := wS (fun p => weighF q c p b) k q.1
def tgF (q : PD) (c : Nat → Int32) (b t n : Nat) : Int32 × Int32 := lp (fun m s => if 0 < m ∧ iN m &&& (iN t ^^^ (-1)) = 0 ∧ ¬ 2 * tgW q c b m ≤ tgW q c b t ∧ bc (iN m) < s.2 then (iN m, bc (iN m)) else s) ((-1 : Int32), (10 : Int32)) n
theorem tg_s (q : PD) (c : Nat → Int32) (b t n : Nat) : tgF q c b t (n + 1) = if 0 < n ∧ iN n &&& (iN t ^^^ (-1)) = 0 ∧ ¬ 2 * tgW q c b n ≤ tgW q c b t ∧ bc (iN n) < (tgF q c b t n).2 then (iN n, bc (iN n)) else tgF q c b t n := rfl
theorem tg_1 (q : PD) (c : Nat → Int32) (b t : Nat) : tgF q c b t 1 = (-1, 10) := by rw [tg_s, if_neg (by omega)]; rfl
theorem bc_lt10 : ∀ k, k < 512 → bc (iN k) < 10 := by decide +kernel
theorem tg_inv (q : PD) (c : Nat → Int32) (b t : Nat) : ∀ n, n ≤ 512 → (tgF q c b t n = (-1, 10)) ∨ ∃ m, m < 512 ∧ tgF q c b t n = (iN m, bc (iN m)) := by
  intro n
  induction n with
  | zero => intro _; exact Or.inl rfl
  | succ n ih =>
    intro hn
    rw [tg_s]
    split
    · exact Or.inr ⟨n, by omega, rfl⟩
    · exact ih (by omega)
theorem s_tgC {st : St} {p : Nat} {q : PD} (D : DSt st 3 p q) {c : Nat → Int32} {b t : Nat} (hb : b < 6) (ht : t < 512) (hts : ∀ j, j < 9 → t.testBit j = true → j < q.1 ∧ 0 < c (56 + 6 * j + b)) (hw : ∀ x, x < q.1 → gA st 56 (6 * x + b) = weighF q c x b) {post : Int32 → St → Prop} (h : post (tgF q c b t (t + 1)).1 st) : ∃ n8, P_X6_fewestThatPull_23 39 (iN b) post n8 (iN t) (-1) 10 1 st := by
  have q1 := D.ok.1
  refine ⟨t + 1, loop_up (α := Int32 × Int32) (P := fun n i s st => P_X6_fewestThatPull_23 39 (iN b) post n (iN t) s.1 s.2 i st) (N := t + 1) (fun i s st' => st' = st ∧ 1 ≤ i ∧ s = tgF q c b t i) ?_ ?_ t 1 (-1, 10) st (by omega) ⟨rfl, by omega, (tg_1 q c b t).symm⟩⟩
  · rintro i hi s st' n ⟨rfl, hi1, rfl⟩ ih
    have hs := tg_s q c b t i
    have skip : ¬ (0 < i ∧ iN i &&& (iN t ^^^ (-1)) = 0 ∧ ¬ 2 * tgW q c b i ≤ tgW q c b t ∧ bc (iN i) < (tgF q c b t i).2) → P_X6_fewestThatPull_23 39 (iN b) post n (iN t) (tgF q c b t i).1 (tgF q c b t i).2 (iN i + 1) st' := fun hn => by
      rw [iN_s]
      exact ih _ _ ⟨rfl, by omega, by rw [hs, if_neg hn]⟩
    show P_X6_fewestThatPull_23 39 (iN b) post (n + 1) (iN t) _ _ (iN i) st'
    unfold P_X6_fewestThatPull_23
    refine ⟨fun hz => ?_, fun _ => s_bitCount ⟨fun h1 => skip (fun e => h1 e.2.1), fun h1 => ⟨fun h2 => skip (fun e => absurd e.2.2.2 (Int32.not_lt.mpr h2)), fun h2 => ⟨⟨_, rfl⟩, s_pulls (w := fun x => weighF q c x b) D (by omega) ht hb hw (fun h3 => ⟨fun _ => skip (fun e => e.2.2.1 ?_), fun hz => absurd rfl hz⟩) (fun h3 => ⟨fun hz => absurd hz (by decide), fun _ => ?_⟩)⟩⟩⟩⟩
    · rw [iN_lt (by omega) (by omega)] at hz; omega
    · exact (pull_eq q1 hts (sub_tb h1 (by omega))).mp h3
    · show P_X6_fewestThatPull_23 39 (iN b) post n (iN t) (iN i) (bc (iN i)) (iN i + 1) st'
      rw [iN_s]
      refine ih (iN i, bc (iN i)) _ ⟨rfl, by omega, ?_⟩
      rw [hs, if_pos ⟨by omega, h1, fun z => h3 ((pull_eq q1 hts (sub_tb h1 (by omega))).mpr z), Int32.not_le.mp h2⟩]
  · rintro s st' n ⟨rfl, hi1, rfl⟩
    show P_X6_fewestThatPull_23 39 (iN b) post (n + 1) (iN t) _ _ (iN (t + 1)) st'
    unfold P_X6_fewestThatPull_23
    exact ⟨fun _ => h, fun hz => absurd ((iN_lt (by omega) (by omega)).mpr (by omega)) hz⟩
/-! the reference -/
theorem s_wsM {st : St} {q : PD} (M : MPl st q) {C : Nat → Int32} (hm : mC q.2.1 st = C) (hC : CI q C) {k b : Nat} (hk : k < 512) (hb : b < q.2.1) {post : Int32 → St → Prop} (h : ∀ st1, Ex SMw st st1 → post (tgW q C b k) st1) : P_X12_weights 58 (iN k) (iN b) st post := by
  have q1 := M.np
  refine ⟨q.1 + 1, loop_up (P := fun n i s st => P_X12_weights_5 58 (iN k) (iN b) post n s i st) (N := q.1) (fun i s st' => Ex SMw st st' ∧ s = wS (fun p => weighF q C p b) k i) ?_ ?_ q.1 0 0 st (by omega) ⟨Ex.rf, rfl⟩⟩
  · rintro i hi s st' n ⟨E1, rfl⟩ ih
    have hs := wS_s (fun p => weighF q C p b) k i
    have M1 := M.ex E1 smw_p
    have e1 : mC q.2.1 st' = C := (mC_ex E1 smw_m _).trans hm
    show P_X12_weights_5 58 (iN k) (iN b) post (n + 1) _ (iN i) st'
    unfold P_X12_weights_5
    refine ⟨62, rfl, v0_10, fun hz => ?_, fun _ => s_isOf hk (by omega) ⟨fun hz => ?_, fun hz => ⟨⟨_, rfl⟩, s_weightOf (nb := q.2.1) M1 hi hb (by rw [e1]; exact hC) (fun st2 E2 => ?_)⟩⟩⟩
    · rw [M1.e0] at hz; exact absurd hz (nle (by omega) hi)
    · show P_X12_weights_5 58 (iN k) (iN b) post n (_ + 0) (iN i + 1) st'
      rw [iN_s, Int32.add_zero]
      exact ih _ _ ⟨E1, by rw [hs, if_neg (ite1 hz)]⟩
    · rw [e1]
      show P_X12_weights_5 58 (iN k) (iN b) post n (wS (fun p => weighF q C p b) k i + weighF q C i b) (iN i + 1) st2
      rw [iN_s]
      exact ih _ _ ⟨E1.tr E2, by rw [hs, if_pos (ite2 hz)]⟩
  · rintro s st' n ⟨E1, rfl⟩
    have M1 := M.ex E1 smw_p
    show P_X12_weights_5 58 (iN k) (iN b) post (n + 1) _ (iN q.1) st'
    unfold P_X12_weights_5
    exact ⟨62, rfl, v0_10, fun _ => h st' E1, fun hz => absurd (by rw [M1.e0]; exact Int32.le_refl _) hz⟩
theorem s_tgM {st : St} {q : PD} (M : MPl st q) {C : Nat → Int32} (hm : mC q.2.1 st = C) (hC : CI q C) {b t : Nat} (hb : b < q.2.1) (ht : t < 512) {post : Int32 → St → Prop} (h : ∀ st1, Ex SMw st st1 → post (tgF q C b t (t + 1)).1 st1) : ∃ n8, P_X12_tug_38 58 (iN b) post n8 (iN t) (tgW q C b t) (-1) 1 st := by
  refine ⟨t + 1, loop_up (P := fun n i s st => P_X12_tug_38 58 (iN b) post n (iN t) (tgW q C b t) s i st) (N := t + 1) (fun i s st' => Ex SMw st st' ∧ 1 ≤ i ∧ s = (tgF q C b t i).1) ?_ ?_ t 1 (-1) st (by omega) ⟨Ex.rf, by omega, by rw [tg_1]⟩⟩
  · rintro i hi s st' n ⟨E1, hi1, rfl⟩ ih
    have hs := tg_s q C b t i
    have M1 := M.ex E1 smw_p
    have e1 : mC q.2.1 st' = C := (mC_ex E1 smw_m _).trans hm
    have skip : ∀ s2, Ex SMw st s2 → ¬ (0 < i ∧ iN i &&& (iN t ^^^ (-1)) = 0 ∧ ¬ 2 * tgW q C b i ≤ tgW q C b t ∧ bc (iN i) < (tgF q C b t i).2) → P_X12_tug_38 58 (iN b) post n (iN t) (tgW q C b t) (tgF q C b t i).1 (iN i + 1) s2 := fun s2 E2 hn => by
      rw [iN_s]
      exact ih _ _ ⟨E2, by omega, by rw [hs, if_neg hn]⟩
    have take : ∀ s2, Ex SMw st s2 → (0 < i ∧ iN i &&& (iN t ^^^ (-1)) = 0 ∧ ¬ 2 * tgW q C b i ≤ tgW q C b t ∧ bc (iN i) < (tgF q C b t i).2) → P_X12_tug_38 58 (iN b) post n (iN t) (tgW q C b t) (iN i) (iN i + 1) s2 := fun s2 E2 hn => by
      rw [iN_s]
      exact ih _ _ ⟨E2, by omega, by rw [hs, if_pos hn]⟩
    show P_X12_tug_38 58 (iN b) post (n + 1) (iN t) _ _ (iN i) st'
    unfold P_X12_tug_38
    refine ⟨fun hz => ?_, fun _ => ⟨fun h1 => skip st' E1 (fun e => h1 e.2.1), fun h1 => ⟨⟨_, rfl⟩, s_wsM M1 e1 hC (by omega) hb (fun s2 E2 => ⟨fun h2 => skip s2 (E1.tr E2) (fun e => e.2.2.1 h2), fun h2 => ?_⟩)⟩⟩⟩
    · rw [iN_lt (by omega) (by omega)] at hz; omega
    rcases tg_inv q C b t i (by omega) with e | ⟨m, hm9, e⟩
    · refine ⟨fun _ => take s2 (E1.tr E2) ⟨by omega, h1, h2, by rw [e]; exact bc_lt10 i (by omega)⟩, fun hz => absurd (by rw [e]) hz⟩
    · refine ⟨fun hz => ?_, fun _ => s_bitsOf ⟨i, by omega, rfl⟩ (s_bitsOf (by rw [e]; exact ⟨m, hm9, rfl⟩) ⟨fun h3 => skip s2 (E1.tr E2) (fun z => ?_), fun h3 => take s2 (E1.tr E2) ⟨by omega, h1, h2, ?_⟩⟩)⟩
      · rw [e] at hz; exact absurd hz (iN_ne_m1 (by omega))
      · rw [e] at h3 z; exact absurd z.2.2.2 (Int32.not_lt.mpr h3)
      · rw [e] at h3 ⊢; exact Int32.not_le.mp h3
  · rintro s st' n ⟨E1, hi1, rfl⟩
    show P_X12_tug_38 58 (iN b) post (n + 1) (iN t) _ _ (iN (t + 1)) st'
    unfold P_X12_tug_38
    exact ⟨fun _ => h st' E1, fun hz => absurd ((iN_lt (by omega) (by omega)).mpr (by omega)) hz⟩
theorem c_tug {a : Int32} {st : St} (hI : Inv st) : P_L_tug a st (fun k st1 => Bth (P_X12_tug 58 a) k st1) := by
  obtain ⟨v, H, HM, HO⟩ := hI
  obtain ⟨p, D⟩ := H.D
  have q1 := HO.1.1
  have q2 := HO.1.2.1
  have hc := H.c
  by_cases ha : isI v.1.2.1 a
  · obtain ⟨x, hx, rfl⟩ := ha
    obtain ⟨t, t1, t2, t3⟩ := tiedS_set q1 v.2.1.1 x
    have t9 := pow9 q1 t1
    refine h_ok (PC := fun post pex => P_X11_tug 0 (iN x) st post pex) (PM := P_X12_tug 58 (iN x)) (v2 := v) (r := (tgF v.1 v.2.1.1 x t (t + 1)).1) HM HO (fun post h => ?_) (fun s1 post I0 h => ?_)
    · refine ⟨tb_out, s_needB D hx ⟨39, rfl, ⟨_, rfl⟩, ⟨_, rfl⟩, s_weighFor D (by omega) (fun st1 E1 e1 _ => ⟨3, rfl, ⟨_, rfl⟩, s_peopleTiedTo (D.ex npl_scw E1) (by omega) ?_⟩)⟩⟩
      rw [ch31, E1.eA scw4, hc, t2]
      rw [hc] at e1
      have Q1 := QFr.ex E1 scw_sc H.tp
      exact s_tgC (D.ex npl_scw E1) (by omega) t9 (fun j hj e => (t3 j hj).mp e) e1 (h st1 Q1.cfr (H.qfr Q1))
    · have I1 := (m_beg I0).1
      have eC := I1.c
      refine ⟨rfl, ⟨_, rfl⟩, s_isB I1.1 hx ⟨fun _ => ⟨⟨_, rfl⟩, s_tiedTo (nb := v.1.2.1) I1.1 (by omega) ?_⟩, fun hz => absurd hz (by decide)⟩⟩
      rw [eC, t2]
      refine ⟨⟨_, rfl⟩, s_wsM I1.1 eC HO.2.2.1.1.1 t9 hx (fun s2 E2 => s_tgM (I1.1.ex E2 smw_p) ((mC_ex E2 smw_m _).trans eC) HO.2.2.1.1.1 hx t9 (fun s3 E3 => ?_))⟩
      obtain ⟨g1, g2, g3⟩ := m_qe I0 (E2.tr E3) smw_sc
      exact h s3 g1 g2 g3
  · refine h_thr (PC := fun post pex => P_X11_tug 0 a st post pex) (PM := P_X12_tug 58 a) (X := NSE) (k := 1) (by decide) H HM HO (fun pex h => ⟨tb_out, s_needB0 D ha h⟩) (fun s1 post I0 h => ?_) (fun h => ⟨rfl, h⟩)
    exact ⟨rfl, ⟨_, rfl⟩, s_isB0 (m_beg I0).1.1 ha ⟨fun hz => absurd rfl hz, fun _ => ⟨⟨_, rfl⟩, m_fail I0 h⟩⟩⟩
/-! decisive -/
theorem bit_iN : ∀ p, p < 9 → bit p = iN (2 ^ p) := by decide
theorem and_bit : ∀ m, m < 512 → ∀ p, p < 9 → (iN m &&& bit p = 0 ↔ m.testBit p = false) := by decide +kernel
def dcF (q : PD) (c : Nat → Int32) (x b t n : Nat) : Int32 := lp (fun m s => if 0 < m ∧ iN m &&& (iN t ^^^ (-1)) = 0 ∧ m.testBit x = true ∧ ¬ 2 * tgW q c b m ≤ tgW q c b t ∧ 2 * tgW q c b (lss m (2 ^ x)) ≤ tgW q c b t then s + 1 else s) 0 n
theorem dc_s (q : PD) (c : Nat → Int32) (x b t n : Nat) : dcF q c x b t (n + 1) = if 0 < n ∧ iN n &&& (iN t ^^^ (-1)) = 0 ∧ n.testBit x = true ∧ ¬ 2 * tgW q c b n ≤ tgW q c b t ∧ 2 * tgW q c b (lss n (2 ^ x)) ≤ tgW q c b t then dcF q c x b t n + 1 else dcF q c x b t n := rfl
theorem dc_1 (q : PD) (c : Nat → Int32) (x b t : Nat) : dcF q c x b t 1 = 0 := by rw [dc_s, if_neg (by omega)]; rfl
theorem s_dcC {st : St} {p : Nat} {q : PD} (D : DSt st 3 p q) {c : Nat → Int32} {x b t : Nat} (hx : x < 9) (hb : b < 6) (ht : t < 512) (hts : ∀ j, j < 9 → t.testBit j = true → j < q.1 ∧ 0 < c (56 + 6 * j + b)) (hw : ∀ x, x < q.1 → gA st 56 (6 * x + b) = weighF q c x b) {post : Int32 → St → Prop} (h : post (dcF q c x b t (t + 1)) st) : ∃ n8, P_X6_setsDecidedBy_25 39 (iN x) (iN b) post n8 (iN t) (bit x) 0 1 st := by
  have q1 := D.ok.1
  refine ⟨t + 1, loop_up (P := fun n i s st => P_X6_setsDecidedBy_25 39 (iN x) (iN b) post n (iN t) (bit x) s i st) (N := t + 1) (fun i s st' => st' = st ∧ 1 ≤ i ∧ s = dcF q c x b t i) ?_ ?_ t 1 0 st (by omega) ⟨rfl, by omega, (dc_1 q c x b t).symm⟩⟩
  · rintro i hi s st' n ⟨rfl, hi1, rfl⟩ ih
    have hs := dc_s q c x b t i
    have skip : ¬ (0 < i ∧ iN i &&& (iN t ^^^ (-1)) = 0 ∧ i.testBit x = true ∧ ¬ 2 * tgW q c b i ≤ tgW q c b t ∧ 2 * tgW q c b (lss i (2 ^ x)) ≤ tgW q c b t) → P_X6_setsDecidedBy_25 39 (iN x) (iN b) post n (iN t) (bit x) (dcF q c x b t i) (iN i + 1) st' := fun hn => by
      rw [iN_s]
      exact ih _ _ ⟨rfl, by omega, by rw [hs, if_neg hn]⟩
    show P_X6_setsDecidedBy_25 39 (iN x) (iN b) post (n + 1) (iN t) (bit x) _ (iN i) st'
    unfold P_X6_setsDecidedBy_25
    refine ⟨fun hz => ?_, fun _ => ⟨fun h1 => ⟨fun _ => skip (fun e => h1 e.2.1), fun hz => absurd rfl hz⟩, fun h1 => ⟨fun h2 => ⟨fun _ => skip (fun e => ?_), fun hz => absurd rfl hz⟩, fun h2 => ⟨fun hz => absurd hz (by decide), fun _ => ⟨⟨_, rfl⟩, s_pulls (w := fun x => weighF q c x b) D (by omega) ht hb hw (fun h3 => ⟨fun _ => skip (fun e => e.2.2.2.1 ((pull_eq q1 hts (sub_tb h1 (by omega))).mp h3)), fun hz => absurd rfl hz⟩) (fun h3 => ⟨fun hz => absurd hz (by decide), fun _ => ⟨⟨_, rfl⟩, ?_⟩⟩)⟩⟩⟩⟩⟩
    · rw [iN_lt (by omega) (by omega)] at hz; omega
    · have := (and_bit i (by omega) x hx).mp h2
      rw [e.2.2.1] at this; exact absurd this (by decide)
    · have hb1 : i.testBit x = true := by
        cases e : i.testBit x
        · exact absurd ((and_bit i (by omega) x hx).mpr e) h2
        · rfl
      have hsub := sub_tb h1 (show i < 512 by omega)
      have hsub2 : ∀ j, j < 9 → (lss i (2 ^ x)).testBit j = true → t.testBit j = true := fun j hj e => by
        rw [lss_tb hj, Bool.and_eq_true] at e
        exact hsub j hj e.1
      rw [bit_iN x hx, iN_lss]
      refine s_pulls (w := fun x => weighF q c x b) D (lss_lt _ (by omega)) ht hb hw (fun h4 => ⟨fun hz => absurd rfl hz, fun _ => ?_⟩) (fun h4 => ⟨fun _ => ?_, fun hz => absurd hz (by decide)⟩)
      · show P_X6_setsDecidedBy_25 39 (iN x) (iN b) post n (iN t) (iN (2 ^ x)) (dcF q c x b t i + 1) (iN i + 1) st'
        rw [iN_s, ← bit_iN x hx]
        refine ih _ _ ⟨rfl, by omega, ?_⟩
        rw [hs, if_pos ⟨by omega, h1, hb1, fun z => h3 ((pull_eq q1 hts hsub).mpr z), (pull_eq q1 hts hsub2).mp h4⟩]
      · rw [← bit_iN x hx]
        exact skip (fun e => h4 ((pull_eq q1 hts hsub2).mpr e.2.2.2.2))
  · rintro s st' n ⟨rfl, hi1, rfl⟩
    show P_X6_setsDecidedBy_25 39 (iN x) (iN b) post (n + 1) (iN t) (bit x) _ (iN (t + 1)) st'
    unfold P_X6_setsDecidedBy_25
    exact ⟨fun _ => h, fun hz => absurd ((iN_lt (by omega) (by omega)).mpr (by omega)) hz⟩
theorem s_dcM {st : St} {q : PD} (M : MPl st q) {C : Nat → Int32} (hm : mC q.2.1 st = C) (hC : CI q C) {x b t : Nat} (hx : x < 9) (hb : b < q.2.1) (ht : t < 512) {post : Int32 → St → Prop} (h : ∀ st1, Ex SMw st st1 → post (dcF q C x b t (t + 1)) st1) : ∃ n8, P_X12_decisive_47 58 (iN x) (iN b) post n8 (iN t) (tgW q C b t) 0 1 st := by
  refine ⟨t + 1, loop_up (P := fun n i s st => P_X12_decisive_47 58 (iN x) (iN b) post n (iN t) (tgW q C b t) s i st) (N := t + 1) (fun i s st' => Ex SMw st st' ∧ 1 ≤ i ∧ s = dcF q C x b t i) ?_ ?_ t 1 0 st (by omega) ⟨Ex.rf, by omega, by rw [dc_1]⟩⟩
  · rintro i hi s st' n ⟨E1, hi1, rfl⟩ ih
    have hs := dc_s q C x b t i
    have M1 := M.ex E1 smw_p
    have e1 : mC q.2.1 st' = C := (mC_ex E1 smw_m _).trans hm
    have skip : ∀ s2, Ex SMw st s2 → ¬ (0 < i ∧ iN i &&& (iN t ^^^ (-1)) = 0 ∧ i.testBit x = true ∧ ¬ 2 * tgW q C b i ≤ tgW q C b t ∧ 2 * tgW q C b (lss i (2 ^ x)) ≤ tgW q C b t) → P_X12_decisive_47 58 (iN x) (iN b) post n (iN t) (tgW q C b t) (dcF q C x b t i) (iN i + 1) s2 := fun s2 E2 hn => by
      rw [iN_s]
      exact ih _ _ ⟨E2, by omega, by rw [hs, if_neg hn]⟩
    have eb : iN i &&& ((1 : Int32) <<< ((iN x : Int32) &&& 31) ^^^ (-1)) = iN (lss i (2 ^ x)) := by
      show iN i &&& (bit x ^^^ (-1)) = _
      rw [bit_iN x hx, iN_lss]
    show P_X12_decisive_47 58 (iN x) (iN b) post (n + 1) (iN t) _ _ (iN i) st'
    unfold P_X12_decisive_47
    rw [eb]
    refine ⟨fun hz => ?_, fun _ => ⟨fun h1 => skip st' E1 (fun e => h1 e.2.1), fun h1 => s_isOf (by omega) hx ⟨fun h2 => skip st' E1 (fun e => ite1 h2 e.2.2.1), fun h2 => ⟨⟨_, rfl⟩, s_wsM M1 e1 hC (by omega) hb (fun s2 E2 => ⟨fun h3 => skip s2 (E1.tr E2) (fun e => e.2.2.2.1 h3), fun h3 => ⟨⟨_, rfl⟩, s_wsM (M1.ex E2 smw_p) ((mC_ex E2 smw_m _).trans e1) hC (lss_lt _ (by omega)) hb (fun s3 E3 => ⟨fun h4 => skip s3 ((E1.tr E2).tr E3) (fun e => absurd e.2.2.2.2 (Int32.not_le.mpr h4)), fun h4 => ?_⟩)⟩⟩)⟩⟩⟩⟩
    · rw [iN_lt (by omega) (by omega)] at hz; omega
    · show P_X12_decisive_47 58 (iN x) (iN b) post n (iN t) (tgW q C b t) (dcF q C x b t i + 1) (iN i + 1) s3
      rw [iN_s]
      refine ih _ _ ⟨(E1.tr E2).tr E3, by omega, ?_⟩
      rw [hs, if_pos ⟨by omega, h1, ite2 h2, h3, Int32.not_lt.mp h4⟩]
  · rintro s st' n ⟨E1, hi1, rfl⟩
    show P_X12_decisive_47 58 (iN x) (iN b) post (n + 1) (iN t) _ _ (iN (t + 1)) st'
    unfold P_X12_decisive_47
    exact ⟨fun _ => h st' E1, fun hz => absurd ((iN_lt (by omega) (by omega)).mpr (by omega)) hz⟩
theorem c_decisive {a b : Int32} {st : St} (hI : Inv st) : P_L_decisive a b st (fun k st1 => Bth (P_X12_decisive 58 a b) k st1) := by
  obtain ⟨v, H, HM, HO⟩ := hI
  obtain ⟨p, D⟩ := H.D
  have q1 := HO.1.1
  have q2 := HO.1.2.1
  have hc := H.c
  by_cases ha : isI v.1.1 a
  · obtain ⟨x, hx, rfl⟩ := ha
    by_cases hb : isI v.1.2.1 b
    · obtain ⟨y, hy, rfl⟩ := hb
      obtain ⟨t, t1, t2, t3⟩ := tiedS_set q1 v.2.1.1 y
      have t9 := pow9 q1 t1
      refine h_ok (PC := fun post pex => P_X11_decisive 0 (iN x) (iN y) st post pex) (PM := P_X12_decisive 58 (iN x) (iN y)) (v2 := v) (r := dcF v.1 v.2.1.1 x y t (t + 1)) HM HO (fun post h => ?_) (fun s1 post I0 h => ?_)
      · refine ⟨tb_out, s_needP D hx ⟨tb_out, s_needB D hy ⟨39, rfl, ⟨_, rfl⟩, ⟨_, rfl⟩, s_weighFor D (by omega) (fun st1 E1 e1 _ => ⟨3, rfl, ⟨_, rfl⟩, s_peopleTiedTo (D.ex npl_scw E1) (by omega) ?_⟩)⟩⟩⟩
        rw [ch31, E1.eA scw4, hc, t2]
        rw [hc] at e1
        have Q1 := QFr.ex E1 scw_sc H.tp
        exact s_dcC (D.ex npl_scw E1) (by omega) (by omega) t9 (fun j hj e => (t3 j hj).mp e) e1 (h st1 Q1.cfr (H.qfr Q1))
      · have I1 := (m_beg I0).1
        have eC := I1.c
        refine ⟨rfl, ⟨_, rfl⟩, s_isP I1.1 hx ⟨fun hz => absurd hz (by decide), fun _ => ⟨⟨_, rfl⟩, s_isB I1.1 hy ⟨fun _ => ⟨⟨_, rfl⟩, s_tiedTo (nb := v.1.2.1) I1.1 (by omega) ?_⟩, fun hz => absurd hz (by decide)⟩⟩⟩⟩
        rw [eC, t2]
        refine ⟨⟨_, rfl⟩, s_wsM I1.1 eC HO.2.2.1.1.1 t9 hy (fun s2 E2 => s_dcM (I1.1.ex E2 smw_p) ((mC_ex E2 smw_m _).trans eC) HO.2.2.1.1.1 (by omega) hy t9 (fun s3 E3 => ?_))⟩
        obtain ⟨g1, g2, g3⟩ := m_qe I0 (E2.tr E3) smw_sc
        exact h s3 g1 g2 g3
    · refine h_thr (PC := fun post pex => P_X11_decisive 0 (iN x) b st post pex) (PM := P_X12_decisive 58 (iN x) b) (X := NSE) (k := 1) (by decide) H HM HO (fun pex h => ⟨tb_out, s_needP D hx ⟨tb_out, s_needB0 D hb h⟩⟩) (fun s1 post I0 h => ?_) (fun h => ⟨rfl, h⟩)
      exact ⟨rfl, ⟨_, rfl⟩, s_isP (m_beg I0).1.1 hx ⟨fun hz => absurd hz (by decide), fun _ => ⟨⟨_, rfl⟩, s_isB0 (m_beg I0).1.1 hb ⟨fun hz => absurd rfl hz, fun _ => ⟨⟨_, rfl⟩, m_fail I0 h⟩⟩⟩⟩⟩
  · refine h_thr (PC := fun post pex => P_X11_decisive 0 a b st post pex) (PM := P_X12_decisive 58 a b) (X := NSE) (k := 1) (by decide) H HM HO (fun pex h => ⟨tb_out, s_needP0 D ha h⟩) (fun s1 post I0 h => ?_) (fun h => ⟨rfl, h⟩)
    exact ⟨rfl, ⟨_, rfl⟩, s_isP0 (m_beg I0).1.1 ha ⟨fun _ => ⟨⟨_, rfl⟩, m_fail I0 h⟩, fun hz => absurd rfl hz⟩⟩
