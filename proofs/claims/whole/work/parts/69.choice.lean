/-! PURE: choice -/
theorem loop_dn {α : Type} {P : Nat → Int32 → α → St → Prop} {L : Nat} (J : Nat → α → St → Prop)
    (hstep : ∀ r, L ≤ r → ∀ a st n, J (r + 1) a st → (∀ a' st', J r a' st' → P n (iN r - 1) a' st') → P (n + 1) (iN r) a st)
    (hend : ∀ a st n, J L a st → P (n + 1) (iN L - 1) a st) :
    ∀ (k : Nat) (a : α) (st : St), J (L + k) a st → P (k + 1) (iN (L + k) - 1) a st := by
  intro k
  induction k with
  | zero => intro a st hJ; exact hend a st 0 hJ
  | succ k ih =>
    intro a st hJ
    rw [show L + (k + 1) = (L + k) + 1 by omega, iN_m1 (by omega), Nat.add_sub_cancel]
    exact hstep (L + k) (by omega) a st (k + 1) hJ (fun a' st' h' => ih a' st' h')
/-- the most that the last m brides can have, if a set is taken -/
def mstF (q : PD) (c : Nat → Int32) (b : Nat) (f : Nat → Int32) (k n : Nat) : Int32 := lp (fun p s => if c (38 + 3 * b + 1) = 1 ∧ k.testBit p = false ∧ 0 < c (56 + 6 * p + b) then (if s < weighF q c p b + f (k ||| 2 ^ p) then weighF q c p b + f (k ||| 2 ^ p) else s) else s) (f k) n
theorem mst_s (q : PD) (c : Nat → Int32) (b : Nat) (f : Nat → Int32) (k n : Nat) : mstF q c b f k (n + 1) = if c (38 + 3 * b + 1) = 1 ∧ k.testBit n = false ∧ 0 < c (56 + 6 * n + b) then (if mstF q c b f k n < weighF q c n b + f (k ||| 2 ^ n) then weighF q c n b + f (k ||| 2 ^ n) else mstF q c b f k n) else mstF q c b f k n := rfl
def vD (q : PD) (c : Nat → Int32) : Nat → Nat → Int32
  | 0 => fun _ => 0
  | m + 1 => fun k => mstF q c (q.2.1 - 1 - m) (vD q c m) k q.1
theorem vD_s (q : PD) (c : Nat → Int32) (m k : Nat) : vD q c (m + 1) k = mstF q c (q.2.1 - 1 - m) (vD q c m) k q.1 := rfl
theorem mst_out {q : PD} {c : Nat → Int32} {b : Nat} (h : c (38 + 3 * b + 1) ≠ 1) (f : Nat → Int32) (k : Nat) : ∀ n, mstF q c b f k n = f k := by
  intro n
  induction n with
  | zero => rfl
  | succ n ih => rw [mst_s, if_neg (fun z => h z.1)]; exact ih
theorem mst_att (q : PD) (c : Nat → Int32) (b : Nat) (f : Nat → Int32) (k : Nat) : ∀ n, mstF q c b f k n = f k ∨ ∃ p, p < n ∧ (c (38 + 3 * b + 1) = 1 ∧ k.testBit p = false ∧ 0 < c (56 + 6 * p + b)) ∧ weighF q c p b + f (k ||| 2 ^ p) = mstF q c b f k n := by
  intro n
  induction n with
  | zero => exact Or.inl rfl
  | succ n ih =>
    rw [mst_s]
    have keep : mstF q c b f k n = f k ∨ ∃ p, p < n + 1 ∧ (c (38 + 3 * b + 1) = 1 ∧ k.testBit p = false ∧ 0 < c (56 + 6 * p + b)) ∧ weighF q c p b + f (k ||| 2 ^ p) = mstF q c b f k n := by
      rcases ih with h | ⟨p, h1, h2⟩
      · exact Or.inl h
      · exact Or.inr ⟨p, by omega, h2⟩
    by_cases e : c (38 + 3 * b + 1) = 1 ∧ k.testBit n = false ∧ 0 < c (56 + 6 * n + b)
    · rw [if_pos e]
      by_cases e2 : mstF q c b f k n < weighF q c n b + f (k ||| 2 ^ n)
      · rw [if_pos e2]; exact Or.inr ⟨n, by omega, e, rfl⟩
      · rw [if_neg e2]; exact keep
    · rw [if_neg e]; exact keep
theorem bit10 : ∀ p, p < 10 → bit p = iN (2 ^ p) := by decide
theorem or2_lt {k p n : Nat} (hk : k < 2 ^ n) (hp : p < n) : k ||| 2 ^ p < 2 ^ n := Nat.or_lt_two_pow hk (Nat.pow_lt_pow_right (by decide) hp)
theorem or2_gt {k p : Nat} (h : k.testBit p = false) : k < k ||| 2 ^ p := by
  have h1 : k ≤ k ||| 2 ^ p := Nat.left_le_or
  rcases Nat.lt_or_eq_of_le h1 with h2 | h2
  · exact h2
  · exfalso
    have e := Nat.testBit_or k (2 ^ p) p
    rw [← h2, h, Nat.testBit_two_pow_self] at e
    exact absurd e (by decide)
/-- who may be chosen for her -/
def fitP (q : PD) (c : Nat → Int32) (b k p : Nat) : Prop := (c (38 + 3 * b + 1) = 1 ∧ k.testBit p = false ∧ 0 < c (56 + 6 * p + b)) ∧ weighF q c p b + vD q c (q.2.1 - 1 - b) (k ||| 2 ^ p) = vD q c (q.2.1 - b) k
def isFst (q : PD) (c : Nat → Int32) (b k lo hi : Nat) (s : Int32) : Prop := (s = -1 ∧ ∀ p, lo ≤ p → p < hi → ¬ fitP q c b k p) ∨ ∃ p, lo ≤ p ∧ p < hi ∧ s = iN p ∧ fitP q c b k p ∧ ∀ p2, lo ≤ p2 → p2 < p → ¬ fitP q c b k p2
theorem fst_un {q : PD} {c : Nat → Int32} {b k hi : Nat} {s t : Int32} (h1 : isFst q c b k 0 hi s) (h2 : isFst q c b k 0 hi t) : s = t := by
  rcases h1 with ⟨a1, a2⟩ | ⟨p, a1, a2, a3, a4, a5⟩ <;> rcases h2 with ⟨b1, b2⟩ | ⟨p', b1, b2, b3, b4, b5⟩
  · rw [a1, b1]
  · exact absurd b4 (a2 p' b1 b2)
  · exact absurd a4 (b2 p a1 a2)
  · rcases Nat.lt_trichotomy p p' with z | z | z
    · exact absurd a4 (b5 p a1 z)
    · rw [a3, b3, z]
    · exact absurd b4 (a5 p' b1 z)
noncomputable def owF (q : PD) (c : Nat → Int32) (b k : Nat) : Nat → Int32
  | 0 => -1
  | n + 1 => @ite _ (owF q c b k n = -1 ∧ fitP q c b k n) (Classical.propDecidable _) (iN n) (owF q c b k n)
theorem ow_fst (q : PD) (c : Nat → Int32) (b k : Nat) : ∀ n, n ≤ 9 → isFst q c b k 0 n (owF q c b k n) := by
  intro n
  induction n with
  | zero => intro _; exact Or.inl ⟨rfl, fun p _ h => by omega⟩
  | succ n ih =>
    intro hn
    have e := ih (by omega)
    have hs : owF q c b k (n + 1) = @ite _ (owF q c b k n = -1 ∧ fitP q c b k n) (Classical.propDecidable _) (iN n) (owF q c b k n) := rfl
    rw [hs]
    by_cases h : owF q c b k n = -1 ∧ fitP q c b k n
    · rw [if_pos h]
      rcases e with ⟨a1, a2⟩ | ⟨p, a1, a2, a3, a4, a5⟩
      · exact Or.inr ⟨n, by omega, by omega, rfl, h.2, fun p2 z1 z2 => a2 p2 z1 z2⟩
      · rw [h.1] at a3
        exact absurd a3.symm (iN_ne_m1 (by omega))
    · rw [if_neg h]
      rcases e with ⟨a1, a2⟩ | ⟨p, a1, a2, a3, a4, a5⟩
      · refine Or.inl ⟨a1, fun p z1 z2 z3 => ?_⟩
        by_cases ep : p = n
        · subst ep; exact h ⟨a1, z3⟩
        · exact a2 p z1 (by omega) z3
      · exact Or.inr ⟨p, a1, by omega, a3, a4, a5⟩
noncomputable def whF (q : PD) (c : Nat → Int32) (b k : Nat) : Int32 := owF q c b k q.1
theorem wh_fst {q : PD} (hq : q.1 ≤ 9) (c : Nat → Int32) (b k : Nat) : isFst q c b k 0 q.1 (whF q c b k) := ow_fst q c b k q.1 hq
/-- who is taken ahead of her -/
noncomputable def tkF (q : PD) (c : Nat → Int32) : Nat → Nat
  | 0 => 0
  | b + 1 => if whF q c b (tkF q c b) = -1 then tkF q c b else tkF q c b ||| 2 ^ (whF q c b (tkF q c b)).toNatClampNeg
theorem tk_s (q : PD) (c : Nat → Int32) (b : Nat) : tkF q c (b + 1) = if whF q c b (tkF q c b) = -1 then tkF q c b else tkF q c b ||| 2 ^ (whF q c b (tkF q c b)).toNatClampNeg := rfl
theorem tk_lt {q : PD} (hq : q.1 ≤ 9) (c : Nat → Int32) : ∀ b, tkF q c b < 2 ^ q.1 := by
  intro b
  induction b with
  | zero => exact Nat.pow_pos (by decide)
  | succ b ih =>
    rw [tk_s]
    rcases wh_fst hq c b (tkF q c b) with ⟨a1, _⟩ | ⟨p, _, a2, a3, _, _⟩
    · rw [if_pos a1]; exact ih
    · rw [a3, if_neg (iN_ne_m1 (by omega)), iN_cl (by omega)]
      exact or2_lt ih a2
theorem nb_m {nb b : Nat} (hb : b < nb) : nb - b = (nb - 1 - b) + 1 := by omega
theorem vD_b {q : PD} {c : Nat → Int32} {b : Nat} (hb : b < q.2.1) (k : Nat) : vD q c (q.2.1 - b) k = mstF q c b (vD q c (q.2.1 - 1 - b)) k q.1 := by
  rw [nb_m hb, vD_s, show q.2.1 - 1 - (q.2.1 - 1 - b) = b by omega]
/-- what is due goes down with the chosen -/
theorem due_s {q : PD} (hq : q.1 ≤ 9) {c : Nat → Int32} {b : Nat} (hb : b < q.2.1) (k : Nat) : (whF q c b k = -1 → vD q c (q.2.1 - b) k = vD q c (q.2.1 - 1 - b) k) ∧ ∀ p, whF q c b k = iN p → p < 9 → vD q c (q.2.1 - b) k - weighF q c p b = vD q c (q.2.1 - 1 - b) (k ||| 2 ^ p) := by
  refine ⟨fun h => ?_, fun p h hp => ?_⟩
  · rcases wh_fst hq c b k with ⟨_, a2⟩ | ⟨p, _, a2, a3, _, _⟩
    · rw [vD_b hb]
      rcases mst_att q c b (vD q c (q.2.1 - 1 - b)) k q.1 with e | ⟨p, e1, e2, e3⟩
      · exact e
      · exact absurd ⟨e2, e3.trans (vD_b hb k).symm⟩ (a2 p (by omega) e1)
    · rw [h] at a3; exact absurd a3.symm (iN_ne_m1 (by omega))
  · rcases wh_fst hq c b k with ⟨a1, _⟩ | ⟨p2, _, a2, a3, a4, _⟩
    · rw [h] at a1; exact absurd a1 (iN_ne_m1 (by omega))
    · rw [h] at a3
      have := (iN_eq (by omega) (by omega)).mp a3
      subst this
      rw [← a4.2, Int32.add_comm]
      exact Int32.add_sub_cancel _ _
theorem free_iff {q : PD} {c : Nat → Int32} (hC : CI q c) {p b : Nat} (hp : p < q.1) (hb : b < q.2.1) : weighF q c p b ≠ -1 ↔ 0 < c (56 + 6 * p + b) := by
  have h0 := hC.1 p hp b hb
  constructor
  · intro h
    by_cases e : c (56 + 6 * p + b) = 0
    · exfalso; apply h; unfold weighF; rw [if_pos e]
    · exact Int32.lt_iff_le_and_ne.mpr ⟨h0, Ne.symm e⟩
  · intro h
    obtain ⟨n, h1, h2⟩ := weighF_bd (q := q) (pos_ne h)
    rw [h2]; exact iN_ne_m1 (by omega)
/-! the class -/
def ScX (x : Nat) : Prop := x = 57 ∨ ScW x
theorem scx_sc : ∀ x, ScX x → ScC x := by
  rintro x (rfl | h)
  · unfold ScC; decide
  · exact scw_sc x h
theorem npl_s57 : nPl (Sa 57) := by
  refine ⟨fun p hp => ?_, fun r hr => ?_⟩
  · rcases hp with rfl | rfl <;> unfold Sa <;> decide
  · rcases hr with rfl | rfl | rfl | rfl <;> unfold Sa <;> decide
theorem al57 : al 0 57 = 512 := rfl
/-- the weights stand in the scales -/
def Wts (q : PD) (c : Nat → Int32) (st : St) : Prop := gA st 4 = c ∧ ∀ b, b < q.2.1 → ∀ x, x < q.1 → gA st 56 (6 * x + b) = weighF q c x b
theorem Wts.ex {q : PD} {c : Nat → Int32} {a b : St} (h : Ex (Sa 57) a b) (W : Wts q c a) : Wts q c b := by
  refine ⟨?_, fun y hy x hx => ?_⟩
  · rw [h.eA (by unfold Sa; decide)]; exact W.1
  · rw [h.eA (by unfold Sa; decide)]; exact W.2 y hy x hx
theorem s_weighAll {st : St} {p : Nat} {q : PD} (D : DSt st 3 p q) {c : Nat → Int32} (hc : gA st 4 = c) {post : St → Prop} (h : ∀ st1, Ex ScW st st1 → Wts q c st1 → post st1) : P_X6_weighForAll 39 st post := by
  have q2 := D.ok.2.1
  refine ⟨q.2.1 + 1, loop_up (α := Unit) (P := fun n i _ st => P_X6_weighForAll_2 39 post n i st) (N := q.2.1) (fun i _ st' => Ex ScW st st' ∧ ∀ b, b < i → ∀ x, x < q.1 → gA st' 56 (6 * x + b) = weighF q c x b) ?_ ?_ q.2.1 0 () st (by omega) ⟨Ex.rf, fun b hb => absurd hb (Nat.not_lt_zero _)⟩⟩
  · rintro i hi _ st' n ⟨E1, e1⟩ ih
    have D1 := D.ex npl_scw E1
    show P_X6_weighForAll_2 39 post (n + 1) (iN i) st'
    unfold P_X6_weighForAll_2
    refine ⟨3, rfl, _, D1.pl, pl_1 D.hp, fun hz => ?_, fun _ => ⟨⟨_, rfl⟩, s_weighFor D1 (by omega) (fun st2 E2 e2 e3 => ?_)⟩⟩
    · rw [D1.nb] at hz; exact absurd hz (nle (by omega) hi)
    rw [iN_s]
    rw [E1.eA scw4, hc] at e2
    refine ih () _ ⟨E1.tr E2, fun b hb x hx => ?_⟩
    by_cases e : b = i
    · subst e; exact e2 x hx
    · rw [e3 _ (fun x2 _ => by omega)]; exact e1 b (by omega) x hx
  · rintro _ st' n ⟨E1, e1⟩
    have D1 := D.ex npl_scw E1
    show P_X6_weighForAll_2 39 post (n + 1) (iN q.2.1) st'
    unfold P_X6_weighForAll_2
    exact ⟨3, rfl, _, D1.pl, pl_1 D.hp, fun _ => h st' E1 ⟨(E1.eA scw4).trans hc, e1⟩, fun hz => absurd (by rw [D1.nb]; exact Int32.le_refl _) hz⟩
theorem s_isFree {st : St} {q : PD} {c : Nat → Int32} (hC : CI q c) (hq : PDok q) (W : Wts q c st) {x k b : Nat} (hx : x < q.1) (hk : k < 512) (hb : b < q.2.1) {post : Int32 → St → Prop} (h : post (if k.testBit x = false ∧ 0 < c (56 + 6 * x + b) then 1 else 0) st) : P_X6_isFree 39 (iN x) (iN k) (iN b) st post := by
  have q1 := hq.1
  have q2 := hq.2.1
  unfold P_X6_isFree
  rw [tb_all k hk x (by omega)]
  refine ⟨fun hz => ?_, fun hz => ⟨⟨_, rfl⟩, s_wOf (by omega) (by omega) ?_⟩⟩
  · rw [if_neg (fun e => hz (by rw [e.1]; rfl))] at h
    exact ⟨Or.inl rfl, h⟩
  · have hf : k.testBit x = false := by
      cases e : k.testBit x
      · rfl
      · rw [e] at hz; exact absurd hz (by decide)
    rw [W.2 b hb x hx]
    refine ⟨fun h1 => ?_, fun h1 => ?_⟩
    · rw [if_neg (fun e => absurd h1 ((free_iff hC hx hb).mpr e.2))] at h
      exact ⟨Or.inl rfl, h⟩
    · rw [if_pos ⟨hf, (free_iff hC hx hb).mp h1⟩] at h
      exact ⟨Or.inr rfl, h⟩
theorem s_mostWith {st : St} {p : Nat} {q : PD} (D : DSt st 3 p q) {c : Nat → Int32} (hC : CI q c) (W : Wts q c st) {f : Nat → Int32} {k b : Nat} (hk : k < 2 ^ q.1) (hb : b < q.2.1) (hh : c (38 + 3 * b + 1) = 1) (hf : ∀ j, k ≤ j → j < 2 ^ q.1 → gA st 57 j = f j) {post : Int32 → St → Prop} (h : post (mstF q c b f k q.1) st) : P_X6_mostWith 39 (iN k) (iN b) st post := by
  have q1 := D.ok.1
  have q2 := D.ok.2.1
  have k9 := pow9 q1 hk
  refine ⟨57, rfl, by rw [al57]; exact iN_vp k9 (by decide), ?_⟩
  rw [iN_cl (by omega), hf k (Nat.le_refl _) hk]
  refine ⟨q.1 + 1, loop_up (P := fun n i s st => P_X6_mostWith_10 39 (iN k) (iN b) post n s i st) (N := q.1) (fun i s st' => st' = st ∧ s = mstF q c b f k i) ?_ ?_ q.1 0 (f k) st (by omega) ⟨rfl, rfl⟩⟩
  · rintro i hi s st' n ⟨rfl, rfl⟩ ih
    have hs := mst_s q c b f k i
    show P_X6_mostWith_10 39 (iN k) (iN b) post (n + 1) _ (iN i) st'
    unfold P_X6_mostWith_10
    refine ⟨3, rfl, _, D.pl, pl_0 D.hp, fun hz => ?_, fun _ => ⟨⟨_, rfl⟩, s_isFree hC D.ok W hi k9 hb ⟨fun hz => ?_, fun hz => ⟨⟨_, rfl⟩, s_wOf (by omega) (by omega) ⟨57, rfl, ?_⟩⟩⟩⟩⟩
    · rw [D.np] at hz; exact absurd hz (nle (by omega) hi)
    · show P_X6_mostWith_10 39 (iN k) (iN b) post n _ (iN i + 1) st'
      rw [iN_s]
      exact ih _ _ ⟨rfl, by rw [hs, if_neg (fun e => ite1 hz e.2)]⟩
    · have ht := ite2 hz
      have eb : iN k ||| (1 : Int32) <<< ((iN i : Int32) &&& 31) = iN (k ||| 2 ^ i) := by
        show iN k ||| bit i = _
        rw [bit10 i (by omega), iN_or]
      have l1 := or2_lt hk hi
      have l2 := pow9 q1 l1
      rw [eb, W.2 b hb i hi, iN_cl (by omega), hf _ (Nat.le_of_lt (or2_gt ht.1)) l1]
      refine ⟨by rw [al57]; exact iN_vp l2 (by decide), ?_⟩
      show P_X6_mostWith_10 39 (iN k) (iN b) post n _ (iN i + 1) st'
      rw [iN_s]
      exact ih _ _ ⟨rfl, (hs.trans (if_pos ⟨hh, ht⟩)).symm⟩
  · rintro s st' n ⟨rfl, rfl⟩
    show P_X6_mostWith_10 39 (iN k) (iN b) post (n + 1) _ (iN q.1) st'
    unfold P_X6_mostWith_10
    exact ⟨3, rfl, _, D.pl, pl_0 D.hp, fun _ => h, fun hz => absurd (by rw [D.np]; exact Int32.le_refl _) hz⟩
set_option maxHeartbeats 1000000 in
theorem s_fillFrom {st : St} {p : Nat} {q : PD} (D : DSt st 3 p q) {c : Nat → Int32} (hC : CI q c) (W : Wts q c st) {f : Nat} (hf : f ≤ q.2.1) {post : St → Prop} (h : ∀ st1, Ex (Sa 57) st st1 → (∀ k, k < 2 ^ q.1 → gA st1 57 k = vD q c (q.2.1 - f) k) → post st1) : P_X6_fillFrom 39 (iN f) st post := by
  have q1 := D.ok.1
  have q2 := D.ok.2.1
  have p9 : 2 ^ q.1 ≤ 512 := (show 2 ^ q.1 ≤ 2 ^ 9 from Nat.pow_le_pow_right (by decide) q1)
  refine ⟨3, rfl, _, D.pl, pl_0 D.hp, ?_⟩
  have es : (1 : Int32) <<< ((gI st p 0 : Int32) &&& 31) = iN (2 ^ q.1) := by
    rw [D.np]
    exact bit10 q.1 (by omega)
  rw [es]
  refine ⟨2 ^ q.1 + 1, loop_up (α := Unit) (P := fun n i _ st => P_X6_fillFrom_15 39 (iN f) post n (iN (2 ^ q.1)) i st) (N := 2 ^ q.1) (fun i _ st' => Ex (Sa 57) st st' ∧ ∀ k, k < i → gA st' 57 k = 0) ?_ ?_ (2 ^ q.1) 0 () st (by omega) ⟨Ex.rf, fun k hk => absurd hk (Nat.not_lt_zero _)⟩⟩
  · rintro i hi _ st' n ⟨E1, e1⟩ ih
    show P_X6_fillFrom_15 39 (iN f) post (n + 1) _ (iN i) st'
    unfold P_X6_fillFrom_15
    refine ⟨fun hz => absurd hz (nle (by omega) hi), fun _ => ⟨57, rfl, by rw [al57]; exact iN_vp (by omega) (by decide), ?_⟩⟩
    rw [iN_s, iN_cl (by omega)]
    refine ih () _ ⟨E1.tr (Ex.sa (S := Sa 57) rfl _ _), fun k hk => ?_⟩
    rw [gA_sA]
    by_cases e : k = i
    · subst e; rw [upd_same]
    · rw [upd_ne e]; exact e1 k (by omega)
  · rintro _ st' n ⟨E1, e1⟩
    have D1 := D.ex npl_s57 E1
    show P_X6_fillFrom_15 39 (iN f) post (n + 1) _ (iN (2 ^ q.1)) st'
    unfold P_X6_fillFrom_15
    refine ⟨fun _ => ⟨3, rfl, _, D1.pl, pl_1 D.hp, q.2.1 - f + 1, ?_⟩, fun hz => absurd (Int32.le_refl _) hz⟩
    rw [D1.nb]
    have LD := loop_dn (α := Unit) (P := fun n i _ st => P_X6_fillFrom_46 39 (iN f) post n (iN (2 ^ q.1)) i st) (L := f) (fun r _ st' => r ≤ q.2.1 ∧ Ex (Sa 57) st st' ∧ ∀ k, k < 2 ^ q.1 → gA st' 57 k = vD q c (q.2.1 - r) k) ?_ ?_ (q.2.1 - f) () st' ?_
    · rw [show f + (q.2.1 - f) = q.2.1 by omega] at LD
      exact LD
    · rintro r hr _ st2 n2 ⟨hr2, E2, e2⟩ ih2
      have D2 := D.ex npl_s57 E2
      have W2 := W.ex E2
      show P_X6_fillFrom_46 39 (iN f) post (n2 + 1) _ (iN r) st2
      unfold P_X6_fillFrom_46
      refine ⟨fun hz => ?_, fun _ => ⟨2 ^ q.1 + 1, ?_⟩⟩
      · rw [iN_lt (by omega) (by omega)] at hz; omega
      by_cases hh : c (38 + 3 * r + 1) = 1
      · refine loop_up (α := Unit) (P := fun n i _ st => P_X6_fillFrom_54 39 (iN f) (fun x2 x3 st => P_X6_fillFrom_46 39 (iN f) post n2 x2 x3 st) post n (iN (2 ^ q.1)) (iN r) i st) (N := 2 ^ q.1) (fun i _ st3 => Ex (Sa 57) st st3 ∧ (∀ k, k < i → gA st3 57 k = vD q c (q.2.1 - r) k) ∧ ∀ k, i ≤ k → k < 2 ^ q.1 → gA st3 57 k = vD q c (q.2.1 - 1 - r) k) ?_ ?_ (2 ^ q.1) 0 () st2 (by omega) ⟨E2, fun k hk => absurd hk (Nat.not_lt_zero _), fun k _ hk => by rw [e2 k hk]; congr 1; omega⟩
        · rintro i hi _ st3 n3 ⟨E3, e3, e4⟩ ih3
          have D3 := D.ex npl_s57 E3
          have W3 := W.ex E3
          show P_X6_fillFrom_54 39 (iN f) _ post (n3 + 1) _ (iN r) (iN i) st3
          unfold P_X6_fillFrom_54
          refine ⟨fun hz => absurd hz (nle (by omega) hi), fun _ => ⟨3, rfl, ⟨_, rfl⟩, s_isHome D3.hd (by omega) ?_⟩⟩
          rw [ch31, W3.1, if_pos hh]
          refine ⟨fun hz => absurd hz (by decide), fun _ => ⟨57, rfl, ⟨_, rfl⟩, s_mostWith D3 hC W3 hi (by omega) hh e4 ⟨by rw [al57]; exact iN_vp (by omega) (by decide), ?_⟩⟩⟩
          rw [iN_s, iN_cl (by omega), ← vD_b (by omega)]
          refine ih3 () _ ⟨E3.tr (Ex.sa (S := Sa 57) rfl _ _), fun k hk => ?_, fun k hk hk2 => ?_⟩
          · rw [gA_sA]
            by_cases e : k = i
            · subst e; rw [upd_same]
            · rw [upd_ne e]; exact e3 k (by omega)
          · rw [gA_sA, upd_ne (by omega)]; exact e4 k (by omega) hk2
        · rintro _ st3 n3 ⟨E3, e3, e4⟩
          show P_X6_fillFrom_54 39 (iN f) _ post (n3 + 1) _ (iN r) (iN (2 ^ q.1)) st3
          unfold P_X6_fillFrom_54
          refine ⟨fun _ => ?_, fun hz => absurd (Int32.le_refl _) hz⟩
          show P_X6_fillFrom_46 39 (iN f) post n2 (iN (2 ^ q.1)) (iN r + (-1)) st3
          rw [show iN r + (-1) = iN r - 1 from Int32.add_neg_eq_sub]
          exact ih2 () st3 ⟨by omega, E3, e3⟩
      · unfold P_X6_fillFrom_54
        have K : P_X6_fillFrom_91 39 (iN f) (fun x2 x3 st => P_X6_fillFrom_46 39 (iN f) post n2 x2 x3 st) post (iN (2 ^ q.1)) (iN r) st2 := by
          show P_X6_fillFrom_46 39 (iN f) post n2 (iN (2 ^ q.1)) (iN r + (-1)) st2
          rw [show iN r + (-1) = iN r - 1 from Int32.add_neg_eq_sub]
          refine ih2 () st2 ⟨by omega, E2, fun k hk => ?_⟩
          rw [e2 k hk, vD_b (b := r) (by omega), mst_out hh]
          congr 1; omega
        refine ⟨fun _ => K, fun _ => ⟨3, rfl, ⟨_, rfl⟩, s_isHome D2.hd (by omega) ?_⟩⟩
        rw [ch31, W2.1, if_neg hh]
        exact ⟨fun _ => K, fun hz => absurd rfl hz⟩
    · rintro _ st2 n2 ⟨hr2, E2, e2⟩
      show P_X6_fillFrom_46 39 (iN f) post (n2 + 1) _ (iN f - 1) st2
      unfold P_X6_fillFrom_46
      refine ⟨fun _ => h st2 E2 e2, fun hz => absurd ?_ hz⟩
      rw [Int32.lt_iff_toInt_lt, n1_toInt (by omega), iN_toInt (by omega)]; omega
    · refine ⟨by omega, E1, fun k hk => ?_⟩
      rw [e1 k hk, show q.2.1 - (f + (q.2.1 - f)) = 0 by omega]; rfl
theorem s_mostTog {st : St} {p : Nat} {q : PD} (D : DSt st 3 p q) {c : Nat → Int32} (hC : CI q c) (hc : gA st 4 = c) {post : Int32 → St → Prop} (h : ∀ st1, Ex ScX st st1 → Wts q c st1 → post (vD q c q.2.1 0) st1) : P_X6_mostTogether 39 st post := by
  refine ⟨⟨_, rfl⟩, s_weighAll D hc (fun st1 E1 W1 => ⟨⟨_, rfl⟩, s_fillFrom (f := 0) (D.ex npl_scw E1) hC W1 (Nat.zero_le _) (fun st2 E2 e2 => ⟨57, rfl, by rw [al57]; exact vp0 _ (by decide) (by decide), ?_⟩)⟩)⟩
  have e9 : gA st2 57 (0 : Int32).toNatClampNeg = vD q c q.2.1 0 := e2 0 (Nat.pow_pos (by decide))
  rw [e9]
  exact h st2 ((E1.wk (fun _ z => Or.inr z)).tr (E2.wk (fun _ z => Or.inl z))) (W1.ex E2)
theorem s_fits {st : St} {p : Nat} {q : PD} (D : DSt st 3 p q) {c : Nat → Int32} (hC : CI q c) (W : Wts q c st) {k b : Nat} (hk : k < 2 ^ q.1) (hb : b < q.2.1) (hh : c (38 + 3 * b + 1) = 1) (hf : ∀ j, j < 2 ^ q.1 → gA st 57 j = vD q c (q.2.1 - 1 - b) j) {post : Int32 → St → Prop} (h : post (whF q c b k) st) : P_X6_firstThatFits 39 (iN b) (iN k) (vD q c (q.2.1 - b) k) st post := by
  have q1 := D.ok.1
  have q2 := D.ok.2.1
  have k9 := pow9 q1 hk
  have W0 := wh_fst q1 c b k
  refine ⟨q.1 + 1, loop_up (α := Unit) (P := fun n i _ st => P_X6_firstThatFits_3 39 (iN b) (iN k) (vD q c (q.2.1 - b) k) post n i st) (N := q.1) (fun i _ st' => st' = st ∧ ∀ p2, p2 < i → ¬ fitP q c b k p2) ?_ ?_ q.1 0 () st (by omega) ⟨rfl, fun p2 h2 => absurd h2 (Nat.not_lt_zero _)⟩⟩
  · rintro i hi _ st' n ⟨rfl, hJ⟩ ih
    have skip : ¬ fitP q c b k i → P_X6_firstThatFits_3 39 (iN b) (iN k) (vD q c (q.2.1 - b) k) post n (iN i + 1) st' := fun hn => by
      rw [iN_s]
      refine ih () _ ⟨rfl, fun p2 h2 => ?_⟩
      by_cases e : p2 = i
      · subst e; exact hn
      · exact hJ p2 (by omega)
    show P_X6_firstThatFits_3 39 (iN b) (iN k) (vD q c (q.2.1 - b) k) post (n + 1) (iN i) st'
    unfold P_X6_firstThatFits_3
    refine ⟨3, rfl, _, D.pl, pl_0 D.hp, fun hz => ?_, fun _ => ⟨⟨_, rfl⟩, s_isFree hC D.ok W hi k9 hb ⟨fun hz => skip (fun e => ite1 hz e.1.2), fun hz => ⟨⟨_, rfl⟩, s_wOf (by omega) (by omega) ⟨57, rfl, ?_⟩⟩⟩⟩⟩
    · rw [D.np] at hz; exact absurd hz (nle (by omega) hi)
    have ht := ite2 hz
    have eb : iN k ||| (1 : Int32) <<< ((iN i : Int32) &&& 31) = iN (k ||| 2 ^ i) := by
      show iN k ||| bit i = _
      rw [bit10 i (by omega), iN_or]
    have l1 := or2_lt hk hi
    have l2 := pow9 q1 l1
    rw [eb, W.2 b hb i hi, iN_cl (by omega), hf _ l1]
    refine ⟨by rw [al57]; exact iN_vp l2 (by decide), fun hz => skip (fun e => hz e.2), fun hz => ?_⟩
    have e9 : iN i = whF q c b k := fst_un (hi := q.1) (Or.inr ⟨i, by omega, hi, rfl, ⟨⟨hh, ht⟩, hz⟩, fun p2 _ h2 => hJ p2 h2⟩) W0
    rw [e9]
    exact h
  · rintro _ st' n ⟨rfl, hJ⟩
    show P_X6_firstThatFits_3 39 (iN b) (iN k) (vD q c (q.2.1 - b) k) post (n + 1) (iN q.1) st'
    unfold P_X6_firstThatFits_3
    have e9 : (-1 : Int32) = whF q c b k := fst_un (hi := q.1) (Or.inl ⟨rfl, fun p2 _ h2 => hJ p2 h2⟩) W0
    refine ⟨3, rfl, _, D.pl, pl_0 D.hp, fun _ => ?_, fun hz => absurd (by rw [D.np]; exact Int32.le_refl _) hz⟩
    rw [e9]
    exact h
theorem wh_out {q : PD} (hq : q.1 ≤ 9) {c : Nat → Int32} {b k : Nat} (h : c (38 + 3 * b + 1) ≠ 1) : whF q c b k = -1 := (fst_un (hi := q.1) (Or.inl ⟨rfl, fun _ _ _ e => h e.1.1⟩) (wh_fst hq c b k)).symm
set_option maxHeartbeats 1000000 in
theorem s_chC {st : St} {p : Nat} {q : PD} (D : DSt st 3 p q) {c : Nat → Int32} (hC : CI q c) (hc : gA st 4 = c) {x : Nat} (hx : x < q.2.1) {post : Int32 → St → Prop} (h : ∀ st1, Ex ScX st st1 → post (whF q c x (tkF q c x)) st1) : P_X6_chosenFor 39 (iN x) st post := by
  have q1 := D.ok.1
  have q2 := D.ok.2.1
  refine ⟨⟨_, rfl⟩, s_mostTog D hC hc (fun st1 E1 W1 => ?_)⟩
  have D1 : DSt st1 3 p q := D.ex (S := ScX) ⟨fun p hp z => z.elim (npl_s57.1 p hp) (npl_scw.1 p hp), fun r hr z => z.elim (npl_s57.2 r hr) (npl_scw.2 r hr)⟩ E1
  refine ⟨x + 2, loop_up (α := Int32 × Int32 × Int32) (P := fun n i s st => P_X6_chosenFor_13 39 (iN x) post n s.1 s.2.1 s.2.2 i st) (N := x + 1) (fun i s st' => Ex (Sa 57) st1 st' ∧ s.1 = vD q c (q.2.1 - i) (tkF q c i) ∧ s.2.1 = iN (tkF q c i) ∧ (∀ j, i = j + 1 → s.2.2 = whF q c j (tkF q c j))) ?_ ?_ (x + 1) 0 (vD q c q.2.1 0, 0, -1) st1 (by omega) ⟨Ex.rf, rfl, rfl, fun j hj => by omega⟩⟩
  · rintro i hi ⟨s1, s2, s3⟩ st' n ⟨E2, e1, e2, e3⟩ ih
    have e1 : s1 = vD q c (q.2.1 - i) (tkF q c i) := e1
    have e2 : s2 = iN (tkF q c i) := e2
    subst e1
    subst e2
    have D2 := D1.ex npl_s57 E2
    have W2 := W1.ex E2
    have tl := tk_lt q1 c i
    show P_X6_chosenFor_13 39 (iN x) post (n + 1) _ _ _ (iN i) st'
    unfold P_X6_chosenFor_13
    refine ⟨fun hz => ?_, fun _ => ⟨⟨_, rfl⟩, ?_⟩⟩
    · rw [iN_lt (by omega) (by omega)] at hz; omega
    rw [iN_s]
    refine s_fillFrom D2 hC W2 (f := i + 1) (by omega) (fun st3 E3 e4 => ⟨3, rfl, ⟨_, rfl⟩, s_isHome (D2.ex npl_s57 E3).hd (by omega) ?_⟩)
    have D3 := D2.ex npl_s57 E3
    have W3 := W2.ex E3
    have e4 : ∀ j, j < 2 ^ q.1 → gA st3 57 j = vD q c (q.2.1 - 1 - i) j := fun j hj => by rw [e4 j hj]; congr 1; omega
    have fin : P_X6_chosenFor_51 39 (iN x) (fun x2 x3 x4 x5 st => P_X6_chosenFor_13 39 (iN x) post n x2 x3 x4 x5 st) post (vD q c (q.2.1 - i) (tkF q c i)) (iN (tkF q c i)) (iN i) (whF q c i (tkF q c i)) st3 := by
      have hs := tk_s q c i
      obtain ⟨d1, d2⟩ := due_s q1 (c := c) (b := i) (by omega) (tkF q c i)
      refine ⟨fun hw => ?_, fun hw => ?_⟩
      · show P_X6_chosenFor_13 39 (iN x) post n _ _ _ (iN i + 1) st3
        rw [iN_s]
        refine ih (_, _, _) st3 ⟨E2.tr E3, ?_, ?_, fun j hj => ?_⟩
        · show vD q c (q.2.1 - i) (tkF q c i) = _
          rw [d1 hw, hs, if_pos hw]; congr 1; omega
        · show iN (tkF q c i) = _
          rw [hs, if_pos hw]
        · have : i = j := by omega
          subst this; rfl
      · rcases wh_fst q1 c i (tkF q c i) with ⟨a1, _⟩ | ⟨y, _, a2, a3, _, _⟩
        · exact absurd a1 hw
        rw [a3]
        refine ⟨⟨_, rfl⟩, s_wOf (by omega) (by omega) ?_⟩
        rw [W3.2 i (by omega) y a2]
        have eb : iN (tkF q c i) ||| (1 : Int32) <<< ((iN y : Int32) &&& 31) = iN (tkF q c i ||| 2 ^ y) := by
          show iN (tkF q c i) ||| bit y = _
          rw [bit10 y (by omega), iN_or]
        rw [eb, d2 y a3 (by omega)]
        show P_X6_chosenFor_13 39 (iN x) post n _ _ _ (iN i + 1) st3
        rw [iN_s]
        rw [a3, if_neg (iN_ne_m1 (by omega)), iN_cl (by omega)] at hs
        refine ih (_, _, _) st3 ⟨E2.tr E3, ?_, ?_, fun j hj => ?_⟩
        · show vD q c (q.2.1 - 1 - i) (tkF q c i ||| 2 ^ y) = _
          rw [hs]; congr 1; omega
        · show iN (tkF q c i ||| 2 ^ y) = _
          rw [hs]
        · have : i = j := by omega
          subst this; exact a3.symm
    rw [ch31, W3.1]
    by_cases hh : c (38 + 3 * i + 1) = 1
    · rw [if_pos hh]
      exact ⟨fun hz => absurd hz (by decide), fun _ => ⟨⟨_, rfl⟩, s_fits D3 hC W3 tl (by omega) hh e4 fin⟩⟩
    · rw [if_neg hh]
      rw [wh_out q1 hh] at fin
      exact ⟨fun _ => fin, fun hz => absurd rfl hz⟩
  · rintro ⟨s1, s2, s3⟩ st' n ⟨E2, e1, e2, e3⟩
    show P_X6_chosenFor_13 39 (iN x) post (n + 1) _ _ s3 (iN (x + 1)) st'
    unfold P_X6_chosenFor_13
    refine ⟨fun _ => ?_, fun hz => absurd ((iN_lt (by omega) (by omega)).mpr (by omega)) hz⟩
    have e9 : s3 = whF q c x (tkF q c x) := e3 x rfl
    rw [e9]
    exact h st' (E1.tr (E2.wk (fun _ z => Or.inl z)))
