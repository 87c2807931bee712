/-! PURE: steps -/
theorem iN_or (a b : Nat) : iN a ||| iN b = iN (a ||| b) := by
  apply Int32.toBitVec_inj.mp
  show BitVec.ofNat 32 a ||| BitVec.ofNat 32 b = BitVec.ofNat 32 (a ||| b)
  exact BitVec.ofNat_or.symm
theorem or_lt {a b : Nat} (ha : a < 512) (hb : b < 512) : a ||| b < 512 := Nat.or_lt_two_pow (n := 9) ha hb
theorem and_z {a b : Nat} (ha : a < 512) : iN a &&& iN b = 0 ↔ ∀ j, j < 9 → ¬ (a.testBit j = true ∧ b.testBit j = true) := by
  rw [iN_and]
  have hl : a &&& b < 512 := Nat.lt_of_le_of_lt Nat.and_le_left ha
  constructor
  · intro h j hj hz
    have h0 := (iN_eq (b := 0) (by omega) (by decide)).mp h
    have e := Nat.testBit_and a b j
    rw [h0, Nat.zero_testBit, hz.1, hz.2] at e
    exact absurd e (by decide)
  · intro h
    have e : a &&& b = 0 := tb_ext hl (by decide) (fun j hj => by
      rw [Nat.testBit_and, Nat.zero_testBit]
      have := h j hj
      revert this
      cases a.testBit j <;> cases b.testBit j <;> simp)
    rw [e]; rfl
/-- who is reached from k in a step -/
def nxP (np nb : Nat) (c : Nat → Int32) (k j : Nat) : Prop := k.testBit j = true ∨ ∃ b p, b < nb ∧ p < np ∧ j < np ∧ k.testBit p = true ∧ 0 < c (56 + 6 * p + b) ∧ 0 < c (56 + 6 * j + b)
noncomputable def nxI (np nb : Nat) (c : Nat → Int32) (k : Nat) : Int32 := lp (fun j s => @ite _ (nxP np nb c k j) (Classical.propDecidable _) (s ||| bit j) s) 0 9
noncomputable def nxF (np nb : Nat) (c : Nat → Int32) (k : Nat) : Nat := (nxI np nb c k).toNatClampNeg
theorem nx_set (np nb : Nat) (c : Nat → Int32) (k : Nat) : nxF np nb c k < 512 ∧ ∀ j, j < 9 → ((nxF np nb c k).testBit j = true ↔ nxP np nb c k j) := by
  obtain ⟨m, h1, h2, h3⟩ := @bits_set (nxP np nb c k) (fun _ => Classical.propDecidable _) 9 (Nat.le_refl _)
  have h1 : m < 512 := h1
  have e : nxF np nb c k = m := by
    unfold nxF nxI
    rw [h2, iN_cl (by omega)]
  rw [e]
  refine ⟨h1, fun j hj => ?_⟩
  rw [h3 j hj]
  exact ⟨fun h => h.2, fun h => ⟨hj, h⟩⟩
theorem nx_eq {np nb : Nat} {c : Nat → Int32} {k m : Nat} (hm : m < 512) (h : ∀ j, j < 9 → (m.testBit j = true ↔ nxP np nb c k j)) : m = nxF np nb c k := by
  obtain ⟨h1, h2⟩ := nx_set np nb c k
  refine tb_ext hm h1 (fun j hj => ?_)
  rw [Bool.eq_iff_iff, h j hj, h2 j hj]
noncomputable def kSq (np nb : Nat) (c : Nat → Int32) (x : Nat) : Nat → Nat
  | 0 => 2 ^ x
  | n + 1 => nxF np nb c (kSq np nb c x n)
theorem kSq_lt {np nb : Nat} {c : Nat → Int32} {x : Nat} (hx : x < 9) : ∀ n, kSq np nb c x n < 512 := by
  intro n
  cases n with
  | zero => exact (show 2 ^ x < 2 ^ 9 from Nat.pow_lt_pow_right (by decide) hx)
  | succ n => exact (nx_set np nb c _).1
noncomputable def stF (np nb : Nat) (c : Nat → Int32) (x y n : Nat) : Int32 := lp (fun i s => if s = -1 ∧ (kSq np nb c x i).testBit y = true then iN i else s) (-1) n
theorem st_s (np nb : Nat) (c : Nat → Int32) (x y n : Nat) : stF np nb c x y (n + 1) = if stF np nb c x y n = -1 ∧ (kSq np nb c x n).testBit y = true then iN n else stF np nb c x y n := rfl
theorem st_stay {np nb : Nat} {c : Nat → Int32} {x y n : Nat} (h : stF np nb c x y n ≠ -1) : ∀ m, stF np nb c x y (n + m) = stF np nb c x y n := by
  intro m
  induction m with
  | zero => rfl
  | succ m ih => rw [show n + (m + 1) = (n + m) + 1 by omega, st_s, ih, if_neg (fun z => h z.1)]
theorem st_hit {np nb : Nat} {c : Nat → Int32} {x y i : Nat} (hi : i < 9) (h : stF np nb c x y i = -1) (hb : (kSq np nb c x i).testBit y = true) : stF np nb c x y 9 = iN i := by
  have hs := st_s np nb c x y i
  rw [if_pos ⟨h, hb⟩] at hs
  have := st_stay (np := np) (nb := nb) (c := c) (x := x) (y := y) (n := i + 1) (by rw [hs]; exact iN_ne_m1 (by omega)) (8 - i)
  rw [show i + 1 + (8 - i) = 9 by omega, hs] at this
  exact this
/-! the class -/
theorem s_beside {st : St} {d p k : Nat} {q : PD} (D : DSt st d p q) (hk : k < 512) {post : Int32 → St → Prop} (h : ∀ m, iN k ||| iN m = iN (nxF q.1 q.2.1 (gA st (ch d 1)) k) → post (iN m) st) : P_X2_peopleBeside d (iN k) st post := by
  have q1 := D.ok.1
  have q2 := D.ok.2.1
  refine ⟨q.2.1 + 1, loop_up (P := fun n i a st => P_X2_peopleBeside_4 d (iN k) post n a i st) (N := q.2.1) (fun i a st' => st' = st ∧ ∃ m, m < 512 ∧ a = iN m ∧ ∀ j, j < 9 → (m.testBit j = true ↔ ∃ b p, b < i ∧ p < q.1 ∧ j < q.1 ∧ k.testBit p = true ∧ 0 < gA st (ch d 1) (56 + 6 * p + b) ∧ 0 < gA st (ch d 1) (56 + 6 * j + b))) ?_ ?_ q.2.1 0 0 st (by omega) ⟨rfl, 0, by decide, rfl, fun j _ => ⟨fun z => by rw [Nat.zero_testBit] at z; exact absurd z (by decide), fun ⟨b, _, hb, _⟩ => by omega⟩⟩⟩
  · rintro i hi a st' n ⟨rfl, m, hm, rfl, hj⟩ ih
    obtain ⟨t, t1, t2, t3⟩ := tiedS_set q1 (gA st' (ch d 1)) i
    have t9 := pow9 q1 t1
    show P_X2_peopleBeside_4 d (iN k) post (n + 1) _ (iN i) st'
    unfold P_X2_peopleBeside_4
    refine ⟨_, D.pl, pl_1 D.hp, fun hz => ?_, fun _ => ⟨da_o D.hd, s_peopleTiedTo D (by omega) ?_⟩⟩
    · rw [D.nb] at hz; exact absurd hz (nle (by omega) hi)
    rw [t2]
    refine ⟨fun hz => ?_, fun hz => ?_⟩
    · show P_X2_peopleBeside_4 d (iN k) post n (iN m) (iN i + 1) st'
      rw [iN_s]
      refine ih _ _ ⟨rfl, m, hm, rfl, fun j hj9 => ?_⟩
      rw [hj j hj9]
      constructor
      · rintro ⟨b, p2, z1, z2, z3, z4, z5, z6⟩; exact ⟨b, p2, by omega, z2, z3, z4, z5, z6⟩
      · rintro ⟨b, p2, z1, z2, z3, z4, z5, z6⟩
        by_cases e : b = i
        · subst e
          exact absurd ⟨(t3 p2 (by omega)).mpr ⟨z2, z5⟩, z4⟩ ((and_z t9).mp hz p2 (by omega))
        · exact ⟨b, p2, by omega, z2, z3, z4, z5, z6⟩
    · have hz2 : ∃ p2, p2 < 9 ∧ t.testBit p2 = true ∧ k.testBit p2 = true := by
        apply Classical.byContradiction
        intro hn
        exact hz ((and_z t9).mpr (fun j hj9 z => hn ⟨j, hj9, z.1, z.2⟩))
      obtain ⟨p2, y1, y2, y3⟩ := hz2
      show P_X2_peopleBeside_4 d (iN k) post n (iN m ||| iN t) (iN i + 1) st'
      rw [iN_s, iN_or]
      refine ih _ _ ⟨rfl, m ||| t, or_lt hm t9, rfl, fun j hj9 => ?_⟩
      rw [Nat.testBit_or, Bool.or_eq_true, hj j hj9, t3 j hj9]
      constructor
      · rintro (⟨b, p3, z1, z2, z3, z4, z5, z6⟩ | ⟨z1, z2⟩)
        · exact ⟨b, p3, by omega, z2, z3, z4, z5, z6⟩
        · exact ⟨i, p2, by omega, ((t3 p2 y1).mp y2).1, z1, y3, ((t3 p2 y1).mp y2).2, z2⟩
      · rintro ⟨b, p3, z1, z2, z3, z4, z5, z6⟩
        by_cases e : b = i
        · subst e; exact Or.inr ⟨z3, z6⟩
        · exact Or.inl ⟨b, p3, by omega, z2, z3, z4, z5, z6⟩
  · rintro a st' n ⟨rfl, m, hm, rfl, hj⟩
    show P_X2_peopleBeside_4 d (iN k) post (n + 1) _ (iN q.2.1) st'
    unfold P_X2_peopleBeside_4
    refine ⟨_, D.pl, pl_1 D.hp, fun _ => h m ?_, fun hz => absurd (by rw [D.nb]; exact Int32.le_refl _) hz⟩
    rw [iN_or]
    congr 1
    refine nx_eq (or_lt hk hm) (fun j hj9 => ?_)
    rw [Nat.testBit_or, Bool.or_eq_true, hj j hj9]
    exact Iff.rfl
theorem s_stC {st : St} {p : Nat} {q : PD} (D : DSt st 3 p q) {c : Nat → Int32} (hc : gA st 4 = c) {x y : Nat} (hx : x < 9) (hy : y < 9) {post : Int32 → St → Prop} {pex : String → St → Prop} (h : post (stF q.1 q.2.1 c x y 9) st) : ∃ n8, P_X11_steps_17 0 (iN x) (iN y) post pex n8 (bit x) 0 st := by
  refine ⟨10, loop_up (P := fun n i s st => P_X11_steps_17 0 (iN x) (iN y) post pex n s i st) (N := 9) (fun i s st' => st' = st ∧ s = iN (kSq q.1 q.2.1 c x i) ∧ stF q.1 q.2.1 c x y i = -1) ?_ ?_ 9 0 (bit x) st (by omega) ⟨rfl, bit_iN x hx, rfl⟩⟩
  · rintro i hi s st' n ⟨rfl, rfl, e⟩ ih
    have hk := kSq_lt (np := q.1) (nb := q.2.1) (c := c) hx i
    show P_X11_steps_17 0 (iN x) (iN y) post pex (n + 1) _ (iN i) st'
    unfold P_X11_steps_17
    rw [tb_all _ hk y hy]
    refine ⟨fun hz => absurd hz (nle (a := 9) (by omega) hi), fun _ => ⟨fun hz => ⟨3, rfl, ⟨_, rfl⟩, s_beside D hk (fun m em => ?_)⟩, fun hz => ?_⟩⟩
    · rw [em, iN_s, ch31, hc]
      refine ih _ _ ⟨rfl, rfl, ?_⟩
      rw [st_s, if_neg (fun z => hz (by rw [if_pos z.2]))]
      exact e
    · have hb : (kSq q.1 q.2.1 c x i).testBit y = true := by
        by_cases eb : (kSq q.1 q.2.1 c x i).testBit y = true
        · exact eb
        · rw [if_neg eb] at hz; exact absurd hz (by decide)
      rw [st_hit hi e hb] at h
      exact h
  · rintro s st' n ⟨rfl, rfl, e⟩
    show P_X11_steps_17 0 (iN x) (iN y) post pex (n + 1) _ (iN 9) st'
    unfold P_X11_steps_17
    rw [e] at h
    exact ⟨fun _ => h, fun hz => absurd (Int32.le_refl _) hz⟩
/-! the reference -/
theorem s_st58 {st : St} {q : PD} (M : MPl st q) {C : Nat → Int32} (hm : mC q.2.1 st = C) {k : Nat} (hk : k < 512) {a b x4 : Int32} {k34 : Int32 → Int32 → St → Prop} {post : Int32 → St → Prop} (h : k34 (iN (nxF q.1 q.2.1 C k)) (x4 + 1) st) : ∃ n8, P_X12_steps_58 58 a b k34 post n8 (iN k) x4 (iN k) 0 st := by
  have q1 := M.np
  have q2 := M.nb
  refine ⟨q.1 + 1, loop_up (P := fun n i s st => P_X12_steps_58 58 a b k34 post n (iN k) x4 s i st) (N := q.1) (fun i s st' => st' = st ∧ ∃ m, m < 512 ∧ s = iN m ∧ ∀ j, j < 9 → (m.testBit j = true ↔ k.testBit j = true ∨ ∃ b p, b < q.2.1 ∧ p < i ∧ j < q.1 ∧ k.testBit p = true ∧ 0 < C (56 + 6 * p + b) ∧ 0 < C (56 + 6 * j + b))) ?_ ?_ q.1 0 (iN k) st (by omega) ⟨rfl, k, hk, rfl, fun j _ => ⟨Or.inl, fun z => z.elim id (fun ⟨_, _, _, z, _⟩ => by omega)⟩⟩⟩
  · rintro i hi s st' n ⟨rfl, m, hm9, rfl, hj⟩ ih
    obtain ⟨u, u1, u2, u3⟩ := tiedB_set (nb := q.2.1) (by omega) C i
    have u9 := pow9 (n := q.2.1) (by omega) u1
    show P_X12_steps_58 58 a b k34 post (n + 1) _ _ _ (iN i) st'
    unfold P_X12_steps_58
    refine ⟨62, rfl, v0_10, fun hz => ?_, fun _ => ⟨q.1 + 1, ?_⟩⟩
    · rw [M.e0] at hz; exact absurd hz (nle (by omega) hi)
    refine loop_up (P := fun n2 l s st => P_X12_steps_72 58 a b (fun x3 x4 x5 x6 st => P_X12_steps_58 58 a b k34 post n x3 x4 x5 x6 st) post n2 (iN k) x4 s (iN i) l st) (N := q.1) (fun l s st'' => st'' = st' ∧ ∃ m, m < 512 ∧ s = iN m ∧ ∀ j, j < 9 → (m.testBit j = true ↔ k.testBit j = true ∨ (∃ b p, b < q.2.1 ∧ p < i ∧ j < q.1 ∧ k.testBit p = true ∧ 0 < C (56 + 6 * p + b) ∧ 0 < C (56 + 6 * j + b)) ∨ (j < l ∧ k.testBit i = true ∧ ∃ b, b < q.2.1 ∧ 0 < C (56 + 6 * i + b) ∧ 0 < C (56 + 6 * j + b)))) ?_ ?_ q.1 0 (iN m) st' (by omega) ⟨rfl, m, hm9, rfl, fun j hj9 => ?_⟩
    · rintro l hl s st'' n2 ⟨rfl, m2, hm2, rfl, hj2⟩ ih2
      obtain ⟨w, w1, w2, w3⟩ := tiedB_set (nb := q.2.1) (by omega) C l
      have w9 := pow9 (n := q.2.1) (by omega) w1
      have skip : ¬ (k.testBit i = true ∧ ∃ b, b < q.2.1 ∧ 0 < C (56 + 6 * i + b) ∧ 0 < C (56 + 6 * l + b)) → P_X12_steps_72 58 a b (fun x3 x4 x5 x6 st => P_X12_steps_58 58 a b k34 post n x3 x4 x5 x6 st) post n2 (iN k) x4 (iN m2) (iN i) (iN l + 1) st'' := fun hn => by
        rw [iN_s]
        refine ih2 _ _ ⟨rfl, m2, hm2, rfl, fun j hj9 => ?_⟩
        rw [hj2 j hj9]
        constructor
        · rintro (z | z | ⟨z1, z2⟩)
          · exact Or.inl z
          · exact Or.inr (Or.inl z)
          · exact Or.inr (Or.inr ⟨by omega, z2⟩)
        · rintro (z | z | ⟨z1, z2, z3⟩)
          · exact Or.inl z
          · exact Or.inr (Or.inl z)
          · by_cases e : j = l
            · subst e; exact absurd ⟨z2, z3⟩ hn
            · exact Or.inr (Or.inr ⟨by omega, z2, z3⟩)
      show P_X12_steps_72 58 a b _ post (n2 + 1) _ _ _ (iN i) (iN l) st''
      unfold P_X12_steps_72
      refine ⟨62, rfl, v0_10, fun hz => ?_, fun _ => s_isOf hk (by omega) ⟨fun hz => skip (fun e => ite1 hz e.1), fun hz => ⟨⟨_, rfl⟩, s_tiesOf (nb := q.2.1) M (by omega) ⟨⟨_, rfl⟩, s_tiesOf (nb := q.2.1) M (by omega) ?_⟩⟩⟩⟩
      · rw [M.e0] at hz; exact absurd hz (nle (by omega) hl)
      rw [hm, u2, w2]
      refine ⟨fun h0 => skip (fun e => ?_), fun h0 => ?_⟩
      · obtain ⟨_, b2, z1, z2, z3⟩ := e
        exact (and_z u9).mp h0 b2 (by omega) ⟨(u3 b2 (by omega)).mpr ⟨z1, z2⟩, (w3 b2 (by omega)).mpr ⟨z1, z3⟩⟩
      · have hz2 : ∃ b2, b2 < 9 ∧ u.testBit b2 = true ∧ w.testBit b2 = true := by
          apply Classical.byContradiction
          intro hn
          exact h0 ((and_z u9).mpr (fun j hj9 z => hn ⟨j, hj9, z.1, z.2⟩))
        obtain ⟨b2, y1, y2, y3⟩ := hz2
        show P_X12_steps_72 58 a b (fun x3 x4 x5 x6 st => P_X12_steps_58 58 a b k34 post n x3 x4 x5 x6 st) post n2 (iN k) x4 (iN m2 ||| bit l) (iN i) (iN l + 1) st''
        rw [iN_s, bit_iN l (by omega), iN_or]
        have hl2 : 2 ^ l < 512 := (show 2 ^ l < 2 ^ 9 from Nat.pow_lt_pow_right (by decide) (by omega))
        refine ih2 _ _ ⟨rfl, m2 ||| 2 ^ l, or_lt hm2 hl2, rfl, fun j hj9 => ?_⟩
        rw [Nat.testBit_or, Bool.or_eq_true, hj2 j hj9, Nat.testBit_two_pow, decide_eq_true_eq]
        constructor
        · rintro ((z | z | ⟨z1, z2⟩) | rfl)
          · exact Or.inl z
          · exact Or.inr (Or.inl z)
          · exact Or.inr (Or.inr ⟨by omega, z2⟩)
          · exact Or.inr (Or.inr ⟨by omega, ite2 hz, b2, ((u3 b2 y1).mp y2).1, ((u3 b2 y1).mp y2).2, ((w3 b2 y1).mp y3).2⟩)
        · rintro (z | z | ⟨z1, z2⟩)
          · exact Or.inl (Or.inl z)
          · exact Or.inl (Or.inr (Or.inl z))
          · by_cases e : l = j
            · exact Or.inr e
            · exact Or.inl (Or.inr (Or.inr ⟨by omega, z2⟩))
    · rintro s st'' n2 ⟨rfl, m2, hm2, rfl, hj2⟩
      show P_X12_steps_72 58 a b _ post (n2 + 1) _ _ _ (iN i) (iN q.1) st''
      unfold P_X12_steps_72
      refine ⟨62, rfl, v0_10, fun _ => ?_, fun hz => absurd (by rw [M.e0]; exact Int32.le_refl _) hz⟩
      rw [iN_s]
      refine ih _ _ ⟨rfl, m2, hm2, rfl, fun j hj9 => ?_⟩
      rw [hj2 j hj9]
      constructor
      · rintro (z | ⟨b2, p2, z1, z2, z3⟩ | ⟨z1, z2, b2, z3, z4, z5⟩)
        · exact Or.inl z
        · exact Or.inr ⟨b2, p2, z1, by omega, z3⟩
        · exact Or.inr ⟨b2, i, z3, by omega, z1, z2, z4, z5⟩
      · rintro (z | ⟨b2, p2, z1, z2, z3, z4, z5, z6⟩)
        · exact Or.inl z
        · by_cases e : p2 = i
          · subst e; exact Or.inr (Or.inr ⟨z3, z4, b2, z1, z5, z6⟩)
          · exact Or.inr (Or.inl ⟨b2, p2, z1, by omega, z3, z4, z5, z6⟩)
    · rw [hj j hj9]
      constructor
      · rintro (z | z)
        · exact Or.inl z
        · exact Or.inr (Or.inl z)
      · rintro (z | z | ⟨z, _⟩)
        · exact Or.inl z
        · exact Or.inr z
        · omega
  · rintro s st' n ⟨rfl, m, hm9, rfl, hj⟩
    show P_X12_steps_58 58 a b k34 post (n + 1) _ _ _ (iN q.1) st'
    unfold P_X12_steps_58
    refine ⟨62, rfl, v0_10, fun _ => ?_, fun hz => absurd (by rw [M.e0]; exact Int32.le_refl _) hz⟩
    rw [nx_eq (np := q.1) (nb := q.2.1) (c := C) (k := k) hm9 hj]
    exact h
theorem s_stM {st : St} {q : PD} (M : MPl st q) {C : Nat → Int32} (hm : mC q.2.1 st = C) {x y : Nat} (hx : x < 9) (hy : y < 9) {post : Int32 → St → Prop} (h : post (stF q.1 q.2.1 C x y 9) st) : ∃ n8, P_X12_steps_34 58 (iN x) (iN y) post n8 (bit x) 0 st := by
  refine ⟨10, loop_up (P := fun n i s st => P_X12_steps_34 58 (iN x) (iN y) post n s i st) (N := 9) (fun i s st' => st' = st ∧ s = iN (kSq q.1 q.2.1 C x i) ∧ stF q.1 q.2.1 C x y i = -1) ?_ ?_ 9 0 (bit x) st (by omega) ⟨rfl, bit_iN x hx, rfl⟩⟩
  · rintro i hi s st' n ⟨rfl, rfl, e⟩ ih
    have hk := kSq_lt (np := q.1) (nb := q.2.1) (c := C) hx i
    show P_X12_steps_34 58 (iN x) (iN y) post (n + 1) _ (iN i) st'
    unfold P_X12_steps_34
    refine ⟨fun hz => absurd hz (nle (a := 9) (by omega) hi), fun _ => s_isOf hk hy ⟨fun hz => s_st58 M hm hk ?_, fun hz => ?_⟩⟩
    · rw [iN_s]
      refine ih _ _ ⟨rfl, rfl, ?_⟩
      rw [st_s, if_neg (fun z => ite1 hz z.2)]
      exact e
    · rw [st_hit hi e (ite2 hz)] at h
      exact h
  · rintro s st' n ⟨rfl, rfl, e⟩
    show P_X12_steps_34 58 (iN x) (iN y) post (n + 1) _ (iN 9) st'
    unfold P_X12_steps_34
    rw [e] at h
    exact ⟨fun _ => h, fun hz => absurd (Int32.le_refl _) hz⟩
theorem c_steps {a b : Int32} {st : St} (hI : Inv st) : P_L_steps a b st (fun k st1 => Bth (P_X12_steps 58 a b) k st1) := by
  obtain ⟨v, H, HM, HO⟩ := hI
  obtain ⟨p, D⟩ := H.D
  have q1 := HO.1.1
  have hc := H.c
  by_cases ha : isI v.1.1 a
  · obtain ⟨x, hx, rfl⟩ := ha
    by_cases hb : isI v.1.1 b
    · obtain ⟨y, hy, rfl⟩ := hb
      refine h_ok (PC := fun post pex => P_X11_steps 0 (iN x) (iN y) st post pex) (PM := P_X12_steps 58 (iN x) (iN y)) (v2 := v) (r := stF v.1.1 v.1.2.1 v.2.1.1 x y 9) HM HO (fun post h => ?_) (fun s1 post I0 h => ?_)
      · exact ⟨tb_out, s_needP D hx ⟨tb_out, s_needP D hy (s_stC D hc (by omega) (by omega) (h st CFr.rf H))⟩⟩
      · obtain ⟨I1, F1, k1⟩ := m_beg I0
        exact ⟨rfl, ⟨_, rfl⟩, s_isP I1.1 hx ⟨fun hz => absurd hz (by decide), fun _ => ⟨⟨_, rfl⟩, s_isP I1.1 hy ⟨fun _ => s_stM I1.1 I1.c (by omega) (by omega) (h _ F1 I1 k1), fun hz => absurd hz (by decide)⟩⟩⟩⟩
    · refine h_thr (PC := fun post pex => P_X11_steps 0 (iN x) b st post pex) (PM := P_X12_steps 58 (iN x) b) (X := NSE) (k := 1) (by decide) H HM HO (fun pex h => ⟨tb_out, s_needP D hx ⟨tb_out, s_needP0 D hb h⟩⟩) (fun s1 post I0 h => ?_) (fun h => ⟨rfl, h⟩)
      exact ⟨rfl, ⟨_, rfl⟩, s_isP (m_beg I0).1.1 hx ⟨fun hz => absurd hz (by decide), fun _ => ⟨⟨_, rfl⟩, s_isP0 (m_beg I0).1.1 hb ⟨fun hz => absurd rfl hz, fun _ => ⟨⟨_, rfl⟩, m_fail I0 h⟩⟩⟩⟩⟩
  · refine h_thr (PC := fun post pex => P_X11_steps 0 a b st post pex) (PM := P_X12_steps 58 a b) (X := NSE) (k := 1) (by decide) H HM HO (fun pex h => ⟨tb_out, s_needP0 D ha h⟩) (fun s1 post I0 h => ?_) (fun h => ⟨rfl, h⟩)
    exact ⟨rfl, ⟨_, rfl⟩, s_isP0 (m_beg I0).1.1 ha ⟨fun _ => ⟨⟨_, rfl⟩, m_fail I0 h⟩, fun hz => absurd rfl hz⟩⟩
