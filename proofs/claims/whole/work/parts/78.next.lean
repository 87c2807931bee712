/-! PURE: next -/
theorem s_hasWB2 {st : St} {d p : Nat} {q : PD} (D : DSt st d p q) {u : Int32} {post : Int32 → St → Prop} (h1 : quiet q (gA st (ch d 1)) u → post 0 st) (h2 : ¬ quiet q (gA st (ch d 1)) u → post 1 st) : P_X2_hasWeddingBefore d u st post := by
  have q2 := D.ok.2.1
  refine ⟨q.2.1 + 1, loop_up (α := Unit) (P := fun n i _ st => P_X2_hasWeddingBefore_2 d u post n i st) (N := q.2.1) (fun i _ st' => st' = st ∧ ∀ b, b < i → gA st (ch d 1) (38 + 3 * b + 1) = 1 → u ≤ gA st (ch d 1) (38 + 3 * b)) ?_ ?_ q.2.1 0 () st (by omega) ⟨rfl, fun b hb => absurd hb (Nat.not_lt_zero _)⟩⟩
  · rintro i hi _ st' n ⟨rfl, hJ⟩ ih
    have nxt : (gA st' (ch d 1) (38 + 3 * i + 1) = 1 → u ≤ gA st' (ch d 1) (38 + 3 * i)) → P_X2_hasWeddingBefore_2 d u post n (iN i + 1) st' := fun hn => by
      rw [iN_s]
      refine ih () st' ⟨rfl, fun b hb => ?_⟩
      by_cases e : b = i
      · subst e; exact hn
      · exact hJ b (by omega)
    show P_X2_hasWeddingBefore_2 d u post (n + 1) (iN i) st'
    unfold P_X2_hasWeddingBefore_2
    refine ⟨_, D.pl, pl_1 D.hp, fun hz => ?_, fun _ => ⟨da_o D.hd, s_isHome D.hd (by omega) ⟨fun hz => nxt (fun e => absurd e (ite1 hz)), fun hz => ⟨da_o D.hd, s_weddingOf D.hd (by omega) ⟨fun h0 => nxt (fun _ => h0), fun h0 => h2 (fun z => h0 (z i hi (ite2 hz)))⟩⟩⟩⟩⟩
    rw [D.nb] at hz; exact absurd hz (nle (by omega) hi)
  · rintro _ st' n ⟨rfl, hJ⟩
    show P_X2_hasWeddingBefore_2 d u post (n + 1) (iN q.2.1) st'
    unfold P_X2_hasWeddingBefore_2
    exact ⟨_, D.pl, pl_1 D.hp, fun _ => h1 hJ, fun hz => absurd (by rw [D.nb]; exact Int32.le_refl _) hz⟩
theorem s_foresee2 {st : St} {p : Nat} {q : PD} (D : DSt st 30 p q) (hM : okM q.2.2.2.2) {d f : Nat} (hd : d ≤ 2000) (hf : f ≤ 60) (hday : gA st 4 0 = iN d) {c : Nat → Int32} (hA : AgC q.2.1 (gA st 31) (itC q c f)) (h0 : c 0 = iN d) (hH : HW q c) {post : St → Prop} (h : ∀ st1, Ex (SD 30) st st1 → QFr st st1 → DSt st1 30 p q → (∀ b, b < q.2.1 → gA st1 31 (38 + 3 * b + 2) = ldF q c b) → post st1) : P_X9_foresee 36 st post := by
  have q2 := D.ok.2.1
  have hAt : ∀ i, AgC q.2.1 (itP q (gA st 31, gA st 33) i).1 (itC q c (f + i)) := fun i => by
    have := it_ag D.ok (w := gA st 33) hA i
    rw [itC_add] at this
    exact this
  have hdt : ∀ i, itC q c i 0 = iN (d + i) := fun i => it_day D.ok (s := (c, fun _ => 0)) h0 i
  have fin : ∀ i st', Ex (SD 30) st st' → gA st' 31 = (itP q (gA st 31, gA st 33) i).1 → f + i ≤ 60 → (f + i = 60 ∨ quiet q (gA st' 31) (iN (d + 60))) → post st' := by
    intro i st' E2 e1 hi hor
    refine h st' E2 (QFr.ex E2 sd30_sc D.tp) (D.ex (npl_sd isDa30) E2) (fun b hb => ?_)
    unfold ldF
    have e60 := hAt (60 - f)
    rw [show f + (60 - f) = 60 by omega] at e60
    rw [← e60 _ (by omega) (by omega), e1]
    rcases hor with h60 | hq
    · rw [show 60 - f = i by omega]
    · rw [e1] at hq
      have e := it_add (q := q) (s := (gA st 31, gA st 33)) i (60 - f - i)
      rw [show i + (60 - f - i) = 60 - f by omega] at e
      rw [e]
      have hz : (itP q (gA st 31, gA st 33) i).1 0 = iN (d + f + i) := by
        rw [hAt i 0 (by omega) (by omega), hdt, Nat.add_assoc]
      refine (it_quiet D.ok (d := d + f + i) (m := 60 - f - i) (by omega) hz ?_ (60 - f - i) (Nat.le_refl _) _ (by omega)).symm
      rw [show d + f + i + (60 - f - i) = d + 60 by omega]
      exact hq
  refine ⟨3, rfl, ⟨_, rfl⟩, s_today (Or.inl rfl) ?_⟩
  have eu : gA st (ch 3 1) 0 + 60 = iN (d + 60) := by rw [ch31, hday, iN_add]; rfl
  rw [eu]
  refine ⟨61, loop_up (α := Unit) (P := fun n i _ st => P_X9_foresee_13 36 post n (iN (d + 60)) i st) (N := 60) (fun i _ st' => Ex (SD 30) st st' ∧ gA st' 31 = (itP q (gA st 31, gA st 33) i).1 ∧ gA st' 33 = (itP q (gA st 31, gA st 33) i).2 ∧ f + i ≤ 60) ?_ ?_ 60 0 () st (by omega) ⟨Ex.rf, rfl, rfl, by omega⟩⟩
  · rintro i hi _ st' n ⟨E2, e1, e2, hfi⟩ ih
    have D2 := D.ex (npl_sd isDa30) E2
    show P_X9_foresee_13 36 post (n + 1) (iN (d + 60)) (iN i) st'
    unfold P_X9_foresee_13
    refine ⟨fun hz => absurd hz (nle (a := 60) (by omega) hi), fun _ => ⟨30, rfl, ⟨_, rfl⟩, s_hasWB2 D2 (fun hq => ⟨fun _ => fin i st' E2 e1 hfi (Or.inr hq), fun hz => absurd rfl hz⟩) (fun hnq => ⟨fun hz => absurd hz (by decide), fun _ => ⟨30, rfl, ⟨_, rfl⟩, s_passDay D2 hM (fun st2 hE2 h1 h2 => ?_)⟩⟩)⟩⟩
    have hlt : f + i < 60 := by
      by_cases e60 : f + i = 60
      · exfalso
        apply hnq
        intro b hb h1
        have A := hAt i
        rw [e60] at A
        have h1 : gA st' 31 (38 + 3 * b + 1) = 1 := h1
        show iN (d + 60) ≤ gA st' 31 (38 + 3 * b)
        rw [e1, A.lo (by omega)] at h1
        rw [e1, A.lo (by omega)]
        have hw : HW q (itC q c 60) := HW_it D.ok (s := (c, fun _ => 0)) h0 hH 60 (by omega)
        have := hw b hb h1
        rw [hdt] at this
        exact this
      · omega
    have h1 : gA st2 31 = (passF q (gA st' 31, gA st' 33)).1 := h1
    have h2 : gA st2 33 = (passF q (gA st' 31, gA st' 33)).2 := h2
    rw [e1, e2] at h1 h2
    rw [iN_s]
    exact ih () st2 ⟨E2.tr hE2, h1, h2, by omega⟩
  · rintro _ st' n ⟨E2, e1, e2, hfi⟩
    show P_X9_foresee_13 36 post (n + 1) (iN (d + 60)) (iN 60) st'
    unfold P_X9_foresee_13
    exact ⟨fun _ => fin 60 st' E2 e1 hfi (Or.inl (by omega)), fun hz => absurd (Int32.le_refl _) hz⟩
/-! sets of leaders -/
def dsF (m : Nat → Nat) (i : Nat) : Nat := lp (fun j k => k ||| 2 ^ m j) 0 i
theorem ds_0 (m : Nat → Nat) : dsF m 0 = 0 := by unfold dsF; rw [lp_0]
theorem ds_s (m : Nat → Nat) (i : Nat) : dsF m (i + 1) = dsF m i ||| 2 ^ m i := by unfold dsF; rw [lp_s]
theorem ds_cg {m m2 : Nat → Nat} {i : Nat} (h : ∀ j, j < i → m j = m2 j) : dsF m i = dsF m2 i := by
  unfold dsF
  exact lp_cg i (fun j s hj => by rw [h j hj])
theorem ds_lt {m : Nat → Nat} : ∀ i, (∀ j, j < i → m j < 10) → dsF m i < 1024 := by
  intro i
  induction i with
  | zero => intro _; rw [ds_0]; decide
  | succ i ih =>
    intro h
    rw [ds_s]
    exact Nat.or_lt_two_pow (n := 10) (ih (fun j hj => h j (by omega))) (Nat.pow_lt_pow_right (by decide) (h i (by omega)))
theorem ds_bit (m : Nat → Nat) (k : Nat) : ∀ i, (dsF m i).testBit k = true ↔ ∃ j, j < i ∧ m j = k := by
  intro i
  induction i with
  | zero => rw [ds_0, Nat.zero_testBit]; exact ⟨fun h => Bool.noConfusion h, fun ⟨j, hj, _⟩ => absurd hj (Nat.not_lt_zero _)⟩
  | succ i ih =>
    rw [ds_s, Nat.testBit_or, Bool.or_eq_true, ih, Nat.testBit_two_pow, decide_eq_true_eq]
    constructor
    · rintro (⟨j, hj, e⟩ | e)
      · exact ⟨j, by omega, e⟩
      · exact ⟨i, by omega, e⟩
    · rintro ⟨j, hj, e⟩
      by_cases ej : j = i
      · rw [ej] at e; exact Or.inr e
      · exact Or.inl ⟨j, by omega, e⟩
set_option maxRecDepth 100000 in
theorem bc_or : ∀ m, m < 10 → ∀ k, k < 1024 → bc (iN (k ||| 2 ^ m)) = if k.testBit m then bc (iN k) else bc (iN k) + 1 := by decide +kernel
theorem sh_m : ∀ m, m < 10 → (1 : Int32) <<< ((iN m : Int32) &&& 31) = iN (2 ^ m) := by decide
/-- a leader as a number from 0 on -/
def ldm (q : PD) (c : Nat → Int32) (b g : Nat) : Nat := (ldF q (gsC c g) b + 1).toNatClampNeg
theorem gs_CI {q : PD} (hq : PDok q) {c : Nat → Int32} (h : CI q c) {g : Nat} (hg : g < 10 * q.1) : CI q (gsC c g) := by
  have := hq.1
  unfold gsC
  exact CI_irr hq ⟨by omega, by omega⟩ h
theorem ldm_ok {q : PD} (hq : PDok q) {c : Nat → Int32} (h : CI q c) {b g : Nat} (hb : b < q.2.1) (hg : g < 10 * q.1) : ldF q (gsC c g) b + 1 = iN (ldm q c b g) ∧ ldm q c b g < 10 := by
  have h1 := (CI_itC hq (gs_CI hq h hg) 60).2.2 b hb
  have q1 := hq.1
  have h2 : ldF q (gsC c g) b = -1 ∨ ∃ x, x < q.1 ∧ ldF q (gsC c g) b = iN x := h1.2.2
  unfold ldm
  rcases h2 with e | ⟨x, hx, e⟩
  · rw [e]; exact ⟨rfl, by decide⟩
  · rw [e, iN_s, iN_cl (by omega)]; exact ⟨rfl, by omega⟩
noncomputable def unF (q : PD) (c : Nat → Int32) (s : Nat × (Nat → Nat)) (b : Nat) : Nat := dsF (fun j => ldm q c b (s.2 j)) s.1
noncomputable def uF (q : PD) (c : Nat → Int32) (s : Nat × (Nat → Nat)) (b : Nat) : Int32 := bc (iN (unF q c s b))
def nxS2 (u : Nat → Int32) (N : Nat) : Int32 × Int32 := lp (fun b s => if u b ≤ s.2 then s else (iN b, u b)) ((-1 : Int32), (0 : Int32)) N
theorem nx_0 (u : Nat → Int32) : nxS2 u 0 = (-1, 0) := by unfold nxS2; rw [lp_0]
theorem nx_s (u : Nat → Int32) (N : Nat) : nxS2 u (N + 1) = if u N ≤ (nxS2 u N).2 then nxS2 u N else (iN N, u N) := by unfold nxS2; rw [lp_s]
theorem un_add {q : PD} {c : Nat → Int32} {E : Nat → Nat → Int32} {n g : Nat} (h : Fit q c E n g) (b : Nat) : unF q c (ftF q c E n (g + 1)) b = unF q c (ftF q c E n g) b ||| 2 ^ ldm q c b g := by
  rw [ft_p h]
  unfold unF
  show dsF (fun j => ldm q c b (if j = (ftF q c E n g).1 then g else (ftF q c E n g).2 j)) ((ftF q c E n g).1 + 1) = _
  rw [ds_s]
  show dsF _ _ ||| 2 ^ ldm q c b (if (ftF q c E n g).1 = (ftF q c E n g).1 then g else _) = _
  rw [if_pos rfl, ds_cg (m2 := fun j => ldm q c b ((ftF q c E n g).2 j)) (fun j hj => by show ldm q c b (if j = (ftF q c E n g).1 then g else _) = _; rw [if_neg (by omega)])]
/-! the class -/
theorem s_note {st : St} {p : Nat} {q : PD} (D : DSt st 3 p q) {l : Nat → Int32} (hl : ∀ b, b < q.2.1 → gA st 31 (38 + 3 * b + 2) = l b) {post : St → Prop} (h : ∀ st1, Ex (Sa 37) st st1 → (∀ b, b < q.2.1 → gA st1 37 b = gA st 37 b ||| ((1 : Int32) <<< ((l b + 1 : Int32) &&& 31))) → post st1) : P_X9_noteLeaders 36 st post := by
  have q2 := D.ok.2.1
  refine ⟨q.2.1 + 1, loop_up (α := Unit) (P := fun m i _ st => P_X9_noteLeaders_2 36 post m i st) (N := q.2.1) (fun i _ st' => Ex (Sa 37) st st' ∧ (∀ b, b < i → gA st' 37 b = gA st 37 b ||| ((1 : Int32) <<< ((l b + 1 : Int32) &&& 31))) ∧ ∀ b, i ≤ b → gA st' 37 b = gA st 37 b) ?_ ?_ q.2.1 0 () st (by omega) ⟨Ex.rf, fun b hb => absurd hb (Nat.not_lt_zero _), fun _ _ => rfl⟩⟩
  · rintro i hi _ st' m ⟨E1, r1, r2⟩ ih
    have D1 : DSt st' 3 p q := D.ex ⟨fun p hp => by rcases hp with rfl | rfl <;> unfold Sa <;> decide, fun r hr => by rcases hr with rfl | rfl | rfl | rfl <;> unfold Sa <;> decide⟩ E1
    have v : vp_in (iN i) (al 0 37) := vi6 hi q2 rfl
    show P_X9_noteLeaders_2 36 post (m + 1) (iN i) st'
    unfold P_X9_noteLeaders_2
    refine ⟨3, rfl, p, D1.pl, pl_1 D1.hp, fun hz => ?_, fun _ => ⟨37, rfl, v, 30, rfl, ⟨_, rfl⟩, s_whoLedT (by omega) ⟨v, ?_⟩⟩⟩
    · rw [D1.nb] at hz; exact absurd hz (nle (by omega) hi)
    rw [iN_cl (by omega), iN_s, E1.eA (show ¬ Sa 37 31 by unfold Sa; decide), hl i hi, r2 i (Nat.le_refl _)]
    refine ih () _ ⟨E1.tr (Ex.sa (S := Sa 37) rfl _ _), fun b hb => ?_, fun b hb => ?_⟩
    · rw [gA_sA]
      by_cases e : b = i
      · rw [e, upd_same]
      · rw [upd_ne e]; exact r1 b (by omega)
    · rw [gA_sA, upd_ne (by omega)]; exact r2 b (by omega)
  · rintro _ st' m ⟨E1, r1, r2⟩
    have D1 : DSt st' 3 p q := D.ex ⟨fun p hp => by rcases hp with rfl | rfl <;> unfold Sa <;> decide, fun r hr => by rcases hr with rfl | rfl | rfl | rfl <;> unfold Sa <;> decide⟩ E1
    show P_X9_noteLeaders_2 36 post (m + 1) (iN q.2.1) st'
    unfold P_X9_noteLeaders_2
    exact ⟨3, rfl, p, D1.pl, pl_1 D1.hp, fun _ => h st' E1 r1, fun hz => absurd (by rw [D1.nb]; exact Int32.le_refl _) hz⟩
theorem ex37E {a b : St} (E : Ex (Sa 37) a b) (ht : ∃ pt, isPl pt ∧ gR a 30 0 = some pt) : QFr a b := QFr.ex E (fun y z => by rw [z]; unfold ScC; decide) ht
set_option maxHeartbeats 2000000 in
theorem s_nxC {st : St} {v : AV} (H : InvC st v) (HO : AvOk v) {a1 : Int32} {post : Int32 → St → Prop} (h : ∀ st1, QFr st st1 → post (if a1 = 0 then (nxS2 (uF v.1 v.2.1.1 (ftF v.1 v.2.1.1 v.2.1.2.2.1.2 v.2.1.2.2.1.1 (10 * v.1.1))) v.1.2.1).1 else (nxS2 (uF v.1 v.2.1.1 (ftF v.1 v.2.1.1 v.2.1.2.2.1.2 v.2.1.2.2.1.1 (10 * v.1.1))) v.1.2.1).2) st1) : P_X9_weighNext 36 a1 st post := by
  obtain ⟨p, D⟩ := H.D
  have q1 := HO.1.1
  have q2 := HO.1.2.1
  have hc := H.c
  have S := H.se HO
  have hCB := HO.2.2.1.1
  obtain ⟨dd, hdd, ed⟩ := hCB.2.2.1
  have tp := H.tp
  generalize v.2.1.2.2.1.2 = E at *
  generalize v.2.1.2.2.1.1 = n at *
  refine ⟨7, loop_up (α := Unit) (P := fun m i _ st => P_X9_weighNext_2 36 a1 post m i st) (N := 6) (fun i _ st' => QFr st st' ∧ ∀ b, b < i → gA st' 37 b = 0) ?_ ?_ 6 0 () st (by omega) ⟨QFr.rf tp, fun b hb => absurd hb (Nat.not_lt_zero _)⟩⟩
  · rintro i hi _ st' m ⟨Q1, r1⟩ ih
    show P_X9_weighNext_2 36 a1 post (m + 1) (iN i) st'
    unfold P_X9_weighNext_2
    refine ⟨fun hz => absurd hz (nle (a := 6) (by omega) hi), fun _ => ⟨37, rfl, vi6 hi (Nat.le_refl _) rfl, ?_⟩⟩
    rw [iN_cl (by omega), iN_s]
    refine ih () _ ⟨Q1.tr (ex37 Q1.2.2.1 _ _), fun b hb => ?_⟩
    rw [gA_sA]
    by_cases e : b = i
    · rw [e, upd_same]
    · rw [upd_ne e]; exact r1 b (by omega)
  · rintro _ st0 m0 ⟨Q0, z0⟩
    show P_X9_weighNext_2 36 a1 post (m0 + 1) (iN 6) st0
    unfold P_X9_weighNext_2
    refine ⟨fun _ => ?_, fun hz => absurd (Int32.le_refl _) hz⟩
    refine ⟨10 * v.1.1 + 1, loop_up (α := Unit) (P := fun m i _ st => P_X9_weighNext_23 36 a1 post m i st) (N := 10 * v.1.1) (fun i _ st' => QFr st st' ∧ ∀ b, b < v.1.2.1 → gA st' 37 b = iN (unF v.1 v.2.1.1 (ftF v.1 v.2.1.1 E n i) b)) ?_ ?_ (10 * v.1.1) 0 () st0 (by omega) ⟨Q0, fun b hb => ?_⟩⟩
    · rintro i hi _ st' m ⟨Q1, r1⟩ ih
      have D1 := D.qfr Q1
      show P_X9_weighNext_23 36 a1 post (m + 1) (iN i) st'
      unfold P_X9_weighNext_23
      refine ⟨3, rfl, p, D1.pl, pl_0 D1.hp, fun hz => ?_, fun _ => ⟨⟨_, rfl⟩, s_suppose (c := v.2.1.1) Q1 D1 (by rw [Q1.e4]; exact hc) hi (fun hne st2 Q2 D2 A2 n2 => ⟨fun hz => absurd hz (by decide), fun _ => ⟨⟨_, rfl⟩, s_isSeen Q2 D2 HO.2.1 (S.qfr Q2) A2 (fun st3 f hf Q3 D3 A3 n3 hs => ⟨fun hz => absurd hz (by decide), fun _ => ⟨⟨_, rfl⟩, ?_⟩⟩) (fun st3 Q3 _ n3 hs => ⟨fun _ => ?_, fun hz => absurd rfl hz⟩)⟩⟩) (fun he st2 Q2 n2 => ⟨fun _ => ?_, fun hz => absurd rfl hz⟩)⟩⟩
      · rw [ten_np D1] at hz; exact absurd hz (nle (by omega) hi)
      · have eg0 : gsC v.2.1.1 i 0 = iN dd := by unfold gsC; rw [upd_ne (by omega)]; exact ed
        have hHg : HW v.1 (gsC v.2.1.1 i) := by
          intro b hb h1
          unfold gsC at h1 ⊢
          rw [upd_ne (by omega)] at h1
          rw [upd_ne (by omega), upd_ne (by omega)]
          exact hCB.2.2.2.2 b hb h1
        refine s_foresee2 D3 HO.2.1 (d := dd) (f := f) (by omega) (by omega) (by rw [Q3.e4, hc]; exact ed) A3 eg0 hHg (fun st4 E4 Q4 D4 l4 => ⟨⟨_, rfl⟩, s_note (D.qfr (Q3.tr Q4)) l4 (fun st5 E5 r5 => ?_)⟩)
        show P_X9_weighNext_23 36 a1 post m (iN i + 1) st5
        rw [iN_s]
        refine ih () _ ⟨(Q3.tr Q4).tr (ex37E E5 D4.tp), fun b hb => ?_⟩
        obtain ⟨k1, k2⟩ := ldm_ok HO.1 hCB.1 hb hi
        rw [r5 b hb, k1, sh_m _ k2, E4.eA (by unfold SD ScV; decide), n3, n2, r1 b hb, iN_or, un_add ⟨hne, hs⟩]
      · show P_X9_weighNext_23 36 a1 post m (iN i + 1) st3
        rw [iN_s]
        refine ih () _ ⟨Q3, fun b hb => ?_⟩
        rw [n3, n2, ft_n (fun z => hs z.2)]; exact r1 b hb
      · show P_X9_weighNext_23 36 a1 post m (iN i + 1) st2
        rw [iN_s]
        refine ih () _ ⟨Q2, fun b hb => ?_⟩
        rw [n2, ft_n (fun z => z.1 he)]; exact r1 b hb
    · rintro _ st' m ⟨Q1, r1⟩
      have D1 := D.qfr Q1
      show P_X9_weighNext_23 36 a1 post (m + 1) (iN (10 * v.1.1)) st'
      unfold P_X9_weighNext_23
      refine ⟨3, rfl, p, D1.pl, pl_0 D1.hp, fun _ => ?_, fun hz => absurd (by rw [ten_np D1]; exact Int32.le_refl _) hz⟩
      have K := h st' Q1
      generalize ftF v.1 v.2.1.1 E n (10 * v.1.1) = s at *
      refine ⟨v.1.2.1 + 1, loop_up (P := fun m i (a : Int32 × Int32) st => P_X9_weighNext_76 36 a1 post m a.1 a.2 i st) (N := v.1.2.1) (fun i a st2 => st2 = st' ∧ a = nxS2 (uF v.1 v.2.1.1 s) i) ?_ ?_ v.1.2.1 0 (-1, 0) st' (by omega) ⟨rfl, by rw [nx_0]⟩⟩
      · rintro i hi a st2 m2 ⟨rfl, rfl⟩ ih
        have eu : bc (gA st2 37 (iN i).toNatClampNeg) = uF v.1 v.2.1.1 s i := by rw [iN_cl (by omega), r1 i hi]; rfl
        show P_X9_weighNext_76 36 a1 post (m2 + 1) _ _ (iN i) st2
        unfold P_X9_weighNext_76
        refine ⟨3, rfl, p, D1.pl, pl_1 D1.hp, fun hz => ?_, fun _ => ⟨37, rfl, vi6 hi q2 rfl, s_bitCount ?_⟩⟩
        · rw [D1.nb] at hz; exact absurd hz (nle (by omega) hi)
        rw [eu]
        refine ⟨fun hz => ?_, fun hz => ?_⟩
        · show P_X9_weighNext_76 36 a1 post m2 _ _ (iN i + 1) st2
          rw [iN_s]
          exact ih _ _ ⟨rfl, by rw [nx_s, if_pos hz]⟩
        · show P_X9_weighNext_76 36 a1 post m2 _ _ (iN i + 1) st2
          rw [iN_s]
          exact ih (iN i, uF v.1 v.2.1.1 s i) _ ⟨rfl, by rw [nx_s, if_neg hz]⟩
      · rintro a st2 m2 ⟨rfl, rfl⟩
        show P_X9_weighNext_76 36 a1 post (m2 + 1) _ _ (iN v.1.2.1) st2
        unfold P_X9_weighNext_76
        refine ⟨3, rfl, p, D1.pl, pl_1 D1.hp, fun _ => ⟨fun hz => ?_, fun hz => ?_⟩, fun hz => absurd (by rw [D1.nb]; exact Int32.le_refl _) hz⟩
        · rw [if_pos hz] at K; exact K
        · rw [if_neg hz] at K; exact K
    · rw [z0 b (by omega), ft_0]
      show (0 : Int32) = iN (dsF _ 0)
      rw [ds_0]; rfl
/-! the reference -/
theorem al95 : al 0 95 = 540 := rfl
theorem ld_eq {a b : Int32} {m k : Nat} (ha : a + 1 = iN m) (hb : b + 1 = iN k) (hm : m < 10) (hk : k < 10) : a = b ↔ m = k := by
  constructor
  · intro e
    rw [e, hb] at ha
    exact ((iN_eq (by omega) (by omega)).mp ha).symm
  · intro e
    rw [e, ← hb] at ha
    calc a = a + 1 - 1 := (Int32.add_sub_cancel a 1).symm
      _ = b + 1 - 1 := by rw [ha]
      _ = b := Int32.add_sub_cancel b 1
theorem s_un18 {st : St} {b i cnt : Nat} (hi : i < cnt) (hc : cnt ≤ 90) (hb : b < 6) {L : Nat → Int32} {m : Nat → Nat} (hL : ∀ j, j < cnt → gA st 95 (6 * j + b) = L j) (hm : ∀ j, j < cnt → L j + 1 = iN (m j) ∧ m j < 10) {x2 : Int32} {k4 : Int32 → Int32 → St → Prop} {post : Int32 → St → Prop} (h : k4 (if (dsF m i).testBit (m i) then x2 else x2 + 1) (iN i + 1) st) : ∃ n8, P_X12_unlike_18 58 (iN b) k4 post n8 x2 (iN i) 1 0 st := by
  have fin : ∀ a : Int32, ((a = 1 ∧ ∀ k, k < i → m k ≠ m i) ∨ (a = 0 ∧ ∃ k, k < i ∧ m k = m i)) → P_X12_unlike_68 58 (iN b) k4 post x2 (iN i) a st := by
    intro a ha
    refine ⟨fun hz => ?_, fun hz => ?_⟩
    · rcases ha with ⟨rfl, _⟩ | ⟨_, k, hk, e⟩
      · exact absurd hz (by decide)
      · rw [if_pos ((ds_bit m (m i) i).mpr ⟨k, hk, e⟩)] at h
        show k4 (x2 + 0) (iN i + 1) st
        rw [Int32.add_zero]; exact h
    · rcases ha with ⟨_, hn⟩ | ⟨rfl, _⟩
      · rw [if_neg (fun z => by obtain ⟨k, hk, e⟩ := (ds_bit m (m i) i).mp z; exact hn k hk e)] at h
        exact h
      · exact absurd rfl hz
  refine ⟨i + 1, loop_up (P := fun n8 k a st => P_X12_unlike_18 58 (iN b) k4 post n8 x2 (iN i) a k st) (N := i) (fun k a st' => st' = st ∧ ((a = 1 ∧ ∀ k', k' < k → m k' ≠ m i) ∨ (a = 0 ∧ ∃ k', k' < i ∧ m k' = m i))) ?_ ?_ i 0 1 st (by omega) ⟨rfl, Or.inl ⟨rfl, fun k hk => absurd hk (Nat.not_lt_zero _)⟩⟩⟩
  · rintro k hk a st' n8 ⟨rfl, J⟩ ih
    show P_X12_unlike_18 58 (iN b) k4 post (n8 + 1) x2 (iN i) a (iN k) st'
    unfold P_X12_unlike_18
    refine ⟨fun hz => absurd hz (nle (by omega) hk), fun _ => ⟨fun ha => fin a ?_, fun ha => ?_⟩⟩
    · rcases J with ⟨rfl, _⟩ | J
      · exact absurd ha (by decide)
      · exact Or.inr J
    · have J1 : a = 1 ∧ ∀ k', k' < k → m k' ≠ m i := by
        rcases J with J | ⟨rfl, _⟩
        · exact J
        · exact absurd rfl ha
      rw [x_m, x_m, iN_cl (by omega), iN_cl (by omega)]
      refine ⟨95, rfl, by rw [al95]; exact iN_vp (by omega) (by decide), 95, rfl, by rw [al95]; exact iN_vp (by omega) (by decide), ?_⟩
      rw [hL k (by omega), hL i hi]
      have eq := ld_eq (hm k (by omega)).1 (hm i hi).1 (hm k (by omega)).2 (hm i hi).2
      refine ⟨fun hz => ?_, fun hz => ?_⟩
      · show P_X12_unlike_18 58 (iN b) k4 post n8 x2 (iN i) 0 (iN k + 1) st'
        rw [iN_s]
        exact ih _ _ ⟨rfl, Or.inr ⟨rfl, k, hk, eq.mp hz⟩⟩
      · show P_X12_unlike_18 58 (iN b) k4 post n8 x2 (iN i) 1 (iN k + 1) st'
        rw [iN_s]
        refine ih _ _ ⟨rfl, Or.inl ⟨rfl, fun k' hk' => ?_⟩⟩
        by_cases e : k' = k
        · rw [e]; exact fun z => hz (eq.mpr z)
        · exact J1.2 k' (by omega)
  · rintro a st' n8 ⟨rfl, J⟩
    show P_X12_unlike_18 58 (iN b) k4 post (n8 + 1) x2 (iN i) a (iN i) st'
    unfold P_X12_unlike_18
    exact ⟨fun _ => fin a J, fun hz => absurd (Int32.le_refl _) hz⟩
theorem s_unlike {st : St} {b cnt : Nat} (e54 : gI st 58 54 = iN cnt) (hc : cnt ≤ 90) (hb : b < 6) {L : Nat → Int32} {m : Nat → Nat} (hL : ∀ j, j < cnt → gA st 95 (6 * j + b) = L j) (hm : ∀ j, j < cnt → L j + 1 = iN (m j) ∧ m j < 10) {post : Int32 → St → Prop} (h : post (bc (iN (dsF m cnt))) st) : P_X12_unlike 58 (iN b) st post := by
  refine ⟨cnt + 1, loop_up (P := fun n8 i a st => P_X12_unlike_4 58 (iN b) post n8 a i st) (N := cnt) (fun i a st' => st' = st ∧ a = bc (iN (dsF m i))) ?_ ?_ cnt 0 0 st (by omega) ⟨rfl, by rw [ds_0]; rfl⟩⟩
  · rintro i hi a st' n8 ⟨rfl, rfl⟩ ih
    show P_X12_unlike_4 58 (iN b) post (n8 + 1) _ (iN i) st'
    unfold P_X12_unlike_4
    refine ⟨rfl, fun hz => ?_, fun _ => s_un18 hi hc hb hL hm ?_⟩
    · rw [e54] at hz; exact absurd hz (nle (by omega) hi)
    show P_X12_unlike_4 58 (iN b) post n8 _ (iN i + 1) st'
    rw [iN_s]
    refine ih _ _ ⟨rfl, ?_⟩
    rw [ds_s, bc_or _ (hm i hi).2 _ (ds_lt i (fun j hj => (hm j (by omega)).2))]
  · rintro a st' n8 ⟨rfl, rfl⟩
    show P_X12_unlike_4 58 (iN b) post (n8 + 1) _ (iN cnt) st'
    unfold P_X12_unlike_4
    exact ⟨rfl, fun _ => h, fun hz => absurd (by rw [e54]; exact Int32.le_refl _) hz⟩
def SNx (x : Nat) : Prop := SFt x ∨ SWu x ∨ x = 95
theorem snx_sw : ∀ x, SNx x → SW x := by
  rintro x (z | z | rfl)
  · exact sft_sw x z
  · exact swu_sw x z
  · exact Or.inr (by unfold ScM; decide)
theorem snx_p : nMP SNx := by unfold nMP SNx SFt SWs SWu SWt SMd isM; decide
theorem s_nx82 {st : St} {i : Nat} (hi : i < 90) {a1 : Int32} {k26 : Int32 → St → Prop} {post : Int32 → St → Prop} (h : ∀ st1, Ex (Sa 95) st st1 → (∀ b, b < 6 → gA st1 95 (6 * i + b) = gA st 86 b) → (∀ j, j < 6 * i → gA st1 95 j = gA st 95 j) → k26 (iN i + 1) st1) : ∃ n8, P_X12_next_82 58 a1 k26 post n8 (iN i) 0 st := by
  refine ⟨7, loop_up (α := Unit) (P := fun n8 b _ st => P_X12_next_82 58 a1 k26 post n8 (iN i) b st) (N := 6) (fun b _ st' => Ex (Sa 95) st st' ∧ (∀ b', b' < b → gA st' 95 (6 * i + b') = gA st 86 b') ∧ ∀ j, j < 6 * i → gA st' 95 j = gA st 95 j) ?_ ?_ 6 0 () st (by omega) ⟨Ex.rf, fun b hb => absurd hb (Nat.not_lt_zero _), fun _ _ => rfl⟩⟩
  · rintro b hb _ st' n8 ⟨E1, r1, r2⟩ ih
    show P_X12_next_82 58 a1 k26 post (n8 + 1) (iN i) (iN b) st'
    unfold P_X12_next_82
    rw [x_m, iN_cl (by omega), iN_cl (by omega), iN_s b]
    refine ⟨fun hz => absurd hz (nle (a := 6) (by omega) hb), fun _ => ⟨95, rfl, 86, rfl, vi6 hb (Nat.le_refl _) rfl, by rw [al95]; exact iN_vp (by omega) (by decide), ?_⟩⟩
    refine ih () _ ⟨E1.tr (Ex.sa (S := Sa 95) rfl _ _), fun b' hb' => ?_, fun j hj => ?_⟩
    · rw [gA_sA]
      by_cases e : b' = b
      · rw [e, upd_same, E1.eA (show ¬ Sa 95 86 by unfold Sa; decide)]
      · rw [upd_ne (by omega)]; exact r1 b' (by omega)
    · rw [gA_sA, upd_ne (by omega)]; exact r2 j hj
  · rintro _ st' n8 ⟨E1, r1, r2⟩
    show P_X12_next_82 58 a1 k26 post (n8 + 1) (iN i) (iN 6) st'
    unfold P_X12_next_82
    exact ⟨fun _ => h st' E1 r1 r2, fun hz => absurd (Int32.le_refl _) hz⟩
set_option maxHeartbeats 2000000 in
theorem s_nxM {st : St} {q : PD} (M : MPl st q) {C : Nat → Int32} (hm : mC q.2.1 st = C) (hC : CI q C) {n : Nat} {E : Nat → Nat → Int32} (T : FtM st (ftF q C E n (10 * q.1))) {a1 : Int32} {post : Int32 → St → Prop} (h : ∀ st1, Fx IFt SNx st st1 → mC q.2.1 st1 = C → post (if a1 = 0 then (nxS2 (uF q C (ftF q C E n (10 * q.1))) q.2.1).1 else (nxS2 (uF q C (ftF q C E n (10 * q.1))) q.2.1).2) st1) : ∃ n8, P_X12_next_26 58 a1 post n8 0 st := by
  have q1 := M.np
  have q2 := M.nb
  have hle := ft_le q C E n (10 * q.1)
  generalize ftF q C E n (10 * q.1) = s at *
  have s75 : SNx 75 := Or.inl (Or.inl (Or.inl (Or.inl ⟨by decide, by decide⟩)))
  refine ⟨s.1 + 1, loop_up (α := Unit) (P := fun n8 i _ st => P_X12_next_26 58 a1 post n8 i st) (N := s.1) (fun i _ st' => Fx IFt SNx st st' ∧ mC q.2.1 st' = C ∧ FtM st' s ∧ ∀ j, j < i → ∀ b, b < q.2.1 → gA st' 95 (6 * j + b) = ldF q (gsC C (s.2 j)) b) ?_ ?_ s.1 0 () st (by omega) ⟨Fx.rf, hm, T, fun j hj => absurd hj (Nat.not_lt_zero _)⟩⟩
  · rintro i hi _ st' n8 ⟨F1, e1, T1, r1⟩ ih
    have hg := (hle.2 i hi).1
    have hlt : s.1 ≤ 90 := by have := hle.1; omega
    have g94 : gA st' 94 (iN i).toNatClampNeg = iN (s.2 i) := by rw [iN_cl (by omega)]; exact T1.2 i hi
    have v94 : vp_in (iN i) (al 0 94) := by rw [al94]; exact iN_vp (by omega) (by decide)
    have d1 : iN (s.2 i) / 10 = iN (s.2 i / 10) := iN_div (b := 10) (by omega) (by decide)
    have d2 : iN (s.2 i) - iN (s.2 i / 10) * 10 = iN (s.2 i % 10) := by rw [← d1]; exact iN_mod (b := 10) (by omega) (by decide)
    have v75 : vp_in (iN (s.2 i / 10)) (al 0 75) := vi9 (n := q.1) (by omega) q1 rfl
    have g75 : gA st' 75 (s.2 i / 10) = C (2 + 4 * (s.2 i / 10) + 2) := by rw [← e1]; exact (rC_o (by omega)).symm
    show P_X12_next_26 58 a1 post (n8 + 1) (iN i) st'
    unfold P_X12_next_26
    refine ⟨rfl, fun hz => ?_, fun _ => ⟨94, rfl, v94, 75, rfl, ?_⟩⟩
    · rw [T1.1] at hz; exact absurd hz (nle (by omega) hi)
    rw [g94, d1, iN_cl (by omega), g75]
    refine ⟨v75, 75, rfl, 94, rfl, v94, v75, ⟨_, rfl⟩, ?_⟩
    rw [g94, d1, d2]
    have F2 : Fx IFt SNx st (sA st' 75 (s.2 i / 10) (iN (s.2 i % 10))) := F1.tr (Fx.sa s75 _ _)
    have e2 : mC q.2.1 (sA st' 75 (s.2 i / 10) (iN (s.2 i % 10))) = gsC C (s.2 i) := by rw [mC_so (by omega), e1]; rfl
    refine s_tellLeaders (M.fx F2 snx_p) (by rw [e2]; exact gs_CI M.ok hC hg) (fun s3 F3 e3 l3 => ⟨75, rfl, v75, ?_⟩)
    have F4 : Fx IFt SNx st (sA s3 75 (s.2 i / 10) (C (2 + 4 * (s.2 i / 10) + 2))) := (F2.tr (F3.wk imd_ift (fun _ z => Or.inr (Or.inl z)))).tr (Fx.sa s75 _ _)
    have e4 : mC q.2.1 (sA s3 75 (s.2 i / 10) (C (2 + 4 * (s.2 i / 10) + 2))) = C := by
      rw [mC_so (by omega), e3, e2]
      unfold gsC
      rw [upd_upd]
      exact upd_id rfl
    have n3 : ∀ x, ¬ SWu x → x ≠ 75 → gA (sA s3 75 (s.2 i / 10) (C (2 + 4 * (s.2 i / 10) + 2))) x = gA st' x := fun x k1 k2 => by rw [gA_sA_ne k2, F3.eA k1, gA_sA_ne k2]
    have k3 : gI (sA s3 75 (s.2 i / 10) (C (2 + 4 * (s.2 i / 10) + 2))) 58 54 = gI st' 58 54 := F3.eI (by unfold IMd; decide)
    have l4 : ∀ b, b < q.2.1 → gA (sA s3 75 (s.2 i / 10) (C (2 + 4 * (s.2 i / 10) + 2))) 86 b = ldF q (gsC C (s.2 i)) b := fun b hb => by rw [gA_sA_ne (by decide), l3 b hb, e2]
    generalize sA s3 75 (s.2 i / 10) (C (2 + 4 * (s.2 i / 10) + 2)) = s4 at *
    refine s_nx82 (by omega) (fun s5 E5 r5 r6 => ?_)
    show P_X12_next_26 58 a1 post n8 (iN i + 1) s5
    rw [iN_s]
    refine ih () _ ⟨F4.tr (E5.fw (fun x z => Or.inr (Or.inr z))), (mC_ex E5 (fun x z y => by rw [z] at y; unfold isM at y; omega) _).trans e4, T1.cg ((E5.eI _ _).trans k3) ((E5.eA (by unfold Sa; decide)).trans (n3 94 (by unfold SWu SWt SMd isM; decide) (by decide))), fun j hj b hb => ?_⟩
    by_cases ej : j = i
    · rw [ej, r5 b (by omega)]; exact l4 b hb
    · rw [r6 _ (by omega), n3 95 (by unfold SWu SWt SMd isM; decide) (by decide)]
      exact r1 j (by omega) b hb
  · rintro _ st' n8 ⟨F1, e1, T1, r1⟩
    have M1 := M.fx F1 snx_p
    have hlt : s.1 ≤ 90 := by have := hle.1; omega
    show P_X12_next_26 58 a1 post (n8 + 1) (iN s.1) st'
    unfold P_X12_next_26
    refine ⟨rfl, fun _ => ?_, fun hz => absurd (by rw [T1.1]; exact Int32.le_refl _) hz⟩
    have K := h st' F1 e1
    refine ⟨q.2.1 + 1, loop_up (P := fun m i (a : Int32 × Int32) st => P_X12_next_127 58 a1 post m a.1 a.2 i st) (N := q.2.1) (fun i a st2 => st2 = st' ∧ a = nxS2 (uF q C s) i) ?_ ?_ q.2.1 0 (-1, 0) st' (by omega) ⟨rfl, by rw [nx_0]⟩⟩
    · rintro b hb a st2 m2 ⟨rfl, rfl⟩ ih
      show P_X12_next_127 58 a1 post (m2 + 1) _ _ (iN b) st2
      unfold P_X12_next_127
      refine ⟨62, rfl, v1_10, fun hz => ?_, fun _ => ⟨⟨_, rfl⟩, s_unlike (L := fun j => ldF q (gsC C (s.2 j)) b) (m := fun j => ldm q C b (s.2 j)) T1.1 hlt (by omega) (fun j hj => r1 j hj b hb) (fun j hj => ldm_ok M.ok hC hb (hle.2 j hj).1) ⟨fun hz => ?_, fun hz => ?_⟩⟩⟩
      · rw [M1.e1] at hz; exact absurd hz (nle (by omega) hb)
      · show P_X12_next_127 58 a1 post m2 _ _ (iN b + 1) st2
        rw [iN_s]
        exact ih (iN b, uF q C s b) _ ⟨rfl, by rw [nx_s, if_neg (show ¬ uF q C s b ≤ (nxS2 (uF q C s) b).2 from Int32.not_le.mpr hz)]⟩
      · show P_X12_next_127 58 a1 post m2 _ _ (iN b + 1) st2
        rw [iN_s]
        exact ih _ _ ⟨rfl, by rw [nx_s, if_pos (show uF q C s b ≤ (nxS2 (uF q C s) b).2 from Int32.not_lt.mp hz)]⟩
    · rintro a st2 m2 ⟨rfl, rfl⟩
      show P_X12_next_127 58 a1 post (m2 + 1) _ _ (iN q.2.1) st2
      unfold P_X12_next_127
      refine ⟨62, rfl, v1_10, fun _ => ⟨fun hz => ?_, fun hz => ?_⟩, fun hz => absurd (by rw [M1.e1]; exact Int32.le_refl _) hz⟩
      · rw [if_neg hz] at K; exact K
      · rw [if_pos hz] at K; exact K
theorem c_next {a : Int32} {st : St} (hI : Inv st) : P_L_next a st (fun k st1 => Bth (P_X12_next 58 a) k st1) := by
  obtain ⟨v, H, HM, HO⟩ := hI
  by_cases ha : isI 2 a
  · obtain ⟨x, hx, rfl⟩ := ha
    refine h_ok (PC := fun post pex => P_X11_next 0 (iN x) st post pex) (PM := P_X12_next 58 (iN x)) (v2 := v) (r := if iN x = 0 then (nxS2 (uF v.1 v.2.1.1 (ftF v.1 v.2.1.1 v.2.1.2.2.1.2 v.2.1.2.2.1.1 (10 * v.1.1))) v.1.2.1).1 else (nxS2 (uF v.1 v.2.1.1 (ftF v.1 v.2.1.1 v.2.1.2.2.1.2 v.2.1.2.2.1.1 (10 * v.1.1))) v.1.2.1).2) HM HO (fun post h => ?_) (fun s1 post I0 h => ?_)
    · refine ⟨tb_out, s_needW (l := 1) (by decide) hx ⟨36, rfl, fun hz => ⟨⟨_, rfl⟩, s_nxC H HO (fun st1 Q1 => ?_)⟩, fun hz => ⟨⟨_, rfl⟩, s_nxC H HO (fun st1 Q1 => ?_)⟩⟩⟩
      · have e0 : iN x = 0 := by
          have : x ≠ 1 := fun e => hz (by rw [e]; rfl)
          rw [show x = 0 by omega]; rfl
        have K := h st1 Q1.cfr (H.qfr Q1)
        rw [if_pos e0] at K
        rw [if_pos rfl]
        exact K
      · have K := h st1 Q1.cfr (H.qfr Q1)
        rw [if_neg (by rw [hz]; decide)] at K
        rw [if_neg (by decide)]
        exact K
    · have I1 := (m_beg I0).1
      have eC := I1.c
      refine ⟨rfl, fun hz => ?_, fun _ => ⟨fun _ => ⟨⟨_, rfl⟩, s_tellFits I1.1 eC HO.2.2.1.1.1 (I1.se HO) (fun s2 F2 e2 T2 => s_nxM (I1.1.fx F2 sft_p) e2 HO.2.2.1.1.1 T2 (fun s3 F3 e3 => ?_))⟩, fun hz => absurd ((iN_le (b := 1) (by omega) (by decide)).mpr (by omega)) hz⟩⟩
      · rw [lt0, iN_toInt (by omega)] at hz; omega
      · obtain ⟨g1, g2, g3⟩ := m_qf I0 ((F2.wk (fun _ _ z => z) (fun _ z => Or.inl z)).tr F3) snx_sw (e3.trans eC.symm)
        exact h s3 g1 g2 g3
  · refine h_thr (PC := fun post pex => P_X11_next 0 a st post pex) (PM := P_X12_next 58 a) (X := NSE) (k := 1) (by decide) H HM HO (fun pex h => ⟨tb_out, s_needW0 (l := 1) (by decide) ha h⟩) (fun s1 post I0 h => ?_) (fun h => ⟨rfl, h⟩)
    refine ⟨rfl, fun _ => ⟨⟨_, rfl⟩, m_fail I0 h⟩, fun h0 => ⟨fun h1 => absurd ?_ ha, fun _ => ⟨⟨_, rfl⟩, m_fail I0 h⟩⟩⟩
    rw [isI_iff (by omega)]
    rw [lt0] at h0
    have h1 := (le_iN (n := 1) (by decide)).mp h1
    omega
