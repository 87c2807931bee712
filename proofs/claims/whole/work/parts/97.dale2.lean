/-! PURE: dale: how both end -/
def qV (V : LV) (k w m : Nat → Int32) : PD := (V.1, V.2.1, k, (iN (lvW V).1, (lvW V).2.1, w), (iN (lvM V).1, (lvM V).2.1, m))
def QA (V : LV) (k w m : Nat → Int32) : Prop := (∀ x, x < V.1 → k x = V.2.2.2.1 x) ∧ (∀ j, j < (lvW V).2.1 → w j = (lvW V).2.2 j) ∧ ∀ j, j < (lvM V).2.1 → m j = (lvM V).2.2 j
theorem dep_cg {r1 r2 : Nat → Int32} : ∀ l, (∀ j, j < l → r1 j = r2 j) → dep r1 l = dep r2 l := by
  intro l
  induction l with
  | zero => intro _; rw [dep_0, dep_0]
  | succ l ih =>
    intro h
    rw [dep_s, dep_s, ih (fun j hj => h j (by omega)), h l (by omega)]
theorem told1 {kv : Nat} {R : Ru3} (h : RuOk kv R) (z : iN R.1 ≠ 0) : R.1 = 1 := by
  have := h.1
  have h01 : R.1 = 0 ∨ R.1 = 1 := by omega
  rcases h01 with e | e
  · exact absurd (by rw [e]; rfl) z
  · exact e
theorem ru_wf {kv : Nat} {R : Ru3} (h : RuOk kv R) {w : Nat → Int32} (hw : ∀ j, j < R.2.1 → w j = R.2.2 j) : RlOk (iN R.1, R.2.1, w) := by
  intro z
  have W := h.2.2.2 (told1 h z)
  refine ⟨h.2.2.1, ?_, fun i hi => ?_⟩
  · show 1 ≤ dep w R.2.1
    rw [dep_cg _ hw, W.1]
    exact Nat.le_refl _
  · have hi : i < R.2.1 := hi
    show okc (w i) (dep w i)
    rw [hw i hi, dep_cg i (fun j hj => hw j (by omega))]
    exact (W.2 i hi).1
theorem ru_okM {R : Ru3} (h : RuOk 5 R) {w : Nat → Int32} (hw : ∀ j, j < R.2.1 → w j = R.2.2 j) : okM (iN R.1, R.2.1, w) := by
  intro z i hi
  have W := h.2.2.2 (told1 h z)
  have hi : i < R.2.1 := hi
  show ¬ w i < -8 → w i < 0 → (-1 - w i).toNatClampNeg < 5
  rw [hw i hi]
  exact (W.2 i hi).2
theorem ru_MR {kv : Nat} {R : Ru3} (h : RuOk kv R) {w : Nat → Int32} (hw : ∀ j, j < R.2.1 → w j = R.2.2 j) {t : Int32} {row : Nat → Int32} (ht : t = iN R.2.1) (hr : ∀ k, k < R.2.1 → row k = trC (R.2.2 k)) : MR t row (iN R.1, R.2.1, w) := by
  have h1 := h.1
  refine ⟨fun z => ?_, fun z => ⟨ht, ?_, fun i hi => ?_⟩⟩
  · have z : iN R.1 = 0 := z
    have e : R.1 = 0 := (iN_eq (b := 0) (by omega) (by decide)).mp z
    rw [ht, h.2.1 e]; rfl
  · have W := h.2.2.2 (told1 h z)
    show 1 ≤ R.2.1
    by_cases e : R.2.1 = 0
    · have := W.1
      rw [e, dep_0] at this
      omega
    · omega
  · have hi : i < R.2.1 := hi
    show row i = trC (w i)
    rw [hr i hi, hw i hi]
def avS (v : AV) (q : PD) (c : Nat → Int32) : AV := (q, (c, (0, fun _ _ => 0), (0, fun _ _ => 0), v.2.1.2.2.2), none, (0, v.2.2.2.1.2), -1)
def avT (v : AV) (x : Int32) : AV := (v.1, v.2.1, v.2.2.1, (0, v.2.2.2.1.2), x)
theorem avT_ok {v : AV} (h : AvOk v) (x : Int32) : AvOk (avT v x) := ⟨h.1, h.2.1, h.2.2.1, h.2.2.2.1, Nat.zero_le _, fun j hj => absurd hj (Nat.not_lt_zero _)⟩
theorem avS_ok (v : AV) {V : LV} (hV : VOk V) {k w m : Nat → Int32} (hq : QA V k w m) : AvOk (avS v (qV V k w m) (nrm (lvC V))) := by
  obtain ⟨v1, v2, v3, v4, v5, v6, v7, v8, v9, v10⟩ := hV
  have c0 : nrm (lvC V) 0 = 0 := by rw [nrm_l (by decide)]; exact v4
  have cw : ∀ b, b < V.2.1 → (0 : Int32) ≤ nrm (lvC V) (38 + 3 * b) := fun b hb => by rw [nrm_l (by omega)]; exact ((v7 b (by omega)).1 hb).2.2
  refine ⟨⟨v1, v2, ru_wf v9 hq.2.1, ru_wf v10 hq.2.2⟩, ru_okM v10 hq.2.2, ⟨⟨⟨fun p hp b hb => ?_, fun p hp => ⟨0, by decide, ?_⟩, fun b hb => ?_⟩, fun j hj => nrm_y hj, ⟨0, by decide, c0⟩, cw, fun b hb _ => ?_⟩, Nat.zero_le _, fun k hk => absurd hk (Nat.not_lt_zero _), Nat.zero_le _, fun k hk => absurd hk (Nat.not_lt_zero _)⟩, (fun x e => by cases e), Nat.zero_le _, fun j hj => absurd hj (Nat.not_lt_zero _)⟩
  · have hp : p < V.1 := hp
    have hb : b < V.2.1 := hb
    show 0 ≤ nrm (lvC V) (56 + 6 * p + b)
    have := v8 (6 * p + b) (by omega)
    rw [nrm_l (by omega), Nat.add_assoc]
    exact this
  · have hp : p < V.1 := hp
    show nrm (lvC V) (2 + 4 * p + 3) = iN 0
    rw [nrm_l (by omega)]
    exact (v6 p (by omega)).1
  · have hb : b < V.2.1 := hb
    obtain ⟨y1, y2, y3⟩ := (v7 b (by omega)).1 hb
    show (nrm (lvC V) (38 + 3 * b + 1) = 0 ∨ nrm (lvC V) (38 + 3 * b + 1) = 1) ∧ (nrm (lvC V) (38 + 3 * b + 1) = 1 → nrm (lvC V) (38 + 3 * b + 2) = -1) ∧ (nrm (lvC V) (38 + 3 * b + 2) = -1 ∨ ∃ x, x < V.1 ∧ nrm (lvC V) (38 + 3 * b + 2) = iN x)
    rw [nrm_l (by omega), nrm_l (by omega)]
    exact ⟨Or.inr y1, fun _ => y2, Or.inl y2⟩
  · show nrm (lvC V) 0 ≤ nrm (lvC V) (38 + 3 * b)
    rw [c0]; exact cw b hb
theorem BkC.cg2 {a b : St} {o : Nat} {v : Bk} (h7 : ∀ k, gI b (7 + o) k = gI a (7 + o) k) (h9 : ∀ k, gI b (9 + o) k = gI a (9 + o) k) (hA : ∀ x, 4 + o ≤ x → x ≤ 15 + o → gA b x = gA a x) (B : BkC a o v) : BkC b o v := by
  obtain ⟨b1, b2, b3, b4, b5⟩ := B
  exact ⟨by rw [hA _ (by omega) (by omega)]; exact b1, b2.cg h7 (hA _ (by omega) (by omega)), by rw [h9]; exact b3, fun i hi k hk => by rw [hA _ (by omega) (by omega)]; exact b4 i hi k hk, fun k hk => by rw [hA _ (by omega) (by omega)]; exact b5 k hk⟩
/-- the class, when the text was refused -/
theorem invT {st s : St} {v : AV} {p p' : Nat} (h1 : DSt st 3 p v.1) (h2 : isPl p') (h3 : p' ≠ p) (h4 : gR st 0 3 = some p') (h6 : ∃ pp, isPl pp ∧ gR st 17 0 = some pp ∧ ∀ j, 110 ≤ j → gA st 18 j = 0) (h7 : BkC st 0 v.2.1) (h8 : v.2.2.1 = none → gI st 0 6 = 0) (h9 : ∀ w, v.2.2.1 = some w → gI st 0 6 = 1 ∧ gR st 17 0 = some p ∧ BkC st 14 w) (F : FC p' st s) (x : Int32) : InvC (sI s 0 2 x) (avT v x) := by
  obtain ⟨f1, f2, f3, f4, f5⟩ := F
  have gi : ∀ o k, ¬ CGi p' o → ¬ (o = 0 ∧ (k = 1 ∨ k = 2)) → gI (sI s 0 2 x) o k = gI st o k := fun o k q1 q2 => by rw [gI_sI_ne (fun z => q2 ⟨z.1, Or.inr z.2⟩)]; exact f1 o k q1 (fun z => q2 ⟨z.1, Or.inl z.2⟩)
  have gs : ∀ o k, o < 34 → ¬ (o = 0 ∧ (k = 1 ∨ k = 2)) → gI (sI s 0 2 x) o k = gI st o k := fun o k q1 q2 => gi o k (fun z => by have := CGi_r h2 z; omega) q2
  have ga : ∀ y, ¬ CGa p' y → gA (sI s 0 2 x) y = gA st y := f3
  have as : ∀ y, y < 31 → gA (sI s 0 2 x) y = gA st y := fun y q => ga y (fun z => by have := CGa_r h2 z; omega)
  have gr : ∀ o k, o < 30 → gR (sI s 0 2 x) o k = gR st o k := fun o k q => f2 o k (by omega) (by omega) (by omega)
  have D : DSt (sI s 0 2 x) 3 p v.1 := by
    obtain ⟨d1, d2, d3, d4, d5, d6, d7, d8, d9⟩ := h1
    obtain ⟨⟨n1, n2, n3⟩, n4, n5, n6⟩ := pl_dis d2 h2 h3
    have nz : p ≠ 0 ∧ ch p 3 ≠ 0 ∧ ch p 4 ≠ 0 := by rcases d2 with rfl | rfl <;> decide
    have e0 : ∀ k, gI (sI s 0 2 x) p k = gI st p k := fun k => gi _ _ n1 (fun z => nz.1 z.1)
    have e3 : ∀ k, gI (sI s 0 2 x) (ch p 3) k = gI st (ch p 3) k := fun k => gi _ _ n2 (fun z => nz.2.1 z.1)
    have e4 : ∀ k, gI (sI s 0 2 x) (ch p 4) k = gI st (ch p 4) k := fun k => gi _ _ n3 (fun z => nz.2.2 z.1)
    have e : pdOf (sI s 0 2 x) p = pdOf st p := by
      unfold pdOf rlOf
      rw [e0, e0, e3, e3, e4, e4, ga _ n4, ga _ n5, ga _ n6]
    exact ⟨d1, d2, by rw [gr _ _ (by decide)]; exact d3, e.trans d4, by rw [e0]; exact d5, by rw [e0]; exact d6, by rw [e3]; exact d7, by rw [e4]; exact d8, d9⟩
  obtain ⟨pp, y1, y2, y3⟩ := h6
  refine ⟨p, p', D, h2, h3, by rw [gr _ _ (by decide)]; exact h4, ⟨p', h2, f5⟩, ⟨pp, y1, by rw [gr _ _ (by decide)]; exact y2, fun j hj => by rw [as _ (by decide)]; exact y3 j hj⟩, h7.cg2 (fun k => gs _ _ (by decide) (by omega)) (fun k => gs _ _ (by decide) (by omega)) (fun y q1 q2 => as y (by omega)), fun e => by rw [gs _ _ (by decide) (by decide)]; exact h8 e, fun w e => ?_, ?_, fun j hj => absurd hj (Nat.not_lt_zero _), gI_sI _ _ _ _⟩
  · obtain ⟨z1, z2, z3⟩ := h9 w e
    exact ⟨by rw [gs _ _ (by decide) (by decide)]; exact z1, by rw [gr _ _ (by decide)]; exact z2, z3.cg2 (fun k => gs _ _ (by decide) (by omega)) (fun k => gs _ _ (by decide) (by omega)) (fun y q1 q2 => as y (by omega))⟩
  · rw [gI_sI_ne (by decide)]; exact f4
theorem FC.cfr {p : Nat} (hp : isPl p) {a b : St} (h : FC p a b) : CFr a b := ⟨fun o k q => h.1 o k (fun z => by have := CGi_r hp z; omega) (by omega), fun o k q => h.2.1 o k (by omega) (by omega) (by omega), fun x q => h.2.2.1 x (fun z => by have := CGa_r hp z; omega)⟩
/-- the class, when it was taken -/
theorem invS {st s : St} {v : AV} {p p' : Nat} (hp : isPl p) (h2 : isPl p') (h3 : p' ≠ p) (hz : ∀ j, 110 ≤ j → gA st 4 j = 0) (h6 : ∃ pp, isPl pp ∧ gR st 17 0 = some pp ∧ ∀ j, 110 ≤ j → gA st 18 j = 0) (h7 : BkC st 0 v.2.1) (F : FC p' st s) {V : LV} (hV : VOk V) (H : CV p' s V) {S : St}
    (sI0 : ∀ o k, o ≠ 0 → o ≠ 7 → o ≠ 9 → gI S o k = gI s o k) (s01 : gI S 0 1 = gI s 0 1) (s02 : gI S 0 2 = -1) (s06 : gI S 0 6 = 0) (s71 : gI S 7 1 = 0) (s72 : gI S 7 2 = 0) (s95 : gI S 9 5 = 0) (sR0 : gR S 0 3 = some p) (sR3 : gR S 3 0 = some p') (sR : ∀ o k, o ≠ 0 → o ≠ 3 → gR S o k = gR s o k) (sA4 : gA S 4 = va_cpy (gA s 31) (gA s 4) 0 0 110) (sAx : ∀ x, x ≠ 4 → gA S x = gA s x) :
    InvC S (avS v (qV V (gA s (ch p' 2)) (gA s (ch (ch p' 3) 1)) (gA s (ch (ch p' 4) 1))) (nrm (lvC V))) := by
  obtain ⟨f1, f2, f3, f4, f5⟩ := F
  have gs : ∀ o k, o < 34 → ¬ (o = 0 ∧ k = 1) → gI s o k = gI st o k := fun o k q1 q2 => f1 o k (fun z => by have := CGi_r h2 z; omega) q2
  have as : ∀ y, y < 31 → gA s y = gA st y := fun y q => f3 y (fun z => by have := CGa_r h2 z; omega)
  have hQ : QA V (gA s (ch p' 2)) (gA s (ch (ch p' 3) 1)) (gA s (ch (ch p' 4) 1)) := ⟨H.2.2.2.2.1, H.2.2.2.2.2.2.1.2.2, H.2.2.2.2.2.2.2.2.2⟩
  have OK := avS_ok v hV hQ
  obtain ⟨g1, g2, g3, g4, g5, g6, g7, g8⟩ := H
  obtain ⟨v1, v2, v3, v4, v5, v6, v7, v8, v9, v10⟩ := hV
  have l9 := v9.2.2.1
  have l10 := v10.2.2.1
  have nz : (p' ≠ 0 ∧ p' ≠ 7 ∧ p' ≠ 9) ∧ (ch p' 3 ≠ 0 ∧ ch p' 3 ≠ 7 ∧ ch p' 3 ≠ 9) ∧ (ch p' 4 ≠ 0 ∧ ch p' 4 ≠ 7 ∧ ch p' 4 ≠ 9) ∧ ch p' 2 ≠ 4 ∧ ch (ch p' 3) 1 ≠ 4 ∧ ch (ch p' 4) 1 ≠ 4 := by rcases h2 with rfl | rfl <;> decide
  obtain ⟨⟨x1, x2, x3⟩, ⟨x4, x5, x6⟩, ⟨x7, x8, x9⟩, x10, x11, x12⟩ := nz
  have e0 : gI S p' 0 = iN V.1 := (sI0 _ _ x1 x2 x3).trans g2
  have e1 : gI S p' 1 = iN V.2.1 := (sI0 _ _ x1 x2 x3).trans g3
  have e2 : gI S (ch p' 3) 0 = iN (lvW V).1 := (sI0 _ _ x4 x5 x6).trans g7.1
  have e3 : gI S (ch p' 3) 2 = iN (lvW V).2.1 := (sI0 _ _ x4 x5 x6).trans g7.2.1
  have e4 : gI S (ch p' 4) 0 = iN (lvM V).1 := (sI0 _ _ x7 x8 x9).trans g8.1
  have e5 : gI S (ch p' 4) 2 = iN (lvM V).2.1 := (sI0 _ _ x7 x8 x9).trans g8.2.1
  have nn : ∀ m, m ≤ 700 → ¬ iN m < 0 := fun m hm => by rw [lt0, iN_toInt (by omega)]; omega
  have c4 : gA S 4 = nrm (lvC V) := by
    rw [sA4]
    funext j
    by_cases q : j < 110
    · rw [nrm_l q, cpy_in (by omega) (by omega), g6]
      congr 1; omega
    · rw [nrm_y (by omega), cpy_out (by omega), as 4 (by decide)]
      exact hz j (by omega)
  have D : DSt S 3 p' (qV V (gA s (ch p' 2)) (gA s (ch (ch p' 3) 1)) (gA s (ch (ch p' 4) 1))) := by
    refine ⟨Or.inl rfl, h2, sR3, ?_, by rw [e0]; exact nn _ (by omega), by rw [e1]; exact nn _ (by omega), by rw [e3]; exact nn _ l9, by rw [e5]; exact nn _ l10, OK.1⟩
    unfold pdOf rlOf qV
    rw [e0, e1, e2, e3, e4, e5, iN_cl (by omega), iN_cl (by omega), iN_cl (by omega), iN_cl (by omega), sAx _ x10, sAx _ x11, sAx _ x12]
  obtain ⟨pp, y1, y2, y3⟩ := h6
  refine ⟨p', p, D, hp, Ne.symm h3, sR0, ⟨p', h2, (sR _ _ (by decide) (by decide)).trans f5⟩, ⟨pp, y1, (sR _ _ (by decide) (by decide)).trans ((f2 _ _ (by decide) (by decide) (by decide)).trans y2), fun j hj => by rw [sAx _ (by decide), as _ (by decide)]; exact y3 j hj⟩, ⟨c4, ⟨0, by decide, s71, s72, fun k hk => absurd hk (Nat.not_lt_zero _)⟩, s95, fun k hk => absurd hk (Nat.not_lt_zero _), fun k hk => ?_⟩, fun _ => s06, (fun w e => by cases e), s01.trans f4, fun j hj => absurd hj (Nat.not_lt_zero _), s02⟩
  show gA S 15 k = v.2.1.2.2.2 k
  rw [sAx _ (by decide), as _ (by decide)]
  exact h7.2.2.2.2 k hk
/-- the reference, when it was taken -/
theorem imS {st s s2 : St} {v : AV} (I0 : InvM st v) (F : FD st s) (e16 : gI s 58 16 = 0) (e25 : gI s 58 25 = -1) {V : LV} (hV : VOk V) {k w m : Nat → Int32} (hQ : QA V k w m) (G : Fx ITo STo s s2) (O : TkO s2 V) : InvM s2 (avS v (qV V k w m) (nrm (lvC V))) := by
  have OK := avS_ok v hV hQ
  obtain ⟨o1, o2, o3, o4, o5, o6, o7, o8, o9, o10, o11⟩ := O
  obtain ⟨v1, v2, v3, v4, v5, v6, v7, v8, v9, v10⟩ := hV
  have ga : ∀ x, ¬ STo x → ¬ (62 ≤ x ∧ x ≤ 70) → gA s2 x = gA st x := fun x q1 q2 => (G.eA q1).trans (F.2.2.1 x q2)
  refine ⟨⟨o4, o5, fun x hx => (o8 x hx).trans (hQ.1 x hx).symm, ru_MR v9 hQ.2.1 o6 o9, ru_MR v10 hQ.2.2 o7 o10, OK.1, OK.2.1⟩, ⟨o11, o1, fun k hk => absurd hk (Nat.not_lt_zero _), o2, fun k hk => absurd hk (Nat.not_lt_zero _), fun k hk => ?_⟩, fun _ => o3, (fun w e => by cases e), (G.eI (by unfold ITo; decide)).trans e16, fun j hj => absurd hj (Nat.not_lt_zero _), (G.eI (by unfold ITo; decide)).trans e25, I0.2.2.2.2.2.2.2.cg (ga 93 (by unfold STo; decide) (by decide)) (ga 105 (by unfold STo; decide) (by decide))⟩
  rw [ga 71 (by unfold STo; decide) (by decide)]
  exact I0.2.1.2.2.2.2.2 k hk
theorem MPl.half {a b : St} {q : PD} (h : ∀ x j, 62 ≤ x → x ≤ 70 → j < hf x → gA b x j = gA a x j) (H : MPl a q) : MPl b q := by
  obtain ⟨m1, m2, m3, m4, m5, m6, m7⟩ := H
  have h9 := m6.1
  have rr : ∀ {x j : Nat} {r : Rl}, 69 ≤ x → x ≤ 70 → j < 5 → RlOk r → MR (gA a 62 j) (gA a x) r → MR (gA b 62 j) (gA b x) r := by
    intro x j r q1 q2 q3 ok ⟨z1, z2⟩
    have hx : hf x = 700 := by
      have : x = 69 ∨ x = 70 := by omega
      rcases this with rfl | rfl <;> rfl
    rw [← h 62 j (by decide) (by decide) q3] at z1 z2
    refine ⟨z1, fun y => ?_⟩
    obtain ⟨w1, w2, w3⟩ := z2 y
    have := (ok y).1
    exact ⟨w1, w2, fun i hi => by rw [h x i (by omega) q2 (by omega)]; exact w3 i hi⟩
  exact ⟨(h 62 0 (by decide) (by decide) (by decide)).trans m1, (h 62 1 (by decide) (by decide) (by decide)).trans m2, fun p hp => (h 63 p (by decide) (by decide) (show p < 9 by omega)).trans (m3 p hp), rr (by decide) (by decide) (by decide) m6.2.2.1 m4, rr (by decide) (by decide) (by decide) m6.2.2.2 m5, m6, m7⟩
/-- the reference, when it was refused -/
theorem imT {st s : St} {v : AV} (I0 : InvM st v) (F : FD st s) (e16 : gI s 58 16 = 0) : InvM (sI s 58 25 (gI s 58 24)) (avT v (gI s 58 24)) := by
  obtain ⟨h1, ⟨b1, b2, b3, b4, b5, b6⟩, h3, h4, h5, h6, h7, hB⟩ := I0
  obtain ⟨f1, f2, f3, f4, f5⟩ := F
  have gi : ∀ k, k ≠ 4 → ¬ (16 ≤ k ∧ k ≤ 26) → gI (sI s 58 25 (gI s 58 24)) 58 k = gI st 58 k := fun k q1 q2 => by rw [gI_sI_ne (by omega)]; exact f1 58 k (fun z => by have := z.2; omega)
  have ga : ∀ x, ¬ (62 ≤ x ∧ x ≤ 70) → gA (sI s 58 25 (gI s 58 24)) x = gA st x := f3
  have mc : ∀ nb, mC nb (sI s 58 25 (gI s 58 24)) = mC nb st := fun nb => by
    unfold mC
    rw [gi 36 (by decide) (by decide), gi 37 (by decide) (by decide), ga 73 (by decide), ga 74 (by decide), ga 75 (by decide), ga 76 (by decide), ga 77 (by decide), ga 78 (by decide), ga 79 (by decide), ga 80 (by decide)]
  have mN : ∀ k, k < 5 → ¬ (62 ≤ mseN k ∧ mseN k ≤ 70) := by decide
  have mT : ∀ k, k < 5 → ¬ (62 ≤ mseT k ∧ mseT k ≤ 70) := by decide
  refine ⟨h1.half f4, ⟨(mc _).trans b1, by rw [gi 38 (by decide) (by decide)]; exact b2, fun k hk => by rw [ga 81 (by decide)]; exact b3 k hk, by rw [gi 39 (by decide) (by decide)]; exact b4, fun i hi k hk => by rw [ga _ (mN k hk)]; exact b5 i hi k hk, fun k hk => by rw [ga 71 (by decide)]; exact b6 k hk⟩, fun e => by rw [gi 58 (by decide) (by decide)]; exact h3 e, fun w e => ?_, by rw [gI_sI_ne (by decide)]; exact e16, fun j hj => absurd hj (Nat.not_lt_zero _), gI_sI _ _ _ _, hB.cg (ga 93 (by decide)) (ga 105 (by decide))⟩
  obtain ⟨q1, t1, t2, t3, t4, t5, t6⟩ := h4 w e
  exact ⟨by rw [gi 58 (by decide) (by decide)]; exact q1, by rw [ga 98 (by decide)]; exact t1, by rw [gi 59 (by decide) (by decide)]; exact t2, fun k hk => by rw [ga 99 (by decide)]; exact t3 k hk, by rw [gi 60 (by decide) (by decide)]; exact t4, fun i hi k hk => by rw [ga _ (mT k hk)]; exact t5 i hi k hk, fun k hk => by rw [ga 104 (by decide)]; exact t6 k hk⟩
theorem sL_g {s1 s2 : St} {r : Int32} (h : ∀ x, gL s2 x = gL (sL s1 106 0 r.toInt64) x) : gL s2 106 0 = r.toInt64 := by
  rw [h]
  show (if (106 : Nat) = 106 then vp_updL (gL s1 106) 0 r.toInt64 else s1.2.2.2 106) 0 = _
  rw [if_pos rfl]
  simp [vp_updL]
