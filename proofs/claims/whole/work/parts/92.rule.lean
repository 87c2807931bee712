/-! PURE: lines: the two rules -/
section L5
variable {T : Nat → Int32} {n : Nat} {τ : Nat → Tok} {p : Nat}
theorem Wf_0 (kv : Nat) (row : Nat → Int32) : Wf kv row 0 0 := ⟨dep_0 row, fun j hj => absurd hj (Nat.not_lt_zero _)⟩
theorem CG.sr {p : Nat} {a : St} (k : Nat) (v : Option Nat) : CG p a (sR a 34 k v) := ⟨fun _ _ _ => rfl, fun o k2 q _ => gR_sR_ne (fun z => q z.1), fun _ _ => rfl⟩
def ruV0 (V : LV) (len : Nat) (row : Nat → Int32) : LV := (V.1, V.2.1, V.2.2.1, V.2.2.2.1, lvC V, (1, len, row), lvM V)
theorem CG.w0 {a b : St} (h : CWf (ch p 3) a b) : CG p a b := ⟨fun o k q => h.1 o k (fun z => q (by rcases z with z | z | z; exact Or.inl z.1; exact Or.inr (Or.inl z.1); exact Or.inr (Or.inr (Or.inr (Or.inl z.1))))), fun o k _ q => h.2.1 o k (fun z => q z.1), fun x q => h.2.2 x (fun e => q (Or.inr (Or.inr (Or.inl e))))⟩
theorem CV.w0 (hp : isPl p) {a b : St} {V : LV} {kv i len : Nat} {row : Nat → Int32} (h : CWf (ch p 3) a b) (H : CV p a V) (h1 : (lvW V).1 = 1) (X : CX T n τ (ch p 3) kv b i len row) : CV p b (ruV0 V len row) := by
  obtain ⟨g1, g2, g3, g4, g5, g6, g7, g8⟩ := H
  obtain ⟨⟨n1, n2⟩, ⟨n3, n4⟩, ⟨n5, n6⟩, _, ⟨u1, u2, _⟩, ⟨v1, v2, _⟩, m1, m2, m3, m4⟩ := pl_ne hp
  have gi : ∀ o k, o ≠ 34 → o ≠ 35 → o ≠ ch p 3 → gI b o k = gI a o k := fun o k q1 q2 q3 => h.1 o k (fun z => by rcases z with z | z | z; exact q1 z.1; exact q2 z.1; exact q3 z.1)
  refine ⟨by rw [h.2.1 _ _ (by decide)]; exact g1, by rw [gi _ _ n1 n2 (Ne.symm m1)]; exact g2, by rw [gi _ _ n1 n2 (Ne.symm m1)]; exact g3, ?_, fun x hx => by rw [h.2.2 _ (Ne.symm u2)]; exact g5 x hx, by rw [h.2.2 _ (Ne.symm u1)]; exact g6, ?_, ?_⟩
  · rw [h.1 _ _ (fun z => by rcases z with z | z | z; exact absurd z.2 (by decide); exact absurd z.1 (by decide); exact n3 z.1.symm)]; exact g4
  · exact ⟨(h.1 _ _ (fun z => by rcases z with z | z | z; exact n3 z.1; exact n4 z.1; exact absurd z.2 (by decide))).trans (g7.1.trans (by rw [h1]; rfl)), X.2.2.2.2.1, X.2.2.2.2.2⟩
  · exact g8.cg (fun k => gi _ _ n5 n6 (Ne.symm m3)) (h.2.2 _ (Ne.symm m4))
theorem ruC0 (TK : Tks T n τ) (hp : isPl p) {V : LV} (h0 : (lvW V).1 = 0) (hl : (lvW V).2.1 = 0) {i i1 : Nat} (e1 : tE (τ i) = i1) (hi : i ≤ n) {st : St} (X : CT T n τ st i) (H : CV p st V) {post : Int32 → St → Prop}
    (K : ∀ s, CG p st s → CX T n τ (ch p 3) 8 s i1 0 (lvW V).2.2 → CV p s (ruV0 V 0 (lvW V).2.2) → PE_X4_readEither 8 34 (iN 0) s (fun z_5 st_6 => ((z_5 = 0 → P_X4_readRule_59 34 (ch p 3) (iN 8) post st_6) ∧ (¬ z_5 = 0 → oC 34 4 ∧ P_X4_takeSign 34 59 st_6 (fun z_7 st_8 => ((z_7 = 0 → P_X4_readRule_59 34 (ch p 3) (iN 8) post st_8) ∧ (¬ z_7 = 0 → P_X4_readRule_60 34 (ch p 3) (iN 8) post 1 st_8))))))) : P_X4_readRule 34 (ch p 3) (iN 8) st post := by
  obtain ⟨⟨n1, n2⟩, ⟨n3, n4⟩, ⟨n5, n6⟩, _, _, _, m1, m2, m3, m4⟩ := pl_ne hp
  have hr := pl_rw hp
  have N := (TK.2 i hi).1
  obtain ⟨g1, g2, g3, g4, g5, g6, g7, g8⟩ := H
  unfold P_X4_readRule
  refine ⟨ru_0 hr, fun _ => ⟨rfl, ch p 3, gR_sR _ _ _ _, ru_0 hr, rfl, 35, rfl, ⟨_, rfl⟩, ?_⟩, fun z => absurd (by rw [g7.1, h0]; rfl) z⟩
  have X0 : CT T n τ (sI (sI (sR st 34 2 (some (ch p 3))) (ch p 3) 0 1) 34 3 (iN 8)) i := CT.si (by decide) (Or.inr (by decide)) _ (CT.si (st := sR st 34 2 (some (ch p 3))) n4 (Or.inl n3) _ ⟨⟨⟨X.1.1.1, X.1.1.2⟩, X.1.2⟩, X.2.1, X.2.2.1, X.2.2.2.1, X.2.2.2.2.1, X.2.2.2.2.2.1, (gR_sR_ne (by decide)).trans X.2.2.2.2.2.2.1, X.2.2.2.2.2.2.2⟩)
  have G0 : CG p st (sI (sI (sR st 34 2 (some (ch p 3))) (ch p 3) 0 1) 34 3 (iN 8)) := ((CG.sr _ _).tr (CG.si (Or.inr (Or.inr (Or.inr (Or.inl rfl)))) _ _)).tr (CG.si (Or.inl rfl) _ _)
  have V0 : CV p (sI (sI (sR st 34 2 (some (ch p 3))) (ch p 3) 0 1) 34 3 (iN 8)) (ruV0 V 0 (lvW V).2.2) := by
    have gi : ∀ o k, o ≠ 34 → o ≠ ch p 3 → gI (sI (sI (sR st 34 2 (some (ch p 3))) (ch p 3) 0 1) 34 3 (iN 8)) o k = gI st o k := fun o k q1 q2 => by rw [gI_sI_ne (fun z => q1 z.1), gI_sI_ne (fun z => q2 z.1)]; rfl
    have ga : ∀ k, k ≠ 0 → gI (sI (sI (sR st 34 2 (some (ch p 3))) (ch p 3) 0 1) 34 3 (iN 8)) (ch p 3) k = gI st (ch p 3) k := fun k hk => by rw [gI_sI_ne (fun z => n3 z.1), gI_sI_ne (fun z => hk z.2)]; rfl
    have gt : gI (sI (sI (sR st 34 2 (some (ch p 3))) (ch p 3) 0 1) 34 3 (iN 8)) (ch p 3) 0 = 1 := by rw [gI_sI_ne (fun z => n3 z.1), gI_sI]
    refine ⟨(gR_sR_ne (by decide)).trans g1, (gi _ _ n1 (Ne.symm m1)).trans g2, (gi _ _ n1 (Ne.symm m1)).trans g3, ?_, g5, g6, ?_, ?_⟩
    · rw [gI_sI_ne (by decide), gI_sI_ne (fun z => n3 z.1.symm)]; exact g4
    · exact ⟨gt, (ga 2 (by decide)).trans (g7.2.1.trans (by rw [hl]; rfl)), fun k hk => absurd hk (Nat.not_lt_zero _)⟩
    · exact RuC.cg (a := st) (fun k => gi _ _ n5 (Ne.symm m3)) rfl g8
  have C0 : gI (sI (sI (sR st 34 2 (some (ch p 3))) (ch p 3) 0 1) 34 3 (iN 8)) 34 3 = iN 8 := gI_sI _ _ _ _
  have R0 : gR (sI (sI (sR st 34 2 (some (ch p 3))) (ch p 3) 0 1) 34 3 (iN 8)) 34 2 = some (ch p 3) := gR_sR _ _ _ _
  show P_X8_advance 35 (sI (sI (sR st 34 2 (some (ch p 3))) (ch p 3) 0 1) 34 3 (iN 8)) _
  generalize sI (sI (sR st 34 2 (some (ch p 3))) (ch p 3) 0 1) 34 3 (iN 8) = s0 at *
  refine l_advF TK hi X0 (fun s1 F1 X1 => ⟨⟨_, rfl⟩, K s1 (G0.tr (CG.wl (CWl.fr F1))) ?_ (V0.wl hp (CWl.fr F1))⟩)
  rw [e1] at X1
  exact ⟨X1.1, X1.2, by rw [F1.2.1 _ _ (by decide)]; exact R0, by rw [F1.1 _ _ (by decide)]; exact C0, (V0.wl hp (CWl.fr F1)).2.2.2.2.2.2.1.2.1, fun k hk => absurd hk (Nat.not_lt_zero _)⟩
theorem MG.w0 {a b : St} (h : MWf 0 a b) : MG a b := by
  obtain ⟨h1, h2, h3, h4, h5, h6⟩ := h
  refine ⟨fun o k q => h1 o k (fun z => q ⟨z.1, Or.inl z.2⟩), fun o k _ => h2 o k, fun x q => h3 x (fun e => q (by omega)) (fun e => q (by omega)), fun x j q1 q2 q3 => ?_, h6⟩
  by_cases e : x = 62
  · subst e
    have q3 : j < 5 := q3
    exact h4 j (by omega)
  · by_cases e2 : x = 69 + 0
    · subst e2; exact h5 j q3
    · rw [h3 x e e2]
theorem MV.w0 {a b : St} {V : LV} {i len : Nat} {row : Nat → Int32} (h : MWf 0 a b) (H : MV a V) (X : MX T n τ 0 b i len row) : MV b (ruV0 V len row) := by
  obtain ⟨h1, h2, h3, h4, h5, h6⟩ := h
  obtain ⟨b1, b2, b3, b4, b5, b6, b7, b8, b9, b10⟩ := H
  have o : ∀ x, x ≠ 62 → x ≠ 69 + 0 → gA b x = gA a x := fun x => h3 x
  refine ⟨by rw [h4 5 (by decide)]; exact b1, by rw [h4 6 (by decide)]; exact b2, by rw [h4 7 (by decide)]; exact b3, ?_, ?_, ?_, ?_, ?_, ?_, ?_⟩
  · exact X.2.2.2.2.2.1
  · rw [h4 9 (by decide)]; exact b5
  · intro x hx
    rw [o 63 (by decide) (by decide), o 64 (by decide) (by decide), o 65 (by decide) (by decide), o 66 (by decide) (by decide)]; exact b6 x hx
  · intro x hx
    rw [o 67 (by decide) (by decide)]; exact b7 x hx
  · intro x hx
    rw [o 68 (by decide) (by decide)]; exact b8 x hx
  · exact X.2.2.2.2.2.2
  · intro x hx
    rw [o 70 (by decide) (by decide)]; exact b10 x hx
def done (V : LV) : Int32 := iN ((lvW V).1 + 2 * (lvM V).1)
def ruV1 (V : LV) (len : Nat) (row : Nat → Int32) : LV := (V.1, V.2.1, V.2.2.1, V.2.2.2.1, lvC V, lvW V, (1, len, row))
theorem CG.w1 {a b : St} (h : CWf (ch p 4) a b) : CG p a b := ⟨fun o k q => h.1 o k (fun z => q (by rcases z with z | z | z; exact Or.inl z.1; exact Or.inr (Or.inl z.1); exact Or.inr (Or.inr (Or.inr (Or.inr z.1))))), fun o k _ q => h.2.1 o k (fun z => q z.1), fun x q => h.2.2 x (fun e => q (Or.inr (Or.inr (Or.inr e))))⟩
theorem CV.w1 (hp : isPl p) {a b : St} {V : LV} {kv i len : Nat} {row : Nat → Int32} (h : CWf (ch p 4) a b) (H : CV p a V) (h1 : (lvM V).1 = 1) (X : CX T n τ (ch p 4) kv b i len row) : CV p b (ruV1 V len row) := by
  obtain ⟨g1, g2, g3, g4, g5, g6, g7, g8⟩ := H
  obtain ⟨⟨n1, n2⟩, ⟨n3, n4⟩, ⟨n5, n6⟩, _, ⟨u1, u2, _⟩, ⟨v1, v2, _⟩, m1, m2, m3, m4⟩ := pl_ne hp
  have gi : ∀ o k, o ≠ 34 → o ≠ 35 → o ≠ ch p 4 → gI b o k = gI a o k := fun o k q1 q2 q3 => h.1 o k (fun z => by rcases z with z | z | z; exact q1 z.1; exact q2 z.1; exact q3 z.1)
  refine ⟨by rw [h.2.1 _ _ (by decide)]; exact g1, by rw [gi _ _ n1 n2 (Ne.symm m2)]; exact g2, by rw [gi _ _ n1 n2 (Ne.symm m2)]; exact g3, ?_, fun x hx => by rw [h.2.2 _ (Ne.symm v2)]; exact g5 x hx, by rw [h.2.2 _ (Ne.symm v1)]; exact g6, ?_, ?_⟩
  · rw [h.1 _ _ (fun z => by rcases z with z | z | z; exact absurd z.2 (by decide); exact absurd z.1 (by decide); exact n5 z.1.symm)]; exact g4
  · exact g7.cg (fun k => gi _ _ n3 n4 m3) (h.2.2 _ m4)
  · exact ⟨(h.1 _ _ (fun z => by rcases z with z | z | z; exact n5 z.1; exact n6 z.1; exact absurd z.2 (by decide))).trans (g8.1.trans (by rw [h1]; rfl)), X.2.2.2.2.1, X.2.2.2.2.2⟩
theorem ruC1 (TK : Tks T n τ) (hp : isPl p) {V : LV} (h0 : (lvM V).1 = 0) (hl : (lvM V).2.1 = 0) {i i1 : Nat} (e1 : tE (τ i) = i1) (hi : i ≤ n) {st : St} (X : CT T n τ st i) (H : CV p st V) {post : Int32 → St → Prop}
    (K : ∀ s, CG p st s → CX T n τ (ch p 4) 5 s i1 0 (lvM V).2.2 → CV p s (ruV1 V 0 (lvM V).2.2) → PE_X4_readEither 8 34 (iN 0) s (fun z_5 st_6 => ((z_5 = 0 → P_X4_readRule_59 34 (ch p 4) (iN 5) post st_6) ∧ (¬ z_5 = 0 → oC 34 4 ∧ P_X4_takeSign 34 59 st_6 (fun z_7 st_8 => ((z_7 = 0 → P_X4_readRule_59 34 (ch p 4) (iN 5) post st_8) ∧ (¬ z_7 = 0 → P_X4_readRule_60 34 (ch p 4) (iN 5) post 1 st_8))))))) : P_X4_readRule 34 (ch p 4) (iN 5) st post := by
  obtain ⟨⟨n1, n2⟩, ⟨n3, n4⟩, ⟨n5, n6⟩, _, _, _, m1, m2, m3, m4⟩ := pl_ne hp
  have hr := pl_rm hp
  have N := (TK.2 i hi).1
  obtain ⟨g1, g2, g3, g4, g5, g6, g7, g8⟩ := H
  unfold P_X4_readRule
  refine ⟨ru_0 hr, fun _ => ⟨rfl, ch p 4, gR_sR _ _ _ _, ru_0 hr, rfl, 35, rfl, ⟨_, rfl⟩, ?_⟩, fun z => absurd (by rw [g8.1, h0]; rfl) z⟩
  have X0 : CT T n τ (sI (sI (sR st 34 2 (some (ch p 4))) (ch p 4) 0 1) 34 3 (iN 5)) i := CT.si (by decide) (Or.inr (by decide)) _ (CT.si (st := sR st 34 2 (some (ch p 4))) n6 (Or.inl n5) _ ⟨⟨⟨X.1.1.1, X.1.1.2⟩, X.1.2⟩, X.2.1, X.2.2.1, X.2.2.2.1, X.2.2.2.2.1, X.2.2.2.2.2.1, (gR_sR_ne (by decide)).trans X.2.2.2.2.2.2.1, X.2.2.2.2.2.2.2⟩)
  have G0 : CG p st (sI (sI (sR st 34 2 (some (ch p 4))) (ch p 4) 0 1) 34 3 (iN 5)) := ((CG.sr _ _).tr (CG.si (Or.inr (Or.inr (Or.inr (Or.inr rfl)))) _ _)).tr (CG.si (Or.inl rfl) _ _)
  have V0 : CV p (sI (sI (sR st 34 2 (some (ch p 4))) (ch p 4) 0 1) 34 3 (iN 5)) (ruV1 V 0 (lvM V).2.2) := by
    have gi : ∀ o k, o ≠ 34 → o ≠ ch p 4 → gI (sI (sI (sR st 34 2 (some (ch p 4))) (ch p 4) 0 1) 34 3 (iN 5)) o k = gI st o k := fun o k q1 q2 => by rw [gI_sI_ne (fun z => q1 z.1), gI_sI_ne (fun z => q2 z.1)]; rfl
    have ga : ∀ k, k ≠ 0 → gI (sI (sI (sR st 34 2 (some (ch p 4))) (ch p 4) 0 1) 34 3 (iN 5)) (ch p 4) k = gI st (ch p 4) k := fun k hk => by rw [gI_sI_ne (fun z => n5 z.1), gI_sI_ne (fun z => hk z.2)]; rfl
    have gt : gI (sI (sI (sR st 34 2 (some (ch p 4))) (ch p 4) 0 1) 34 3 (iN 5)) (ch p 4) 0 = 1 := by rw [gI_sI_ne (fun z => n5 z.1), gI_sI]
    refine ⟨(gR_sR_ne (by decide)).trans g1, (gi _ _ n1 (Ne.symm m2)).trans g2, (gi _ _ n1 (Ne.symm m2)).trans g3, ?_, g5, g6, ?_, ?_⟩
    · rw [gI_sI_ne (by decide), gI_sI_ne (fun z => n5 z.1.symm)]; exact g4
    · exact RuC.cg (a := st) (fun k => gi _ _ n3 m3) rfl g7
    · exact ⟨gt, (ga 2 (by decide)).trans (g8.2.1.trans (by rw [hl]; rfl)), fun k hk => absurd hk (Nat.not_lt_zero _)⟩
  have C0 : gI (sI (sI (sR st 34 2 (some (ch p 4))) (ch p 4) 0 1) 34 3 (iN 5)) 34 3 = iN 5 := gI_sI _ _ _ _
  have R0 : gR (sI (sI (sR st 34 2 (some (ch p 4))) (ch p 4) 0 1) 34 3 (iN 5)) 34 2 = some (ch p 4) := gR_sR _ _ _ _
  show P_X8_advance 35 (sI (sI (sR st 34 2 (some (ch p 4))) (ch p 4) 0 1) 34 3 (iN 5)) _
  generalize sI (sI (sR st 34 2 (some (ch p 4))) (ch p 4) 0 1) 34 3 (iN 5) = s0 at *
  refine l_advF TK hi X0 (fun s1 F1 X1 => ⟨⟨_, rfl⟩, K s1 (G0.tr (CG.wl (CWl.fr F1))) ?_ (V0.wl hp (CWl.fr F1))⟩)
  rw [e1] at X1
  exact ⟨X1.1, X1.2, by rw [F1.2.1 _ _ (by decide)]; exact R0, by rw [F1.1 _ _ (by decide)]; exact C0, (V0.wl hp (CWl.fr F1)).2.2.2.2.2.2.2.2.1, fun k hk => absurd hk (Nat.not_lt_zero _)⟩
theorem MG.w1 {a b : St} (h : MWf 1 a b) : MG a b := by
  obtain ⟨h1, h2, h3, h4, h5, h6⟩ := h
  refine ⟨fun o k q => h1 o k (fun z => q ⟨z.1, Or.inl z.2⟩), fun o k _ => h2 o k, fun x q => h3 x (fun e => q (by omega)) (fun e => q (by omega)), fun x j q1 q2 q3 => ?_, h6⟩
  by_cases e : x = 62
  · subst e
    have q3 : j < 5 := q3
    exact h4 j (by omega)
  · by_cases e2 : x = 69 + 1
    · subst e2; exact h5 j q3
    · rw [h3 x e e2]
theorem MV.w1 {a b : St} {V : LV} {i len : Nat} {row : Nat → Int32} (h : MWf 1 a b) (H : MV a V) (X : MX T n τ 1 b i len row) : MV b (ruV1 V len row) := by
  obtain ⟨h1, h2, h3, h4, h5, h6⟩ := h
  obtain ⟨b1, b2, b3, b4, b5, b6, b7, b8, b9, b10⟩ := H
  have o : ∀ x, x ≠ 62 → x ≠ 69 + 1 → gA b x = gA a x := fun x => h3 x
  refine ⟨by rw [h4 5 (by decide)]; exact b1, by rw [h4 6 (by decide)]; exact b2, by rw [h4 7 (by decide)]; exact b3, ?_, ?_, ?_, ?_, ?_, ?_, ?_⟩
  · rw [h4 8 (by decide)]; exact b4
  · exact X.2.2.2.2.2.1
  · intro x hx
    rw [o 63 (by decide) (by decide), o 64 (by decide) (by decide), o 65 (by decide) (by decide), o 66 (by decide) (by decide)]; exact b6 x hx
  · intro x hx
    rw [o 67 (by decide) (by decide)]; exact b7 x hx
  · intro x hx
    rw [o 68 (by decide) (by decide)]; exact b8 x hx
  · intro x hx
    rw [o 69 (by decide) (by decide)]; exact b9 x hx
  · exact X.2.2.2.2.2.2
theorem ruM0 (TK : Tks T n τ) {V : LV} (hl : (lvW V).2.1 = 0) {i i1 : Nat} (e1 : tE (τ i) = i1) (hi : i ≤ n) {st : St} (X : MT T n τ st i) (H : MV st V) {dn x2 : Int32} (hd : (1 : Int32) &&& dn = 0) {post : Int32 → St → Prop}
    (K : ∀ s, MG st s → MX T n τ 0 s i1 0 (lvW V).2.2 → MV s V → PE_X12_readExpression 8 58 (iN 0) s (fun s2 => P_X12_readLine_161 58 dn post 1 s2)) : P_X12_readLine_38 58 dn post x2 1 st := by
  refine ⟨fun _ => ⟨fun z => absurd z (by decide), fun _ => ⟨rfl, fun z => absurd X.2.2.1 z, fun _ => ⟨⟨_, rfl⟩, s_stepXL TK hi X (fun s2 F2 X2 => ?_)⟩⟩⟩, fun z => absurd hd z⟩
  rw [e1] at X2
  have H2 := H.wl F2
  have G3 : MG st (sR (sI s2 58 26 0) 58 3 (some (60 + 0))) := (MG.wl F2).tr ⟨fun o k q => gI_sI_ne (fun z => q ⟨z.1, Or.inr z.2⟩), fun o k q => gR_sR_ne q, fun _ _ => rfl, fun _ _ _ _ _ => rfl, fun _ => rfl⟩
  have e26 : ∀ k, k ≠ 26 → gI (sR (sI s2 58 26 0) 58 3 (some (60 + 0))) 58 k = gI s2 58 k := fun k hk => (gI_sI_ne (fun z => hk z.2))
  have X3 : MX T n τ 0 (sR (sI s2 58 26 0) 58 3 (some (60 + 0))) i1 0 (lvW V).2.2 := by
    obtain ⟨x1, ⟨t1, t2, t3, t4, t5⟩, x3, _⟩ := X2
    refine ⟨⟨(e26 _ (by decide)).trans x1.1, x1.2⟩, ⟨(e26 _ (by decide)).trans t1, (e26 _ (by decide)).trans t2, (e26 _ (by decide)).trans t3, (e26 _ (by decide)).trans t4, fun y1 y2 => (e26 _ (by decide)).trans (t5 y1 y2)⟩, (e26 _ (by decide)).trans x3, (show gI (sI s2 58 26 0) 58 26 = 0 from gI_sI _ _ _ _), gR_sR _ _ _ _, ?_, fun k hk => absurd hk (Nat.not_lt_zero _)⟩
    exact H2.2.2.2.1.trans (by rw [hl])
  exact ⟨fun _ => ⟨Or.inl rfl, rfl, rfl, fun _ => ⟨60, rfl, rfl, ⟨_, rfl⟩, K _ G3 X3 (show MV s2 V from H2)⟩, fun z => absurd (gI_sI _ _ _ _) z⟩, fun z => absurd z (by decide)⟩
theorem ruE0 {st : St} {i : Nat} (X : MT T n τ st i) {dn x2 : Int32} (hd : ¬ (1 : Int32) &&& dn = 0) {post : Int32 → St → Prop} (h : ∀ s, MG st s → ME s 5 (tB (τ i)) → post (dn ||| 1) s) : P_X12_readLine_38 58 dn post x2 1 st := by
  refine ⟨fun z => absurd z hd, fun _ => ⟨⟨_, rfl⟩, s_wrongL X 5 (fun s2 F2 E2 => ⟨fun z => absurd z (by decide), fun _ => ⟨rfl, fun _ => ?_, fun z => absurd z (E2.ne (by decide))⟩⟩)⟩⟩
  have e26 : ∀ k, k ≠ 26 → gI (sR (sI s2 58 26 0) 58 3 (some (60 + 0))) 58 k = gI s2 58 k := fun k hk => (gI_sI_ne (fun z => hk z.2))
  have E3 : ME (sR (sI s2 58 26 0) 58 3 (some (60 + 0))) 5 (tB (τ i)) := ⟨(e26 _ (by decide)).trans E2.1, (e26 _ (by decide)).trans E2.2⟩
  have G3 : MG st (sR (sI s2 58 26 0) 58 3 (some (60 + 0))) := (MG.wl F2).tr ⟨fun o k q => gI_sI_ne (fun z => q ⟨z.1, Or.inr z.2⟩), fun o k q => gR_sR_ne q, fun _ _ => rfl, fun _ _ _ _ _ => rfl, fun _ => rfl⟩
  have K : PE_X12_readExpression 8 58 0 (sR (sI s2 58 26 0) 58 3 (some (60 + 0))) (fun s3 => P_X12_readLine_161 58 dn post 1 s3) := N_exp (E3.ne (by decide)) ⟨⟨_, rfl⟩, N_mark (E3.ne (by decide)) (h _ G3 E3)⟩
  exact ⟨fun _ => ⟨Or.inl rfl, rfl, rfl, fun _ => ⟨60, rfl, rfl, ⟨_, rfl⟩, K⟩, fun z => absurd (gI_sI _ _ _ _) z⟩, fun z => absurd z (by decide)⟩
theorem VOk.ru0 {V : LV} (h : VOk V) {len : Nat} {row : Nat → Int32} (h7 : len ≤ 700) (hW : Wf 8 row len 1) : VOk (ruV0 V len row) := by
  obtain ⟨v1, v2, v3, v4, v5, v6, v7, v8, v9, v10⟩ := h
  exact ⟨v1, v2, v3, v4, v5, v6, v7, v8, ⟨Nat.le_refl _, fun z => absurd z (show ¬ (1 : Nat) = 0 by decide), h7, fun _ => hW⟩, v10⟩
theorem ln_ru0 (TK : Tks T n τ) (hp : isPl p) {V : LV} (hV : VOk V) {i : Nat} (hi : i ≤ n) (hk : tK (τ i) ≠ 0) {x2 : Int32} : LRes T n τ p i V (1, (lvM V).1) (P_X4_readRule 34 (ch p 3) (iN 8)) (fun st K => ∀ post : Int32 → St → Prop, (∀ s, K s → post (done V ||| 1) s) → P_X12_readLine_38 58 (done V) post x2 1 st) := by
  have n7 := TK.1
  have N0 := (TK.2 i hi).1
  have l1 := N0.2.2.1
  have lt := N0.2.2.2.1 hk
  have a0 := N0.1
  have hr := pl_rw hp
  have w1 : (lvW V).1 ≤ 1 := hV.2.2.2.2.2.2.2.2.1.1
  have w2 : (lvM V).1 ≤ 1 := hV.2.2.2.2.2.2.2.2.2.1
  generalize e1 : tE (τ i) = i1 at *
  by_cases h0 : (lvW V).1 = 0
  · have hl : (lvW V).2.1 = 0 := hV.2.2.2.2.2.2.2.2.1.2.1 h0
    have hd : (1 : Int32) &&& done V = 0 := by
      unfold done
      have hm : (lvM V).1 = 0 ∨ (lvM V).1 = 1 := by omega
      rcases hm with e | e <;> rw [h0, e] <;> rfl
    rcases l_expr (r := ch p 3) (kv := 8) (mo := 0) TK hr (by decide) wsA60 6 0 rfl i1 0 (lvW V).2.2 0 0 l1 (Nat.zero_le _) (Wf_0 _ _) (Nat.zero_le _) with ⟨i2, len2, row2, a1, a2, a3, a4, a5, a6, a7, a8⟩ | ⟨k, pl, b1, b2, b3, b4, b5⟩
    · have N2 := (TK.2 i2 a3).1
      have c1 := N2.1
      have c2 := N2.2.1
      have c3 := N2.2.2.1
      have hl2 : len2 ≤ 700 := by omega
      by_cases z59 : tS (τ i2) = 59
      · refine Or.inl ⟨tE (τ i2), ruV0 V len2 row2, by omega, c3, hV.ru0 hl2 a5, rfl, rfl, fun st post X H h => ?_, fun st K X H h post hk => ?_⟩
        · exact ruC0 TK hp h0 hl e1 hi X H (fun s G Xs Vs => a7 s _ Xs (fun s6 F6 X6 => ⟨fun z => absurd z (by decide), fun _ => ⟨⟨_, rfl⟩, s_takeSign TK hr a3 hl2 X6 (fun _ s8 F8 X8 => ⟨fun z => absurd z (by decide), fun _ => ⟨Or.inr rfl, h s8 (G.tr ((CG.w0 F6).tr (CG.w0 F8))) ⟨X8.1, X8.2.1⟩ (CV.w0 (V := ruV0 V 0 (lvW V).2.2) hp (F6.tr F8) Vs rfl X8)⟩⟩) (fun z => absurd z59 z)⟩⟩))
        · exact ruM0 TK hl e1 hi X H hd (fun s G Xs Vs => a8 s _ Xs (fun s6 F6 X6 => ⟨⟨_, rfl⟩, s_mark TK a3 X6 (by decide) (fun _ s8 F8 X8 => hk s8 (h s8 (G.tr ((MG.w0 F6).tr (MG.w0 F8))) ⟨X8.1, X8.2.1, X8.2.2.1, trivial⟩ (MV.w0 (F6.tr F8) Vs X8))) (fun z => absurd z59 z)⟩))
      · refine Or.inr ⟨1, tB (τ i2), by decide, by omega, fun st post X H h => ?_, fun st K X H h post hk => ?_⟩
        · exact ruC0 TK hp h0 hl e1 hi X H (fun s G Xs Vs => a7 s _ Xs (fun s6 F6 X6 => ⟨fun z => absurd z (by decide), fun _ => ⟨⟨_, rfl⟩, s_takeSign TK hr a3 hl2 X6 (fun z => absurd z z59) (fun _ s8 F8 E8 => ⟨fun _ => ⟨Or.inl rfl, h s8 (G.tr ((CG.w0 F6).tr (CG.w0 F8))) ⟨E8.2.2.1, E8.2.2.2⟩⟩, fun z => absurd rfl z⟩)⟩⟩))
        · exact ruM0 TK hl e1 hi X H hd (fun s G Xs Vs => a8 s _ Xs (fun s6 F6 X6 => ⟨⟨_, rfl⟩, s_mark TK a3 X6 (by decide) (fun z => absurd z z59) (fun _ s8 F8 E8 => hk s8 (h s8 (G.tr ((MG.w0 F6).tr (MG.w0 F8))) E8))⟩))
    · refine Or.inr ⟨k, pl, b1, b2, fun st post X H h => ?_, fun st K X H h post hk => ?_⟩
      · exact ruC0 TK hp h0 hl e1 hi X H (fun s G Xs Vs => b4 s _ Xs (fun s6 F6 E6 => ⟨fun _ => ⟨Or.inl rfl, h s6 (G.tr (CG.w0 F6)) ⟨E6.2.2.1, E6.2.2.2⟩⟩, fun z => absurd rfl z⟩))
      · exact ruM0 TK hl e1 hi X H hd (fun s G Xs Vs => b5 s _ Xs (fun s6 F6 E6 => ⟨⟨_, rfl⟩, N_mark (E6.ne b1) (hk s6 (h s6 (G.tr (MG.w0 F6)) E6))⟩))
  · have h1 : (lvW V).1 = 1 := by omega
    have hd : ¬ (1 : Int32) &&& done V = 0 := by
      unfold done
      have hm : (lvM V).1 = 0 ∨ (lvM V).1 = 1 := by omega
      rcases hm with e | e <;> rw [h1, e] <;> decide
    refine Or.inr ⟨5, tB (τ i), by decide, by omega, fun st post X H h => ⟨ru_0 hr, fun z => ?_, fun _ => ⟨⟨_, rfl⟩, err_C X 5 h⟩⟩, fun st K X H h post hk => ruE0 X hd (fun s G E => hk s (h s G E))⟩
    rw [H.2.2.2.2.2.2.1.1, h1] at z
    exact absurd z (by decide)
theorem ruM1 (TK : Tks T n τ) {V : LV} (hl : (lvM V).2.1 = 0) {i i1 : Nat} (e1 : tE (τ i) = i1) (hi : i ≤ n) {st : St} (X : MT T n τ st i) (H : MV st V) {dn x2 : Int32} (hd : (2 : Int32) &&& dn = 0) {post : Int32 → St → Prop}
    (K : ∀ s, MG st s → MX T n τ 1 s i1 0 (lvM V).2.2 → MV s V → PE_X12_readExpression 8 58 (iN 0) s (fun s2 => P_X12_readLine_161 58 dn post 2 s2)) : P_X12_readLine_38 58 dn post x2 2 st := by
  refine ⟨fun _ => ⟨fun z => absurd z (by decide), fun _ => ⟨rfl, fun z => absurd X.2.2.1 z, fun _ => ⟨⟨_, rfl⟩, s_stepXL TK hi X (fun s2 F2 X2 => ?_)⟩⟩⟩, fun z => absurd hd z⟩
  rw [e1] at X2
  have H2 := H.wl F2
  have G3 : MG st (sR (sI s2 58 26 1) 58 3 (some (60 + 1))) := (MG.wl F2).tr ⟨fun o k q => gI_sI_ne (fun z => q ⟨z.1, Or.inr z.2⟩), fun o k q => gR_sR_ne q, fun _ _ => rfl, fun _ _ _ _ _ => rfl, fun _ => rfl⟩
  have e26 : ∀ k, k ≠ 26 → gI (sR (sI s2 58 26 1) 58 3 (some (60 + 1))) 58 k = gI s2 58 k := fun k hk => (gI_sI_ne (fun z => hk z.2))
  have X3 : MX T n τ 1 (sR (sI s2 58 26 1) 58 3 (some (60 + 1))) i1 0 (lvM V).2.2 := by
    obtain ⟨x1, ⟨t1, t2, t3, t4, t5⟩, x3, _⟩ := X2
    refine ⟨⟨(e26 _ (by decide)).trans x1.1, x1.2⟩, ⟨(e26 _ (by decide)).trans t1, (e26 _ (by decide)).trans t2, (e26 _ (by decide)).trans t3, (e26 _ (by decide)).trans t4, fun y1 y2 => (e26 _ (by decide)).trans (t5 y1 y2)⟩, (e26 _ (by decide)).trans x3, (show gI (sI s2 58 26 1) 58 26 = 1 from gI_sI _ _ _ _), gR_sR _ _ _ _, ?_, fun k hk => absurd hk (Nat.not_lt_zero _)⟩
    exact H2.2.2.2.2.1.trans (by rw [hl])
  exact ⟨fun z => absurd rfl z, fun _ => ⟨Or.inr rfl, rfl, rfl, fun z => absurd ((gI_sI _ _ _ _).symm.trans z) (by decide), fun _ => ⟨61, rfl, rfl, ⟨_, rfl⟩, K _ G3 X3 (show MV s2 V from H2)⟩⟩⟩
theorem ruE1 {st : St} {i : Nat} (X : MT T n τ st i) {dn x2 : Int32} (hd : ¬ (2 : Int32) &&& dn = 0) {post : Int32 → St → Prop} (h : ∀ s, MG st s → ME s 5 (tB (τ i)) → post (dn ||| 2) s) : P_X12_readLine_38 58 dn post x2 2 st := by
  refine ⟨fun z => absurd z hd, fun _ => ⟨⟨_, rfl⟩, s_wrongL X 5 (fun s2 F2 E2 => ⟨fun z => absurd z (by decide), fun _ => ⟨rfl, fun _ => ?_, fun z => absurd z (E2.ne (by decide))⟩⟩)⟩⟩
  have e26 : ∀ k, k ≠ 26 → gI (sR (sI s2 58 26 1) 58 3 (some (60 + 1))) 58 k = gI s2 58 k := fun k hk => (gI_sI_ne (fun z => hk z.2))
  have E3 : ME (sR (sI s2 58 26 1) 58 3 (some (60 + 1))) 5 (tB (τ i)) := ⟨(e26 _ (by decide)).trans E2.1, (e26 _ (by decide)).trans E2.2⟩
  have G3 : MG st (sR (sI s2 58 26 1) 58 3 (some (60 + 1))) := (MG.wl F2).tr ⟨fun o k q => gI_sI_ne (fun z => q ⟨z.1, Or.inr z.2⟩), fun o k q => gR_sR_ne q, fun _ _ => rfl, fun _ _ _ _ _ => rfl, fun _ => rfl⟩
  have K : PE_X12_readExpression 8 58 0 (sR (sI s2 58 26 1) 58 3 (some (60 + 1))) (fun s3 => P_X12_readLine_161 58 dn post 2 s3) := N_exp (E3.ne (by decide)) ⟨⟨_, rfl⟩, N_mark (E3.ne (by decide)) (h _ G3 E3)⟩
  exact ⟨fun z => absurd rfl z, fun _ => ⟨Or.inr rfl, rfl, rfl, fun z => absurd ((gI_sI _ _ _ _).symm.trans z) (by decide), fun _ => ⟨61, rfl, rfl, ⟨_, rfl⟩, K⟩⟩⟩
theorem VOk.ru1 {V : LV} (h : VOk V) {len : Nat} {row : Nat → Int32} (h7 : len ≤ 700) (hW : Wf 5 row len 1) : VOk (ruV1 V len row) := by
  obtain ⟨v1, v2, v3, v4, v5, v6, v7, v8, v9, v10⟩ := h
  exact ⟨v1, v2, v3, v4, v5, v6, v7, v8, v9, ⟨Nat.le_refl _, fun z => absurd z (show ¬ (1 : Nat) = 0 by decide), h7, fun _ => hW⟩⟩
theorem ln_ru1 (TK : Tks T n τ) (hp : isPl p) {V : LV} (hV : VOk V) {i : Nat} (hi : i ≤ n) (hk : tK (τ i) ≠ 0) {x2 : Int32} : LRes T n τ p i V ((lvW V).1, 1) (P_X4_readRule 34 (ch p 4) (iN 5)) (fun st K => ∀ post : Int32 → St → Prop, (∀ s, K s → post (done V ||| 2) s) → P_X12_readLine_38 58 (done V) post x2 2 st) := by
  have n7 := TK.1
  have N0 := (TK.2 i hi).1
  have l1 := N0.2.2.1
  have lt := N0.2.2.2.1 hk
  have a0 := N0.1
  have hr := pl_rm hp
  have w1 : (lvW V).1 ≤ 1 := hV.2.2.2.2.2.2.2.2.1.1
  have w2 : (lvM V).1 ≤ 1 := hV.2.2.2.2.2.2.2.2.2.1
  generalize e1 : tE (τ i) = i1 at *
  by_cases h0 : (lvM V).1 = 0
  · have hl : (lvM V).2.1 = 0 := hV.2.2.2.2.2.2.2.2.2.2.1 h0
    have hd : (2 : Int32) &&& done V = 0 := by
      unfold done
      have hm : (lvW V).1 = 0 ∨ (lvW V).1 = 1 := by omega
      rcases hm with e | e <;> rw [h0, e] <;> rfl
    rcases l_expr (r := ch p 4) (kv := 5) (mo := 1) TK hr (by decide) wsA61 6 0 rfl i1 0 (lvM V).2.2 0 0 l1 (Nat.zero_le _) (Wf_0 _ _) (Nat.zero_le _) with ⟨i2, len2, row2, a1, a2, a3, a4, a5, a6, a7, a8⟩ | ⟨k, pl, b1, b2, b3, b4, b5⟩
    · have N2 := (TK.2 i2 a3).1
      have c1 := N2.1
      have c2 := N2.2.1
      have c3 := N2.2.2.1
      have hl2 : len2 ≤ 700 := by omega
      by_cases z59 : tS (τ i2) = 59
      · refine Or.inl ⟨tE (τ i2), ruV1 V len2 row2, by omega, c3, hV.ru1 hl2 a5, rfl, rfl, fun st post X H h => ?_, fun st K X H h post hk => ?_⟩
        · exact ruC1 TK hp h0 hl e1 hi X H (fun s G Xs Vs => a7 s _ Xs (fun s6 F6 X6 => ⟨fun z => absurd z (by decide), fun _ => ⟨⟨_, rfl⟩, s_takeSign TK hr a3 hl2 X6 (fun _ s8 F8 X8 => ⟨fun z => absurd z (by decide), fun _ => ⟨Or.inr rfl, h s8 (G.tr ((CG.w1 F6).tr (CG.w1 F8))) ⟨X8.1, X8.2.1⟩ (CV.w1 (V := ruV1 V 0 (lvM V).2.2) hp (F6.tr F8) Vs rfl X8)⟩⟩) (fun z => absurd z59 z)⟩⟩))
        · exact ruM1 TK hl e1 hi X H hd (fun s G Xs Vs => a8 s _ Xs (fun s6 F6 X6 => ⟨⟨_, rfl⟩, s_mark TK a3 X6 (by decide) (fun _ s8 F8 X8 => hk s8 (h s8 (G.tr ((MG.w1 F6).tr (MG.w1 F8))) ⟨X8.1, X8.2.1, X8.2.2.1, trivial⟩ (MV.w1 (F6.tr F8) Vs X8))) (fun z => absurd z59 z)⟩))
      · refine Or.inr ⟨1, tB (τ i2), by decide, by omega, fun st post X H h => ?_, fun st K X H h post hk => ?_⟩
        · exact ruC1 TK hp h0 hl e1 hi X H (fun s G Xs Vs => a7 s _ Xs (fun s6 F6 X6 => ⟨fun z => absurd z (by decide), fun _ => ⟨⟨_, rfl⟩, s_takeSign TK hr a3 hl2 X6 (fun z => absurd z z59) (fun _ s8 F8 E8 => ⟨fun _ => ⟨Or.inl rfl, h s8 (G.tr ((CG.w1 F6).tr (CG.w1 F8))) ⟨E8.2.2.1, E8.2.2.2⟩⟩, fun z => absurd rfl z⟩)⟩⟩))
        · exact ruM1 TK hl e1 hi X H hd (fun s G Xs Vs => a8 s _ Xs (fun s6 F6 X6 => ⟨⟨_, rfl⟩, s_mark TK a3 X6 (by decide) (fun z => absurd z z59) (fun _ s8 F8 E8 => hk s8 (h s8 (G.tr ((MG.w1 F6).tr (MG.w1 F8))) E8))⟩))
    · refine Or.inr ⟨k, pl, b1, b2, fun st post X H h => ?_, fun st K X H h post hk => ?_⟩
      · exact ruC1 TK hp h0 hl e1 hi X H (fun s G Xs Vs => b4 s _ Xs (fun s6 F6 E6 => ⟨fun _ => ⟨Or.inl rfl, h s6 (G.tr (CG.w1 F6)) ⟨E6.2.2.1, E6.2.2.2⟩⟩, fun z => absurd rfl z⟩))
      · exact ruM1 TK hl e1 hi X H hd (fun s G Xs Vs => b5 s _ Xs (fun s6 F6 E6 => ⟨⟨_, rfl⟩, N_mark (E6.ne b1) (hk s6 (h s6 (G.tr (MG.w1 F6)) E6))⟩))
  · have h1 : (lvM V).1 = 1 := by omega
    have hd : ¬ (2 : Int32) &&& done V = 0 := by
      unfold done
      have hm : (lvW V).1 = 0 ∨ (lvW V).1 = 1 := by omega
      rcases hm with e | e <;> rw [h1, e] <;> decide
    refine Or.inr ⟨5, tB (τ i), by decide, by omega, fun st post X H h => ⟨ru_0 hr, fun z => ?_, fun _ => ⟨⟨_, rfl⟩, err_C X 5 h⟩⟩, fun st K X H h post hk => ruE1 X hd (fun s G E => hk s (h s G E))⟩
    rw [H.2.2.2.2.2.2.2.1, h1] at z
    exact absurd z (by decide)
end L5
