/-! PURE: lines: what is read so far; a person -/
abbrev Ru3 : Type := Nat × Nat × (Nat → Int32)
abbrev LV : Type := Nat × Nat × Nat × (Nat → Int32) × (Nat → Int32) × Ru3 × Ru3
def lvC (V : LV) : Nat → Int32 := V.2.2.2.2.1
def lvW (V : LV) : Ru3 := V.2.2.2.2.2.1
def lvM (V : LV) : Ru3 := V.2.2.2.2.2.2
def RuC (st : St) (r : Nat) (R : Ru3) : Prop := gI st r 0 = iN R.1 ∧ gI st r 2 = iN R.2.1 ∧ ∀ k, k < R.2.1 → gA st (ch r 1) k = R.2.2 k
def CV (p : Nat) (st : St) (V : LV) : Prop := gR st 30 0 = some p ∧ gI st p 0 = iN V.1 ∧ gI st p 1 = iN V.2.1 ∧ gI st 34 4 = iN V.2.2.1 ∧ (∀ x, x < V.1 → gA st (ch p 2) x = V.2.2.2.1 x) ∧ gA st 31 = lvC V ∧ RuC st (ch p 3) (lvW V) ∧ RuC st (ch p 4) (lvM V)
def MV (st : St) (V : LV) : Prop := gA st 62 5 = iN V.1 ∧ gA st 62 6 = iN V.2.1 ∧ gA st 62 7 = iN V.2.2.1 ∧ gA st 62 8 = iN (lvW V).2.1 ∧ gA st 62 9 = iN (lvM V).2.1 ∧ (∀ x, x < V.1 → gA st 63 (9 + x) = V.2.2.2.1 x ∧ gA st 64 (9 + x) = lvC V (2 + 4 * x) ∧ gA st 65 (9 + x) = lvC V (2 + 4 * x + 1) ∧ gA st 66 (9 + x) = lvC V (2 + 4 * x + 2)) ∧ (∀ b, b < V.2.1 → gA st 67 (6 + b) = lvC V (38 + 3 * b)) ∧ (∀ k, k < 54 → gA st 68 (54 + k) = lvC V (56 + k)) ∧ (∀ k, k < (lvW V).2.1 → gA st 69 (700 + k) = trC ((lvW V).2.2 k)) ∧ (∀ k, k < (lvM V).2.1 → gA st 70 (700 + k) = trC ((lvM V).2.2 k))
def RuOk (kv : Nat) (R : Ru3) : Prop := R.1 ≤ 1 ∧ (R.1 = 0 → R.2.1 = 0) ∧ R.2.1 ≤ 700 ∧ (R.1 = 1 → Wf kv R.2.2 R.2.1 1)
def VOk (V : LV) : Prop := V.1 ≤ 9 ∧ V.2.1 ≤ 6 ∧ V.2.2.1 ≤ 24 ∧ lvC V 0 = 0 ∧ lvC V 1 = 0 ∧ (∀ p, p < 9 → lvC V (2 + 4 * p + 3) = 0 ∧ (V.1 ≤ p → lvC V (2 + 4 * p) = 0 ∧ lvC V (2 + 4 * p + 1) = 0 ∧ lvC V (2 + 4 * p + 2) = 0)) ∧ (∀ b, b < 6 → (b < V.2.1 → lvC V (38 + 3 * b + 1) = 1 ∧ lvC V (38 + 3 * b + 2) = -1 ∧ 0 ≤ lvC V (38 + 3 * b)) ∧ (V.2.1 ≤ b → lvC V (38 + 3 * b) = 0 ∧ lvC V (38 + 3 * b + 1) = 0 ∧ lvC V (38 + 3 * b + 2) = 0)) ∧ (∀ k, k < 54 → 0 ≤ lvC V (56 + k)) ∧ RuOk 8 (lvW V) ∧ RuOk 5 (lvM V)
/-! frames of a whole reading -/
def CGi (p o : Nat) : Prop := o = 34 ∨ o = 35 ∨ o = p ∨ o = ch p 3 ∨ o = ch p 4
def CGa (p x : Nat) : Prop := x = 31 ∨ x = ch p 2 ∨ x = ch (ch p 3) 1 ∨ x = ch (ch p 4) 1
def CG (p : Nat) (a b : St) : Prop := (∀ o k, ¬ CGi p o → gI b o k = gI a o k) ∧ (∀ o k, o ≠ 34 → o ≠ 35 → gR b o k = gR a o k) ∧ ∀ x, ¬ CGa p x → gA b x = gA a x
theorem CG.rf {p : Nat} {a : St} : CG p a a := ⟨fun _ _ _ => rfl, fun _ _ _ _ => rfl, fun _ _ => rfl⟩
theorem CG.tr {p : Nat} {a b c : St} (h1 : CG p a b) (h2 : CG p b c) : CG p a c := ⟨fun o k q => (h2.1 o k q).trans (h1.1 o k q), fun o k q1 q2 => (h2.2.1 o k q1 q2).trans (h1.2.1 o k q1 q2), fun x q => (h2.2.2 x q).trans (h1.2.2 x q)⟩
theorem CG.wl {p : Nat} {a b : St} (h : CWl a b) : CG p a b := ⟨fun o k q => h.1 o k (fun z => q (by rcases z with z | z; exact Or.inl z.1; exact Or.inr (Or.inl z.1))), fun o k _ q2 => h.2.1 o k (fun z => q2 z.1), fun x _ => h.2.2 x⟩
theorem CG.sa {p : Nat} {a : St} {x : Nat} (h : CGa p x) (j : Nat) (v : Int32) : CG p a (sA a x j v) := ⟨fun _ _ _ => rfl, fun _ _ _ _ => rfl, fun y q => gA_sA_ne (fun e => q (by rw [e]; exact h))⟩
theorem CG.si {p : Nat} {a : St} {o : Nat} (h : CGi p o) (k : Nat) (v : Int32) : CG p a (sI a o k v) := ⟨fun o2 k2 q => gI_sI_ne (fun z => q (by rw [z.1]; exact h)), fun _ _ _ _ => rfl, fun _ _ => rfl⟩
def MGi (o k : Nat) : Prop := o = 58 ∧ ((17 ≤ k ∧ k ≤ 24 ∧ k ≠ 18) ∨ k = 26)
def hf (x : Nat) : Nat := al 0 x / 2
def MG (a b : St) : Prop := (∀ o k, ¬ MGi o k → gI b o k = gI a o k) ∧ (∀ o k, ¬ (o = 58 ∧ k = 3) → gR b o k = gR a o k) ∧ (∀ x, ¬ (62 ≤ x ∧ x ≤ 70) → gA b x = gA a x) ∧ (∀ x j, 62 ≤ x → x ≤ 70 → j < hf x → gA b x j = gA a x j) ∧ ∀ x, gL b x = gL a x
theorem MG.rf {a : St} : MG a a := ⟨fun _ _ _ => rfl, fun _ _ _ => rfl, fun _ _ => rfl, fun _ _ _ _ _ => rfl, fun _ => rfl⟩
theorem MG.tr {a b c : St} (h1 : MG a b) (h2 : MG b c) : MG a c := ⟨fun o k q => (h2.1 o k q).trans (h1.1 o k q), fun o k q => (h2.2.1 o k q).trans (h1.2.1 o k q), fun x q => (h2.2.2.1 x q).trans (h1.2.2.1 x q), fun x j q1 q2 q3 => (h2.2.2.2.1 x j q1 q2 q3).trans (h1.2.2.2.1 x j q1 q2 q3), fun x => (h2.2.2.2.2 x).trans (h1.2.2.2.2 x)⟩
theorem MG.wl {a b : St} (h : MWl a b) : MG a b := ⟨fun o k q => h.eI (fun z => q ⟨z.1, Or.inl z.2⟩), fun o k _ => h.eR o k, fun x _ => h.eA (fun z => z), fun x j _ _ _ => by rw [h.eA (fun z => z)], fun x => h.eL x⟩
theorem MG.sa {a : St} {x : Nat} (h1 : 62 ≤ x) (h2 : x ≤ 70) {j : Nat} (hj : hf x ≤ j) (v : Int32) : MG a (sA a x j v) := by
  refine ⟨fun _ _ _ => rfl, fun _ _ _ => rfl, fun y q => gA_sA_ne (fun e => q (by rw [e]; exact ⟨h1, h2⟩)), fun y k _ _ q => ?_, fun _ => rfl⟩
  by_cases e : y = x
  · subst e; rw [gA_sA, upd_ne (by omega)]
  · rw [gA_sA_ne e]
section L2
variable {T : Nat → Int32} {n : Nat} {τ : Nat → Tok} {p : Nat}
theorem pl_ne {p : Nat} (hp : isPl p) : (p ≠ 34 ∧ p ≠ 35) ∧ (ch p 3 ≠ 34 ∧ ch p 3 ≠ 35) ∧ (ch p 4 ≠ 34 ∧ ch p 4 ≠ 35) ∧ (ch p 2 ≠ 31 ∧ ch p 2 ≠ 1) ∧ (ch (ch p 3) 1 ≠ 31 ∧ ch (ch p 3) 1 ≠ ch p 2 ∧ ch (ch p 3) 1 ≠ 1) ∧ (ch (ch p 4) 1 ≠ 31 ∧ ch (ch p 4) 1 ≠ ch p 2 ∧ ch (ch p 4) 1 ≠ 1) ∧ (ch p 3 ≠ p ∧ ch p 4 ≠ p ∧ ch p 3 ≠ ch p 4 ∧ ch (ch p 3) 1 ≠ ch (ch p 4) 1) := by rcases hp with rfl | rfl <;> decide
theorem RuC.cg {a b : St} {r : Nat} (hI : ∀ k, gI b r k = gI a r k) (hA : gA b (ch r 1) = gA a (ch r 1)) {R : Ru3} (h : RuC a r R) : RuC b r R := ⟨(hI 0).trans h.1, (hI 2).trans h.2.1, fun k hk => by rw [hA]; exact h.2.2 k hk⟩
theorem CV.wl (hp : isPl p) {a b : St} (h : CWl a b) {V : LV} (H : CV p a V) : CV p b V := by
  obtain ⟨h1, h2, h3, h4, h5, h6, h7, h8⟩ := H
  obtain ⟨⟨n1, n2⟩, ⟨n3, n4⟩, ⟨n5, n6⟩, _⟩ := pl_ne hp
  have gi : ∀ o k, o ≠ 34 → o ≠ 35 → gI b o k = gI a o k := fun o k q1 q2 => h.1 o k (fun z => z.elim (fun y => q1 y.1) (fun y => q2 y.1))
  refine ⟨by rw [h.2.1 _ _ (by decide)]; exact h1, by rw [gi _ _ n1 n2]; exact h2, by rw [gi _ _ n1 n2]; exact h3, by rw [h.1 _ _ (by unfold CWli; decide)]; exact h4, fun x hx => by rw [h.2.2]; exact h5 x hx, by rw [h.2.2]; exact h6, h7.cg (fun k => gi _ _ n3 n4) (h.2.2 _), h8.cg (fun k => gi _ _ n5 n6) (h.2.2 _)⟩
theorem CV.sc (hp : isPl p) {a : St} {V : LV} (H : CV p a V) (j : Nat) (x : Int32) : CV p (sA a 31 j x) (V.1, V.2.1, V.2.2.1, V.2.2.2.1, upd (lvC V) j x, lvW V, lvM V) := by
  obtain ⟨h1, h2, h3, h4, h5, h6, h7, h8⟩ := H
  obtain ⟨_, _, _, ⟨n7, _⟩, ⟨n8, _⟩, ⟨n9, _⟩, _⟩ := pl_ne hp
  refine ⟨h1, h2, h3, h4, fun y hy => by rw [gA_sA_ne n7]; exact h5 y hy, ?_, RuC.cg (a := a) (b := sA a 31 j x) (fun _ => rfl) (gA_sA_ne n8) h7, RuC.cg (a := a) (b := sA a 31 j x) (fun _ => rfl) (gA_sA_ne n9) h8⟩
  rw [gA_sA, h6]; rfl
theorem CV.sk (hp : isPl p) {a : St} {V : LV} (H : CV p a V) (x : Int32) : CV p (sA a (ch p 2) V.1 x) V := by
  obtain ⟨h1, h2, h3, h4, h5, h6, h7, h8⟩ := H
  obtain ⟨_, _, _, ⟨n7, _⟩, ⟨_, n8, _⟩, ⟨_, n9, _⟩, _⟩ := pl_ne hp
  refine ⟨h1, h2, h3, h4, fun y hy => by rw [gA_sA, upd_ne (by omega)]; exact h5 y hy, by rw [gA_sA_ne (Ne.symm n7)]; exact h6, RuC.cg (a := a) (b := sA a (ch p 2) V.1 x) (fun _ => rfl) (gA_sA_ne n8) h7, RuC.cg (a := a) (b := sA a (ch p 2) V.1 x) (fun _ => rfl) (gA_sA_ne n9) h8⟩
theorem CT.sa {st : St} {i x : Nat} (hx : x ≠ 1) (j : Nat) (v : Int32) (X : CT T n τ st i) : CT T n τ (sA st x j v) i := ⟨⟨⟨X.1.1.1, fun k hk => by rw [gA_sA_ne (Ne.symm hx)]; exact X.1.1.2 k hk⟩, X.1.2⟩, X.2⟩
theorem CT.si {st : St} {i o : Nat} (ho : o ≠ 35) {k : Nat} (h6 : o ≠ 34 ∨ k ≠ 6) (v : Int32) (X : CT T n τ st i) : CT T n τ (sI st o k v) i := by
  obtain ⟨⟨⟨x1, x2⟩, x3⟩, t1, t2, t3, t4, t5, t6, t7⟩ := X
  have e : ∀ j, gI (sI st o k v) 35 j = gI st 35 j := fun j => gI_sI_ne (fun z => ho z.1.symm)
  exact ⟨⟨⟨by rw [e]; exact x1, x2⟩, by rw [gI_sI_ne (fun z => h6.elim (fun y => y z.1.symm) (fun y => y z.2.symm))]; exact x3⟩, by rw [e]; exact t1, by rw [e]; exact t2, by rw [e]; exact t3, by rw [e]; exact t4, by rw [e]; exact t5, t6, by rw [e]; exact t7⟩
theorem MT.sa {st : St} {i x : Nat} (hx : x ≠ 72) (j : Nat) (v : Int32) (X : MT T n τ st i) : MT T n τ (sA st x j v) i := ⟨⟨X.1.1, fun k hk => by rw [gA_sA_ne (Ne.symm hx)]; exact X.1.2 k hk⟩, X.2.1, X.2.2.1, trivial⟩
theorem MV.wl {a b : St} (h : MWl a b) {V : LV} (H : MV a V) : MV b V := by
  have e : ∀ x, gA b x = gA a x := fun x => h.eA (fun z => z)
  unfold MV at H ⊢
  rw [e 62, e 63, e 64, e 65, e 66, e 67, e 68, e 69, e 70]
  exact H
/-- what a line comes to -/
def LRes (T : Nat → Int32) (n : Nat) (τ : Nat → Tok) (p i : Nat) (V : LV) (B : Nat × Nat) (PC : St → (Int32 → St → Prop) → Prop) (PM : St → (St → Prop) → Prop) : Prop :=
  (∃ i' V', i < i' ∧ i' ≤ n ∧ VOk V' ∧ (lvW V').1 = B.1 ∧ (lvM V').1 = B.2 ∧ (∀ st post, CT T n τ st i → CV p st V → (∀ st', CG p st st' → CT T n τ st' i' → CV p st' V' → post 1 st') → PC st post) ∧ (∀ st K, MT T n τ st i → MV st V → (∀ st', MG st st' → MT T n τ st' i' → MV st' V' → K st') → PM st K)) ∨
  (∃ k pl, (0 < k ∧ k < 10) ∧ pl ≤ 700 ∧ (∀ st post, CT T n τ st i → CV p st V → (∀ st', CG p st st' → CEl st' k pl → post 0 st') → PC st post) ∧ (∀ st K, MT T n τ st i → MV st V → (∀ st', MG st st' → ME st' k pl → K st') → PM st K))
/-! a person -/
def perV (V : LV) (w a b c : Nat) : LV := (V.1 + 1, V.2.1, V.2.2.1, upd V.2.2.2.1 V.1 (iN w), upd (upd (upd (lvC V) (2 + 4 * V.1) (iN a)) (2 + 4 * V.1 + 1) (iN b)) (2 + 4 * V.1 + 2) (iN c), lvW V, lvM V)
set_option maxHeartbeats 1000000 in
theorem perC (TK : Tks T n τ) (hp : isPl p) {V : LV} {w i i1 i2 i3 i4 i5 : Nat} (e1 : tE (τ i) = i1) (e2 : tE (τ i1) = i2) (e3 : tE (τ i2) = i3) (e4 : tE (τ i3) = i4) (e5 : tE (τ i4) = i5) (hi : i ≤ n) (h9 : V.1 < 9) {st : St} (X : CT T n τ st i) (H : CV p st V) {post : Int32 → St → Prop}
    (k5 : nOk (τ i1) 0 99 → nOk (τ i2) 0 9 → nOk (τ i3) 0 9 → tS (τ i4) = 59 → ∀ st', CG p st st' → CT T n τ st' i5 → CV p st' (perV V w (tN (τ i1)) (tN (τ i2)) (tN (τ i3))) → post 1 st')
    (k4 : nOk (τ i1) 0 99 → nOk (τ i2) 0 9 → nOk (τ i3) 0 9 → tS (τ i4) ≠ 59 → ∀ st', CG p st st' → CEl st' 1 (tB (τ i4)) → post 0 st')
    (k3 : nOk (τ i1) 0 99 → nOk (τ i2) 0 9 → ¬ nOk (τ i3) 0 9 → ∀ st', CG p st st' → CEl st' (nK (τ i3)) (tB (τ i3)) → post 0 st')
    (k2 : nOk (τ i1) 0 99 → ¬ nOk (τ i2) 0 9 → ∀ st', CG p st st' → CEl st' (nK (τ i2)) (tB (τ i2)) → post 0 st')
    (k1 : ¬ nOk (τ i1) 0 99 → ∀ st', CG p st st' → CEl st' (nK (τ i1)) (tB (τ i1)) → post 0 st') : P_X4_readPerson 34 (iN w) st post := by
  obtain ⟨⟨n1, n2⟩, _, _, ⟨n7, n71⟩, _⟩ := pl_ne hp
  have l1 : i1 ≤ n := by rw [← e1]; exact (TK.2 i hi).1.2.2.1
  have l2 : i2 ≤ n := by rw [← e2]; exact (TK.2 i1 l1).1.2.2.1
  have l3 : i3 ≤ n := by rw [← e3]; exact (TK.2 i2 l2).1.2.2.1
  have l4 : i4 ≤ n := by rw [← e4]; exact (TK.2 i3 l3).1.2.2.1
  have a31 : CGa p 31 := Or.inl rfl
  have ak : CGa p (ch p 2) := Or.inr (Or.inl rfl)
  unfold P_X4_readPerson
  refine ⟨30, rfl, p, H.1, pl_0 hp, fun _ => ⟨35, rfl, ⟨_, rfl⟩, l_adv TK hi X (fun s5 F5 X5 => ⟨ch p 2, pl_k hp _, ?_, ⟨_, rfl⟩, ?_⟩)⟩, fun hz => absurd ?_ hz⟩
  · rw [H.2.1, pl_ak hp]; exact iN_vp h9 (by decide)
  · rw [H.2.1, iN_cl (by omega)]
    rw [e1] at X5
    have H5 := (H.wl hp F5).sk hp (iN w)
    have X5 := X5.sa n71 V.1 (iN w)
    have G5 : CG p st (sA s5 (ch p 2) V.1 (iN w)) := (CG.wl F5).tr (CG.sa ak _ _)
    have q5 : gA (sA s5 (ch p 2) V.1 (iN w)) (ch p 2) V.1 = iN w := by rw [gA_sA, upd_same]
    generalize sA s5 (ch p 2) V.1 (iN w) = s6 at *
    refine l_num (a := 0) (b := 99) TK l1 X5 (by decide) (by decide) (fun z1 s8 F8 X8 g8 => ⟨fun _ => ⟨30, rfl, rfl, ⟨_, rfl⟩, ?_⟩, fun z => absurd z (by decide)⟩) (fun z1 s8 F8 E8 => ⟨fun z => absurd rfl z, fun _ => k1 z1 s8 (G5.tr (CG.wl F8)) E8⟩)
    rw [g8]
    rw [e2] at X8
    refine s_setGrief isDa30 h9 ⟨⟨_, rfl⟩, ?_⟩
    have H8 := (H5.wl hp F8).sc hp (2 + 4 * V.1) (iN (tN (τ i1)))
    have X8 := X8.sa (x := ch 30 1) (by decide) (2 + 4 * V.1) (iN (tN (τ i1)))
    have G8 : CG p st (sA s8 (ch 30 1) (2 + 4 * V.1) (iN (tN (τ i1)))) := (G5.tr (CG.wl F8)).tr (CG.sa a31 _ _)
    have q8 : gA (sA s8 (ch 30 1) (2 + 4 * V.1) (iN (tN (τ i1)))) (ch p 2) V.1 = iN w := by rw [gA_sA_ne (show ch p 2 ≠ ch 30 1 from n7), F8.2.2]; exact q5
    have H8 : CV p (sA s8 (ch 30 1) (2 + 4 * V.1) (iN (tN (τ i1)))) _ := H8
    generalize sA s8 (ch 30 1) (2 + 4 * V.1) (iN (tN (τ i1))) = s9 at *
    refine l_num (a := 0) (b := 9) TK l2 X8 (by decide) (by decide) (fun z2 s10 F10 X10 g10 => ⟨fun _ => ⟨30, rfl, rfl, ⟨_, rfl⟩, ?_⟩, fun z => absurd z (by decide)⟩) (fun z2 s10 F10 E10 => ⟨fun z => absurd rfl z, fun _ => k2 z1 z2 s10 (G8.tr (CG.wl F10)) E10⟩)
    rw [g10]
    rw [e3] at X10
    refine s_setTrains isDa30 h9 ⟨⟨_, rfl⟩, ?_⟩
    have H10 := (H8.wl hp F10).sc hp (2 + 4 * V.1 + 1) (iN (tN (τ i2)))
    have X10 := X10.sa (x := ch 30 1) (by decide) (2 + 4 * V.1 + 1) (iN (tN (τ i2)))
    have G10 : CG p st (sA s10 (ch 30 1) (2 + 4 * V.1 + 1) (iN (tN (τ i2)))) := (G8.tr (CG.wl F10)).tr (CG.sa a31 _ _)
    have q10 : gA (sA s10 (ch 30 1) (2 + 4 * V.1 + 1) (iN (tN (τ i2)))) (ch p 2) V.1 = iN w := by rw [gA_sA_ne (show ch p 2 ≠ ch 30 1 from n7), F10.2.2]; exact q8
    have H10 : CV p (sA s10 (ch 30 1) (2 + 4 * V.1 + 1) (iN (tN (τ i2)))) _ := H10
    generalize sA s10 (ch 30 1) (2 + 4 * V.1 + 1) (iN (tN (τ i2))) = s11 at *
    refine l_num (a := 0) (b := 9) TK l3 X10 (by decide) (by decide) (fun z3 s12 F12 X12 g12 => ⟨fun _ => ⟨30, rfl, rfl, ⟨_, rfl⟩, ?_⟩, fun z => absurd z (by decide)⟩) (fun z3 s12 F12 E12 => ⟨fun z => absurd rfl z, fun _ => k3 z1 z2 z3 s12 (G10.tr (CG.wl F12)) E12⟩)
    rw [g12]
    rw [e4] at X12
    refine s_setOnions isDa30 h9 ⟨pl_0 hp, pl_0 hp, ⟨_, rfl⟩, ?_⟩
    have H12 := (H10.wl hp F12).sc hp (2 + 4 * V.1 + 2) (iN (tN (τ i3)))
    have X12 := X12.sa (x := ch 30 1) (by decide) (2 + 4 * V.1 + 2) (iN (tN (τ i3)))
    have G12 : CG p st (sA s12 (ch 30 1) (2 + 4 * V.1 + 2) (iN (tN (τ i3)))) := (G10.tr (CG.wl F12)).tr (CG.sa a31 _ _)
    have q12 : gA (sA s12 (ch 30 1) (2 + 4 * V.1 + 2) (iN (tN (τ i3)))) (ch p 2) V.1 = iN w := by rw [gA_sA_ne (show ch p 2 ≠ ch 30 1 from n7), F12.2.2]; exact q10
    have H12 : CV p (sA s12 (ch 30 1) (2 + 4 * V.1 + 2) (iN (tN (τ i3)))) _ := H12
    generalize sA s12 (ch 30 1) (2 + 4 * V.1 + 2) (iN (tN (τ i3))) = s13 at *
    have ep : gI s13 p 0 = iN V.1 := H12.2.1
    rw [ep, iN_s]
    have X13 := X12.si (o := p) n2 (k := 0) (Or.inl n1) (iN (V.1 + 1))
    have G13 : CG p st (sI s13 p 0 (iN (V.1 + 1))) := G12.tr (CG.si (Or.inr (Or.inr (Or.inl rfl))) _ _)
    have H13 : CV p (sI s13 p 0 (iN (V.1 + 1))) (perV V w (tN (τ i1)) (tN (τ i2)) (tN (τ i3))) := by
      obtain ⟨h1, h2, h3, h4, h5, h6, h7, h8⟩ := H12
      obtain ⟨_, ⟨n3, n4⟩, ⟨n5, n6⟩, _, _, _, m1, m2, _⟩ := pl_ne hp
      refine ⟨h1, gI_sI _ _ _ _, by rw [gI_sI_ne (fun z => absurd z.2 (by decide))]; exact h3, by rw [gI_sI_ne (fun z => n1 z.1.symm)]; exact h4, fun x hx => ?_, h6, h7.cg (fun k => gI_sI_ne (fun z => m1 z.1)) rfl, h8.cg (fun k => gI_sI_ne (fun z => m2 z.1)) rfl⟩
      have hx : x < V.1 + 1 := hx
      show gA s13 (ch p 2) x = upd V.2.2.2.1 V.1 (iN w) x
      by_cases e : x = V.1
      · rw [e, upd_same]; exact q12
      · rw [upd_ne e]; exact h5 x (by show x < V.1; omega)
    refine l_sign TK l4 X13 (fun z4 s14 F14 X14 => ⟨Or.inr rfl, k5 z1 z2 z3 z4 s14 (G13.tr (CG.wl F14)) (by rw [e5] at X14; exact X14) (H13.wl hp F14)⟩) (fun z4 s14 F14 E14 => ⟨Or.inl rfl, k4 z1 z2 z3 z4 s14 (G13.tr (CG.wl F14)) E14⟩)
  · rw [H.2.1]; exact (iN_lt (b := 9) (by omega) (by decide)).mpr h9
theorem ME.sa {st : St} {k pl x : Nat} (E : ME st k pl) (j : Nat) (v : Int32) : ME (sA st x j v) k pl := E
set_option maxHeartbeats 1000000 in
theorem perM (TK : Tks T n τ) {V : LV} {w i i1 i2 i3 i4 i5 : Nat} (e1 : tE (τ i) = i1) (e2 : tE (τ i1) = i2) (e3 : tE (τ i2) = i3) (e4 : tE (τ i3) = i4) (e5 : tE (τ i4) = i5) (hi : i ≤ n) (h9 : V.1 < 9) {st : St} (X : MT T n τ st i) (H : MV st V) {K : St → Prop}
    (k5 : nOk (τ i1) 0 99 → nOk (τ i2) 0 9 → nOk (τ i3) 0 9 → tS (τ i4) = 59 → ∀ st', MG st st' → MT T n τ st' i5 → MV st' (perV V w (tN (τ i1)) (tN (τ i2)) (tN (τ i3))) → K st')
    (k4 : nOk (τ i1) 0 99 → nOk (τ i2) 0 9 → nOk (τ i3) 0 9 → tS (τ i4) ≠ 59 → ∀ st', MG st st' → ME st' 1 (tB (τ i4)) → K st')
    (k3 : nOk (τ i1) 0 99 → nOk (τ i2) 0 9 → ¬ nOk (τ i3) 0 9 → ∀ st', MG st st' → ME st' (nK (τ i3)) (tB (τ i3)) → K st')
    (k2 : nOk (τ i1) 0 99 → ¬ nOk (τ i2) 0 9 → ∀ st', MG st st' → ME st' (nK (τ i2)) (tB (τ i2)) → K st')
    (k1 : ¬ nOk (τ i1) 0 99 → ∀ st', MG st st' → ME st' (nK (τ i1)) (tB (τ i1)) → K st') : P_X12_sayPerson 58 (iN w) st (fun s => oC 58 12 ∧ P_X12_mark 58 59 s (fun s2 => K s2)) := by
  have l1 : i1 ≤ n := by rw [← e1]; exact (TK.2 i hi).1.2.2.1
  have l2 : i2 ≤ n := by rw [← e2]; exact (TK.2 i1 l1).1.2.2.1
  have l3 : i3 ≤ n := by rw [← e3]; exact (TK.2 i2 l2).1.2.2.1
  have l4 : i4 ≤ n := by rw [← e4]; exact (TK.2 i3 l3).1.2.2.1
  have v5 : vp_in 5 (al 0 62) := iN_vp (j := 5) (by decide) (by decide)
  have c5 : (5 : Int32).toNatClampNeg = 5 := rfl
  have ep : 9 + iN V.1 = iN (9 + V.1) := (iN_add 9 V.1).symm
  have v9 : ∀ x, al 0 x = 18 → vp_in (iN (9 + V.1)) (al 0 x) := fun x e => by rw [e]; exact iN_vp (by omega) (by decide)
  have c9 : (iN (9 + V.1)).toNatClampNeg = 9 + V.1 := iN_cl (by omega)
  have h5 : gA st 62 (5 + 0) = iN V.1 := H.1
  refine ⟨⟨_, rfl⟩, 62, rfl, v5, fun _ => ⟨rfl, fun _ => ⟨⟨_, rfl⟩, s_stepXL TK hi X (fun s2 F2 X2 => ⟨fun _ => ⟨62, rfl, v5, 63, rfl, ?_⟩, fun z => absurd z (by decide)⟩)⟩, fun z => absurd X.2.2.1 z⟩, fun z => ?_⟩
  · rw [e1] at X2
    have H2 := H.wl F2
    have g5 : gA s2 62 (5 : Int32).toNatClampNeg = iN V.1 := H2.1
    rw [g5, ep, c9]
    refine ⟨v9 63 rfl, 64, rfl, ⟨_, rfl⟩, ?_⟩
    -- the row of people as it is filled
    have G3 : MG st (sA s2 63 (9 + V.1) (iN w)) := (MG.wl F2).tr (MG.sa (by decide) (by decide) (by show 9 ≤ 9 + V.1; omega) _)
    have X3 := X2.sa (x := 63) (by decide) (9 + V.1) (iN w)
    have fin : ∀ (s : St) (k pl : Nat) (x : Int32), (0 < k ∧ k < 10) → MG st s → ME s k pl → (∀ st', MG st st' → ME st' k pl → K st') → P_X12_mark 58 59 (sA s 62 5 x) (fun s2 => K s2) := fun s k pl x hk G E h => N_mark (st := sA s 62 5 x) (E.ne hk) (h _ (G.tr (MG.sa (by decide) (by decide) (by decide) _)) E)
    have m63 : ∀ s, (∀ x, gA s x = gA (sA s2 63 (9 + V.1) (iN w)) x) → MV s V ∧ gA s 63 (9 + V.1) = iN w := by
      intro s hs
      obtain ⟨b1, b2, b3, b4, b5, b6, b7, b8, b9, b10⟩ := H2
      refine ⟨⟨by rw [hs, gA_sA_ne (by decide)]; exact b1, by rw [hs, gA_sA_ne (by decide)]; exact b2, by rw [hs, gA_sA_ne (by decide)]; exact b3, by rw [hs, gA_sA_ne (by decide)]; exact b4, by rw [hs, gA_sA_ne (by decide)]; exact b5, fun x hx => ?_, fun b hb => by rw [hs, gA_sA_ne (by decide)]; exact b7 b hb, fun k hk => by rw [hs, gA_sA_ne (by decide)]; exact b8 k hk, fun k hk => by rw [hs, gA_sA_ne (by decide)]; exact b9 k hk, fun k hk => by rw [hs, gA_sA_ne (by decide)]; exact b10 k hk⟩, by rw [hs, gA_sA, upd_same]⟩
      obtain ⟨d1, d2, d3, d4⟩ := b6 x hx
      exact ⟨by rw [hs, gA_sA, upd_ne (by omega)]; exact d1, by rw [hs, gA_sA_ne (by decide)]; exact d2, by rw [hs, gA_sA_ne (by decide)]; exact d3, by rw [hs, gA_sA_ne (by decide)]; exact d4⟩
    refine s_num (a := 0) (b := 99) TK l1 X3 (by decide) (by decide) (fun z1 s4 F4 X4 => ⟨v9 64 rfl, 65, rfl, ⟨_, rfl⟩, ?_⟩) (fun z1 s4 F4 E4 => ⟨v9 64 rfl, 65, rfl, ⟨_, rfl⟩, N_num (st := sA s4 64 (9 + V.1) 0) (E4.ne (nK_b _)) ⟨v9 65 rfl, 66, rfl, ⟨_, rfl⟩, N_num (st := sA (sA s4 64 (9 + V.1) 0) 65 (9 + V.1) 0) (E4.ne (nK_b _)) ⟨v9 66 rfl, 62, rfl, v5, v5, ⟨_, rfl⟩, fin _ _ _ _ (nK_b _) (((((G3.tr (MG.wl F4)).tr (MG.sa (by decide) (by decide) (by show 9 ≤ 9 + V.1; omega) _)).tr (MG.sa (by decide) (by decide) (by show 9 ≤ 9 + V.1; omega) _)).tr (MG.sa (by decide) (by decide) (by show 9 ≤ 9 + V.1; omega) _))) E4 (k1 z1)⟩⟩⟩)
    rw [e2] at X4
    have G4 : MG st (sA s4 64 (9 + V.1) (iN (tN (τ i1)))) := (G3.tr (MG.wl F4)).tr (MG.sa (by decide) (by decide) (by show 9 ≤ 9 + V.1; omega) _)
    have X4 := X4.sa (x := 64) (by decide) (9 + V.1) (iN (tN (τ i1)))
    refine s_num (a := 0) (b := 9) TK l2 X4 (by decide) (by decide) (fun z2 s6 F6 X6 => ⟨v9 65 rfl, 66, rfl, ⟨_, rfl⟩, ?_⟩) (fun z2 s6 F6 E6 => ⟨v9 65 rfl, 66, rfl, ⟨_, rfl⟩, N_num (st := sA s6 65 (9 + V.1) 0) (E6.ne (nK_b _)) ⟨v9 66 rfl, 62, rfl, v5, v5, ⟨_, rfl⟩, fin _ _ _ _ (nK_b _) (((G4.tr (MG.wl F6)).tr (MG.sa (by decide) (by decide) (by show 9 ≤ 9 + V.1; omega) _)).tr (MG.sa (by decide) (by decide) (by show 9 ≤ 9 + V.1; omega) _)) E6 (k2 z1 z2)⟩⟩)
    rw [e3] at X6
    have G6 : MG st (sA s6 65 (9 + V.1) (iN (tN (τ i2)))) := (G4.tr (MG.wl F6)).tr (MG.sa (by decide) (by decide) (by show 9 ≤ 9 + V.1; omega) _)
    have X6 := X6.sa (x := 65) (by decide) (9 + V.1) (iN (tN (τ i2)))
    refine s_num (a := 0) (b := 9) TK l3 X6 (by decide) (by decide) (fun z3 s8 F8 X8 => ⟨v9 66 rfl, 62, rfl, v5, v5, ⟨_, rfl⟩, ?_⟩) (fun z3 s8 F8 E8 => ⟨v9 66 rfl, 62, rfl, v5, v5, ⟨_, rfl⟩, fin _ _ _ _ (nK_b _) ((G6.tr (MG.wl F8)).tr (MG.sa (by decide) (by decide) (by show 9 ≤ 9 + V.1; omega) _)) E8 (k3 z1 z2 z3)⟩)
    rw [e4] at X8
    have G8 : MG st (sA s8 66 (9 + V.1) (iN (tN (τ i3)))) := (G6.tr (MG.wl F8)).tr (MG.sa (by decide) (by decide) (by show 9 ≤ 9 + V.1; omega) _)
    have X8 := X8.sa (x := 66) (by decide) (9 + V.1) (iN (tN (τ i3)))
    have f4 : ∀ x, gA s4 x = gA (sA s2 63 (9 + V.1) (iN w)) x := fun x => F4.eA (fun z => z)
    have f6 : ∀ x, gA s6 x = gA (sA s4 64 (9 + V.1) (iN (tN (τ i1)))) x := fun x => F6.eA (fun z => z)
    have f8 : ∀ x, gA s8 x = gA (sA s6 65 (9 + V.1) (iN (tN (τ i2)))) x := fun x => F8.eA (fun z => z)
    obtain ⟨M4, w4⟩ := m63 s4 f4
    have g9 : gA (sA s8 66 (9 + V.1) (iN (tN (τ i3)))) 62 (5 : Int32).toNatClampNeg = iN V.1 := by
      rw [c5, gA_sA_ne (by decide), f8, gA_sA_ne (by decide), f6, gA_sA_ne (by decide)]; exact M4.1
    rw [g9, iN_s, c5]
    have G9 : MG st (sA (sA s8 66 (9 + V.1) (iN (tN (τ i3)))) 62 5 (iN (V.1 + 1))) := G8.tr (MG.sa (by decide) (by decide) (by decide) _)
    have X9 := X8.sa (x := 62) (by decide) 5 (iN (V.1 + 1))
    have H9 : MV (sA (sA s8 66 (9 + V.1) (iN (tN (τ i3)))) 62 5 (iN (V.1 + 1))) (perV V w (tN (τ i1)) (tN (τ i2)) (tN (τ i3))) := by
      obtain ⟨b1, b2, b3, b4, b5, b6, b7, b8, b9, b10⟩ := M4
      have o : ∀ x, x ≠ 62 → x ≠ 66 → x ≠ 65 → x ≠ 64 → gA (sA (sA s8 66 (9 + V.1) (iN (tN (τ i3)))) 62 5 (iN (V.1 + 1))) x = gA s4 x := fun x y1 y2 y3 y4 => by rw [gA_sA_ne y1, gA_sA_ne y2, f8, gA_sA_ne y3, f6, gA_sA_ne y4]
      have o62 : ∀ j, j ≠ 5 → gA (sA (sA s8 66 (9 + V.1) (iN (tN (τ i3)))) 62 5 (iN (V.1 + 1))) 62 j = gA s4 62 j := fun j hj => by rw [gA_sA, upd_ne hj, gA_sA_ne (by decide), f8, gA_sA_ne (by decide), f6, gA_sA_ne (by decide)]
      have lo : ∀ j, j ≠ 2 + 4 * V.1 → j ≠ 2 + 4 * V.1 + 1 → j ≠ 2 + 4 * V.1 + 2 → lvC (perV V w (tN (τ i1)) (tN (τ i2)) (tN (τ i3))) j = lvC V j := fun j y1 y2 y3 => by
        show upd (upd (upd (lvC V) _ _) _ _) _ _ j = _
        rw [upd_ne y3, upd_ne y2, upd_ne y1]
      refine ⟨by rw [gA_sA, upd_same]; rfl, by rw [o62 6 (by decide)]; exact b2, by rw [o62 7 (by decide)]; exact b3, by rw [o62 8 (by decide)]; exact b4, by rw [o62 9 (by decide)]; exact b5, fun x hx => ?_, fun b hb => by rw [o 67 (by decide) (by decide) (by decide) (by decide), lo _ (by omega) (by omega) (by omega)]; exact b7 b hb, fun k hk => by rw [o 68 (by decide) (by decide) (by decide) (by decide), lo _ (by omega) (by omega) (by omega)]; exact b8 k hk, fun k hk => by rw [o 69 (by decide) (by decide) (by decide) (by decide)]; exact b9 k hk, fun k hk => by rw [o 70 (by decide) (by decide) (by decide) (by decide)]; exact b10 k hk⟩
      have hx : x < V.1 + 1 := hx
      have a66 : gA (sA (sA s8 66 (9 + V.1) (iN (tN (τ i3)))) 62 5 (iN (V.1 + 1))) 66 = upd (gA s4 66) (9 + V.1) (iN (tN (τ i3))) := by rw [gA_sA_ne (by decide), gA_sA, f8, gA_sA_ne (by decide), f6, gA_sA_ne (by decide)]
      have a65 : gA (sA (sA s8 66 (9 + V.1) (iN (tN (τ i3)))) 62 5 (iN (V.1 + 1))) 65 = upd (gA s4 65) (9 + V.1) (iN (tN (τ i2))) := by rw [gA_sA_ne (by decide), gA_sA_ne (by decide), f8, gA_sA, f6, gA_sA_ne (by decide)]
      have a64 : gA (sA (sA s8 66 (9 + V.1) (iN (tN (τ i3)))) 62 5 (iN (V.1 + 1))) 64 = upd (gA s4 64) (9 + V.1) (iN (tN (τ i1))) := by rw [gA_sA_ne (by decide), gA_sA_ne (by decide), f8, gA_sA_ne (by decide), f6, gA_sA]
      rw [o 63 (by decide) (by decide) (by decide) (by decide), a64, a65, a66]
      show gA s4 63 (9 + x) = upd V.2.2.2.1 V.1 (iN w) x ∧ upd (gA s4 64) (9 + V.1) (iN (tN (τ i1))) (9 + x) = upd (upd (upd (lvC V) (2 + 4 * V.1) (iN (tN (τ i1)))) (2 + 4 * V.1 + 1) (iN (tN (τ i2)))) (2 + 4 * V.1 + 2) (iN (tN (τ i3))) (2 + 4 * x) ∧ upd (gA s4 65) (9 + V.1) (iN (tN (τ i2))) (9 + x) = upd (upd (upd (lvC V) (2 + 4 * V.1) (iN (tN (τ i1)))) (2 + 4 * V.1 + 1) (iN (tN (τ i2)))) (2 + 4 * V.1 + 2) (iN (tN (τ i3))) (2 + 4 * x + 1) ∧ upd (gA s4 66) (9 + V.1) (iN (tN (τ i3))) (9 + x) = upd (upd (upd (lvC V) (2 + 4 * V.1) (iN (tN (τ i1)))) (2 + 4 * V.1 + 1) (iN (tN (τ i2)))) (2 + 4 * V.1 + 2) (iN (tN (τ i3))) (2 + 4 * x + 2)
      by_cases e : x = V.1
      · rw [e, upd_same, upd_same, upd_same, upd_same, upd_same, upd_ne (by omega), upd_ne (by omega), upd_same, upd_ne (by omega), upd_same]
        exact ⟨w4, rfl, rfl, rfl⟩
      · obtain ⟨d1, d2, d3, d4⟩ := b6 x (by omega)
        rw [upd_ne e, upd_ne (by omega), upd_ne (by omega), upd_ne (by omega), upd_ne (by omega), upd_ne (by omega), upd_ne (by omega), upd_ne (by omega), upd_ne (by omega), upd_ne (by omega), upd_ne (by omega), upd_ne (by omega), upd_ne (by omega)]
        exact ⟨d1, d2, d3, d4⟩
    exact s_markL TK l4 X9 (by decide) (fun z4 s10 F10 X10 => k5 z1 z2 z3 z4 s10 (G9.tr (MG.wl F10)) (by rw [e5] at X10; exact X10) (H9.wl F10)) (fun z4 s10 F10 E10 => k4 z1 z2 z3 z4 s10 (G9.tr (MG.wl F10)) E10)
  · have z : gA st 62 5 = iN 9 := z
    rw [H.1] at z
    have := (iN_eq (by omega) (by decide)).mp z
    omega
end L2
