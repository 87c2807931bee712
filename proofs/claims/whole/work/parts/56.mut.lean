/-! PURE: the book changes -/
def setb (v : AV) (b : Bk) : AV := (v.1, b, v.2.2)
def setc (v : AV) (c : Nat → Int32) : AV := (v.1, (c, v.2.1.2), v.2.2)
def pushB (b : Bk) : Bk := (b.1, pushA b.2.1.1 b.2.1.2 b.1, b.2.2)
def rfB (b : Bk) (k : Nat) : Bk := (b.1, b.2.1, b.2.2.1, upd b.2.2.2 k (b.2.2.2 k + 1))
theorem DSt.fx {I : Nat → Nat → Prop} {S : Nat → Prop} {a b : St} (h : Fx I S a b) (hI : ∀ o k, I o k → o < 34 ∨ 58 ≤ o) (hS : nPl S) {d p : Nat} {q : PD} (D : DSt a d p q) : DSt b d p q := by
  obtain ⟨h1, h2, h3, h4, h5, h6, h7, h8, h9⟩ := D
  have n1 : ∀ k, ¬ I p k := fun k z => by have := hI _ _ z; rcases h2 with rfl | rfl <;> omega
  have n2 : ∀ k, ¬ I (ch p 3) k := fun k z => by
    have := hI _ _ z
    have : ch p 3 = 42 ∨ ch p 3 = 50 := by rcases h2 with rfl | rfl <;> decide
    omega
  have n3 : ∀ k, ¬ I (ch p 4) k := fun k z => by
    have := hI _ _ z
    have : ch p 4 = 45 ∨ ch p 4 = 53 := by rcases h2 with rfl | rfl <;> decide
    omega
  have e : pdOf b p = pdOf a p := by
    unfold pdOf rlOf
    rw [h.eI (n1 _), h.eI (n1 _), h.eI (n2 _), h.eI (n2 _), h.eI (n3 _), h.eI (n3 _), h.eA (hS.1 p h2), h.eA (hS.2 _ (pl_rw h2)), h.eA (hS.2 _ (pl_rm h2))]
  exact ⟨h1, h2, by rw [h.eR]; exact h3, e.trans h4, by rw [h.eI (n1 _)]; exact h5, by rw [h.eI (n1 _)]; exact h6, by rw [h.eI (n2 _)]; exact h7, by rw [h.eI (n3 _)]; exact h8, h9⟩
def SBk (a : Nat) : Prop := (4 ≤ a ∧ a ≤ 15) ∨ ScC a
theorem npl_sbk : nPl SBk := by
  refine ⟨fun p hp => ?_, fun r hr => ?_⟩
  · rcases hp with rfl | rfl <;> unfold SBk ScC <;> decide
  · rcases hr with rfl | rfl | rfl | rfl <;> unfold SBk ScC <;> decide
theorem BkC.fx14 {I : Nat → Nat → Prop} {S : Nat → Prop} {a b : St} (h : Fx I S a b) (hI : ∀ o k, I o k → o = 7 ∨ o = 9) (hS : ∀ x, S x → SBk x) {v : Bk} (B : BkC a 14 v) : BkC b 14 v := by
  obtain ⟨h1, ⟨f, f1, f2, f3, f4⟩, h3, h4, h5⟩ := B
  have eA : ∀ x, 18 ≤ x → x ≤ 29 → x ≠ 19 → x ≠ 20 → gA b x = gA a x := fun x q1 q2 q3 q4 => h.eA (fun z => by have := hS x z; unfold SBk ScC at this; omega)
  have eI : ∀ o k, 18 ≤ o → gI b o k = gI a o k := fun o k q => h.eI (fun z => by have := hI o k z; omega)
  exact ⟨by rw [eA _ (by decide) (by decide) (by decide) (by decide)]; exact h1, ⟨f, f1, by rw [eI _ _ (by decide)]; exact f2, by rw [eI _ _ (by decide)]; exact f3, fun k hk => by rw [eA _ (by decide) (by decide) (by decide) (by decide)]; exact f4 k hk⟩, by rw [eI _ _ (by decide)]; exact h3, fun i hi k hk => by rw [eA _ (by omega) (by omega) (by omega) (by omega)]; exact h4 i hi k hk, fun k hk => by rw [eA _ (by decide) (by decide) (by decide) (by decide)]; exact h5 k hk⟩
theorem InvC.book {I : Nat → Nat → Prop} {S : Nat → Prop} {a b : St} (h : Fx I S a b) (hI : ∀ o k, I o k → o = 7 ∨ o = 9) (hS : ∀ x, S x → SBk x) {v : AV} (H : InvC a v) {w : Bk} (B : BkC b 0 w) : CFr a b ∧ InvC b (setb v w) := by
  refine ⟨h.cfr (fun o k z => by have := hI o k z; omega) (fun x z => by have := hS x z; unfold SBk ScC at this; omega), ?_⟩
  obtain ⟨p, p', h1, h2, h3, h4, ⟨pt, h5, h5'⟩, ⟨pp, h6, h6'⟩, h7, h8, h9, h10, h11, h12⟩ := H
  have n0 : ∀ k, ¬ I 0 k := fun k z => by have := hI _ _ z; omega
  have nS : ∀ x, ¬ SBk x → ¬ S x := fun x q z => q (hS x z)
  refine ⟨p, p', h1.fx h (fun o k z => by have := hI o k z; omega) ⟨fun p hp z => npl_sbk.1 p hp (hS _ z), fun r hr z => npl_sbk.2 r hr (hS _ z)⟩, h2, h3, by rw [h.eR]; exact h4, ⟨pt, h5, by rw [h.eR]; exact h5'⟩, ⟨pp, h6, by rw [h.eR]; exact h6'.1, by rw [h.eA (nS 18 (by unfold SBk ScC; decide))]; exact h6'.2⟩, B, fun e => by rw [h.eI (n0 _)]; exact h8 e, fun w2 e => ?_, by rw [h.eI (n0 _)]; exact h10, fun j hj => by rw [h.eA (nS 1 (by unfold SBk ScC; decide))]; exact h11 j hj, by rw [h.eI (n0 _)]; exact h12⟩
  obtain ⟨q1, q2, q3⟩ := h9 w2 e
  exact ⟨by rw [h.eI (n0 _)]; exact q1, by rw [h.eR]; exact q2, q3.fx14 h hI hS⟩
theorem InvC.B {st : St} {v : AV} (H : InvC st v) : BkC st 0 v.2.1 := by obtain ⟨p, p', _, _, _, _, _, _, B, _⟩ := H; exact B
theorem keepC {st : St} {v : AV} (H : InvC st v) (HO : AvOk v) {post : St → Prop} (h : ∀ st1, CFr st st1 → InvC st1 (setb v (pushB v.2.1)) → post st1) : P_X1_keepAct 2 st post := by
  obtain ⟨B1, B2, B3, B4, B5⟩ := H.B
  have B1 : gA st 4 = v.2.1.1 := B1
  refine ⟨7, rfl, 3, rfl, 4, rfl, ⟨_, rfl⟩, s_push HO.2.2.1.2.1 B2 (fun j hj => by rw [B1]; exact HO.2.2.1.1.2.1 j hj) (fun st1 hF hA => ?_)⟩
  have nA : ∀ x, x ≠ 8 → gA st1 x = gA st x := fun x q => hF.eA q
  obtain ⟨c1, c2⟩ := H.book (w := pushB v.2.1) hF (fun o k z => Or.inl z.1) (fun x z => Or.inl (by rw [z]; decide)) ⟨by rw [nA _ (by decide)]; exact B1, by rw [B1] at hA; exact hA, by rw [hF.eI (by unfold Iac; decide)]; exact B3, fun i hi k hk => by rw [nA _ (by omega)]; exact B4 i hi k hk, fun k hk => by rw [nA _ (by decide)]; exact B5 k hk⟩
  exact h st1 c1 c2
theorem InvC.sc {st : St} {v : AV} (H : InvC st v) (j : Nat) (x : Int32) : CFr st (sA st 4 j x) ∧ InvC (sA st 4 j x) (setc v (upd v.2.1.1 j x)) := by
  obtain ⟨B1, B2, B3, B4, B5⟩ := H.B
  have B1 : gA st 4 = v.2.1.1 := B1
  have hF : Fx noI S4 st (sA st 4 j x) := Fx.sa (S := S4) rfl j x
  have nA : ∀ y, y ≠ 4 → gA (sA st 4 j x) y = gA st y := fun y q => gA_sA_ne q
  refine H.book (w := (upd v.2.1.1 j x, v.2.1.2)) hF (fun o k z => z.elim) (fun y z => Or.inl (by rw [z]; decide)) ⟨?_, ?_, B3, fun i hi k hk => by rw [nA _ (by omega)]; exact B4 i hi k hk, fun k hk => by rw [nA _ (by decide)]; exact B5 k hk⟩
  · show gA (sA st 4 j x) 4 = _
    rw [gA_sA, B1]
  · obtain ⟨f, f1, f2, f3, f4⟩ := B2
    exact ⟨f, f1, f2, f3, fun k hk => by rw [nA _ (by decide)]; exact f4 k hk⟩
theorem refuseC {st : St} {v : AV} (H : InvC st v) {k : Nat} (hk : k < 3) {post : Int32 → St → Prop} (h : ∀ st1, CFr st st1 → InvC st1 (setb v (rfB v.2.1 k)) → post (-1) st1) : P_X11_refuse 0 (iN k) st post := by
  obtain ⟨B1, B2, B3, B4, B5⟩ := H.B
  have B5 : ∀ k, k < 3 → gA st 15 k = v.2.1.2.2.2 k := B5
  have vk : vp_in (iN k) (al 0 15) := (show vp_in (iN k) 3 from iN_vp hk (by decide))
  refine ⟨2, rfl, 15, rfl, vk, vk, ?_⟩
  rw [iN_cl (by omega)]
  have hF : Fx noI (fun y => y = 15) st (sA st 15 k (gA st 15 k + 1)) := Fx.sa (S := fun y => y = 15) rfl _ _
  have nA : ∀ y, y ≠ 15 → gA (sA st 15 k (gA st 15 k + 1)) y = gA st y := fun y q => gA_sA_ne q
  obtain ⟨c1, c2⟩ := H.book (w := rfB v.2.1 k) hF (fun o k z => z.elim) (fun y z => Or.inl (by rw [z]; decide)) ⟨by rw [nA _ (by decide)]; exact B1, by obtain ⟨f, f1, f2, f3, f4⟩ := B2; exact ⟨f, f1, f2, f3, fun k hk => by rw [nA _ (by decide)]; exact f4 k hk⟩, B3, fun i hi k hk => by rw [nA _ (by omega)]; exact B4 i hi k hk, fun i hi => by
    show gA (sA st 15 k _) 15 i = upd _ _ _ i
    rw [gA_sA, B5 k hk]
    by_cases e : i = k
    · subst e; rw [upd_same, upd_same]
    · rw [upd_ne e, upd_ne e]; exact B5 i hi⟩
  exact h _ c1 c2
/-! the reference -/
theorem InvM.mc {I : Nat → Nat → Prop} {S : Nat → Prop} {a b : St} (h : Fx I S a b) (hI : ∀ o k, I o k → IMd o k ∨ IcM o k) (hS : ∀ x, S x → isM x ∨ ScM x) {v : AV} (H : InvM a v) {c : Nat → Int32} (hc : mC v.1.2.1 b = c) : MFr a b ∧ InvM b (setc v c) := by
  have eA : ∀ x, ¬ isM x → ¬ ScM x → gA b x = gA a x := fun x q1 q2 => h.eA (fun z => (hS x z).elim q1 q2)
  have eI : ∀ k, ¬ (k = 36 ∨ k = 37) → ¬ IcM 58 k → gI b 58 k = gI a 58 k := fun k q1 q2 => h.eI (fun z => (hI _ _ z).elim (fun y => q1 y.2) q2)
  refine ⟨h.mfr (fun o k z => ?_) (fun x z => ?_), ?_⟩
  · rcases hI o k z with y | y
    · rw [y.1]; decide
    · rw [y.1]; decide
  · rcases hS x z with y | y
    · unfold isM at y; omega
    · unfold ScM at y; omega
  obtain ⟨h1, ⟨b1, b2, b3, b4, b5, b6⟩, h3, h4, h5, h6, h7⟩ := H
  have n62 : nMP S := ⟨fun z => (hS _ z).elim (by unfold isM; decide) (by unfold ScM; decide), fun z => (hS _ z).elim (by unfold isM; decide) (by unfold ScM; decide), fun z => (hS _ z).elim (by unfold isM; decide) (by unfold ScM; decide), fun z => (hS _ z).elim (by unfold isM; decide) (by unfold ScM; decide)⟩
  refine ⟨h1.fx h n62, ⟨hc, by rw [eI 38 (by decide) (by unfold IcM; decide)]; exact b2, fun k hk => by rw [eA 81 (by unfold isM; decide) (by unfold ScM; decide)]; exact b3 k hk, by rw [eI 39 (by decide) (by unfold IcM; decide)]; exact b4, fun i hi k hk => by rw [eA _ (mseN_s k hk).2 (mseN_s k hk).1]; exact b5 i hi k hk, fun k hk => by rw [eA 71 (by unfold isM; decide) (by unfold ScM; decide)]; exact b6 k hk⟩, fun e => by rw [eI 58 (by decide) (by unfold IcM; decide)]; exact h3 e, fun w e => ?_, by rw [eI 16 (by decide) (by unfold IcM; decide)]; exact h5, fun j hj => by rw [eA 72 (by unfold isM; decide) (by unfold ScM; decide)]; exact h6 j hj, by rw [eI 25 (by decide) (by unfold IcM; decide)]; exact h7.1, h7.2.cg (eA 93 (by unfold isM; decide) (by unfold ScM; decide)) (eA 105 (by unfold isM; decide) (by unfold ScM; decide))⟩
  obtain ⟨q1, t1, t2, t3, t4, t5, t6⟩ := h4 w e
  exact ⟨by rw [eI 58 (by decide) (by unfold IcM; decide)]; exact q1, by rw [eA 98 (by unfold isM; decide) (by unfold ScM; decide)]; exact t1, by rw [eI 59 (by decide) (by unfold IcM; decide)]; exact t2, fun k hk => by rw [eA 99 (by unfold isM; decide) (by unfold ScM; decide)]; exact t3 k hk, by rw [eI 60 (by decide) (by unfold IcM; decide)]; exact t4, fun i hi k hk => by rw [eA _ (mseT_s k hk).2 (mseT_s k hk).1]; exact t5 i hi k hk, fun k hk => by rw [eA 104 (by unfold isM; decide) (by unfold ScM; decide)]; exact t6 k hk⟩
/-- acts and refused change -/
theorem InvM.bk {I : Nat → Nat → Prop} {S : Nat → Prop} {a b : St} (h : Fx I S a b) (hI : ∀ o k, I o k → o = 58 ∧ (k = 38 ∨ k = 39)) (hS : ∀ x, S x → x = 81 ∨ x = 71 ∨ (88 ≤ x ∧ x ≤ 91) ∨ x = 93) {v : AV} (H : InvM a v) {w : Bk} (B : BkM b v.1.2.1 w) (ho : Bo b) : MFr a b ∧ InvM b (setb v w) := by
  have eA : ∀ x, ¬ (x = 81 ∨ x = 71 ∨ (88 ≤ x ∧ x ≤ 91) ∨ x = 93) → gA b x = gA a x := fun x q1 => h.eA (fun z => q1 (hS x z))
  have eI : ∀ k, ¬ (k = 38 ∨ k = 39) → gI b 58 k = gI a 58 k := fun k q1 => h.eI (fun z => q1 (hI _ _ z).2)
  refine ⟨h.mfr (fun o k z => by have := hI o k z; omega) (fun x z => by have := hS x z; omega), ?_⟩
  obtain ⟨h1, _, h3, h4, h5, h6, h7⟩ := H
  refine ⟨h1.fx h ⟨fun z => by have := hS _ z; omega, fun z => by have := hS _ z; omega, fun z => by have := hS _ z; omega, fun z => by have := hS _ z; omega⟩, B, fun e => by rw [eI 58 (by decide)]; exact h3 e, fun w e => ?_, by rw [eI 16 (by decide)]; exact h5, fun j hj => by rw [eA 72 (by decide)]; exact h6 j hj, by rw [eI 25 (by decide)]; exact h7.1, ho⟩
  obtain ⟨q1, t1, t2, t3, t4, t5, t6⟩ := h4 w e
  have mT : ∀ k, k < 5 → ¬ (mseT k = 81 ∨ mseT k = 71 ∨ (88 ≤ mseT k ∧ mseT k ≤ 91) ∨ mseT k = 93) := by decide
  exact ⟨by rw [eI 58 (by decide)]; exact q1, by rw [eA 98 (by decide)]; exact t1, by rw [eI 59 (by decide)]; exact t2, fun k hk => by rw [eA 99 (by decide)]; exact t3 k hk, by rw [eI 60 (by decide)]; exact t4, fun i hi k hk => by rw [eA _ (mT k hk)]; exact t5 i hi k hk, fun k hk => by rw [eA 104 (by decide)]; exact t6 k hk⟩
theorem keepM {st : St} {v : AV} (H : InvM st v) (HO : AvOk v) {post : St → Prop} (h : ∀ st1, MFr st st1 → InvM st1 (setb v (pushB v.2.1)) → gI st1 58 4 = gI st 58 4 → post st1) : P_X12_keep 58 st post := by
  obtain ⟨b1, b2, b3, b4, b5, b6⟩ := H.2.1
  refine s_keep HO.2.2.1.2.1 b2 b3 (fun st1 hF e hr => ?_)
  rw [b1] at e hr
  have nA : ∀ x, x ≠ 81 → gA st1 x = gA st x := fun x q => hF.eA q
  have nI : ∀ k, k ≠ 38 → gI st1 58 k = gI st 58 k := fun k q => hF.eI (fun z => q z.2)
  have em : mC v.1.2.1 st1 = v.2.1.1 := (mC_fx hF (by unfold Imk; decide) (by unfold Imk; decide) (fun x hx => by rw [hx]; unfold isM; decide) _).trans b1
  have mN : ∀ k, k < 5 → mseN k ≠ 81 := by decide
  obtain ⟨c1, c2⟩ := H.bk (w := pushB v.2.1) hF (fun o k z => ⟨z.1, Or.inl z.2⟩) (fun x z => Or.inl z) ⟨em, e, hr, by rw [nI 39 (by decide)]; exact b4, fun i hi k hk => by rw [nA _ (mN k hk)]; exact b5 i hi k hk, fun k hk => by rw [nA 71 (by decide)]; exact b6 k hk⟩ (H.2.2.2.2.2.2.2.cg (nA 93 (by decide)) (nA 105 (by decide)))
  exact h st1 c1 c2 (nI 4 (by decide))
theorem refuseM {st : St} {v : AV} (H : InvM st v) {k : Nat} (hk : k < 3) {post : Int32 → St → Prop} (h : ∀ st1, MFr st st1 → InvM st1 (setb v (rfB v.2.1 k)) → gI st1 58 4 = gI st 58 4 → post (-1) st1) : P_X12_refuse 58 (iN k) st post := by
  obtain ⟨b1, b2, b3, b4, b5, b6⟩ := H.2.1
  have vk : vp_in (iN k) (al 0 71) := (show vp_in (iN k) 3 from iN_vp hk (by decide))
  refine ⟨71, rfl, vk, vk, ?_⟩
  rw [iN_cl (by omega)]
  have hF : Fx noI (fun y => y = 71) st (sA st 71 k (gA st 71 k + 1)) := Fx.sa (S := fun y => y = 71) rfl _ _
  have nA : ∀ y, y ≠ 71 → gA (sA st 71 k (gA st 71 k + 1)) y = gA st y := fun y q => gA_sA_ne q
  have mN : ∀ k, k < 5 → mseN k ≠ 71 := by decide
  obtain ⟨c1, c2⟩ := H.bk (w := rfB v.2.1 k) hF (fun o k z => z.elim) (fun x z => Or.inr (Or.inl z)) ⟨(mC_sx (by unfold isM; decide)).trans b1, b2, fun k hk => by rw [nA 81 (by decide)]; exact b3 k hk, b4, fun i hi k hk => by rw [nA _ (mN k hk)]; exact b5 i hi k hk, fun i hi => by
    show gA (sA st 71 k _) 71 i = upd _ _ _ i
    rw [gA_sA, b6 k hk]
    by_cases e : i = k
    · subst e; rw [upd_same, upd_same]
    · rw [upd_ne e, upd_ne e]; exact b6 i hi⟩ (H.2.2.2.2.2.2.2.cg (nA 93 (by decide)) (nA 105 (by decide)))
  exact h _ c1 c2 rfl
/-! what stays right -/
theorem AvOk.rf {v : AV} (h : AvOk v) (k : Nat) : AvOk (setb v (rfB v.2.1 k)) := h
theorem AvOk.push {v : AV} (h : AvOk v) : AvOk (setb v (pushB v.2.1)) := by
  obtain ⟨h1, h2, ⟨b1, b2, b3, b4, b5⟩, h4⟩ := h
  refine ⟨h1, h2, ⟨b1, ?_, ?_, b4, b5⟩, h4⟩
  · show (pushA v.2.1.2.1.1 v.2.1.2.1.2 v.2.1.1).1 ≤ 40
    unfold pushA
    split
    · exact Nat.le_refl _
    · rename_i hc
      show v.2.1.2.1.1 + 1 ≤ 40
      omega
  · show ∀ k, k < (pushA v.2.1.2.1.1 v.2.1.2.1.2 v.2.1.1).1 → CB v.1 ((pushA v.2.1.2.1.1 v.2.1.2.1.2 v.2.1.1).2 k)
    unfold pushA
    split
    · rename_i hc
      intro k hk
      have hk : k < 40 := hk
      show CB v.1 (if k = 39 then v.2.1.1 else v.2.1.2.1.2 (k + 1))
      split
      · exact b1
      · exact b3 _ (by omega)
    · rename_i hc
      intro k hk
      have hk : k < v.2.1.2.1.1 + 1 := hk
      show CB v.1 (if k = v.2.1.2.1.1 then v.2.1.1 else v.2.1.2.1.2 k)
      split
      · exact b1
      · exact b3 _ (by omega)
theorem AvOk.sc {v : AV} (h : AvOk v) {c : Nat → Int32} (hc : CB v.1 c) : AvOk (setc v c) := by
  obtain ⟨h1, h2, ⟨b1, b2⟩, h4⟩ := h
  exact ⟨h1, h2, ⟨hc, b2⟩, h4⟩
/-- a person's or a bride's own number changes -/
theorem CB.irr {q : PD} (hq : PDok q) {c : Nat → Int32} {j : Nat} {x : Int32} (hj : irr j) (h0 : j ≠ 0) (h : CB q c) : CB q (upd c j x) := by
  obtain ⟨h1, h2, h3, h4, h5⟩ := h
  refine ⟨CI_irr hq hj h1, fun i hi => ?_, ?_, fun b hb => ?_, fun b hb hh => ?_⟩
  · rw [upd_ne (by have := hj.1; omega)]; exact h2 i hi
  · rw [upd_ne (Ne.symm h0)]; exact h3
  · rw [upd_ne (by have := hj.1; omega)]; exact h4 b hb
  · rw [upd_ne (by have := hj.1; omega)] at hh
    rw [upd_ne (Ne.symm h0), upd_ne (by have := hj.1; omega)]; exact h5 b hb hh
