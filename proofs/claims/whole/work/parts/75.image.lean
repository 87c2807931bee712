/-! PURE: image, restore: both sides -/
theorem DSt.cg {a b : St} {d p : Nat} {q : PD} (hI : ∀ o k, 40 ≤ o → o ≤ 55 → gI b o k = gI a o k) (hA : ∀ x, 40 ≤ x → x ≤ 55 → gA b x = gA a x) (hR : gR b d 0 = some p) (D : DSt a 3 p q) (hd : isDa d) : DSt b d p q := by
  obtain ⟨_, h2, _, h4, h5, h6, h7, h8, h9⟩ := D
  have l : (40 ≤ p ∧ p ≤ 55) ∧ (40 ≤ ch p 2 ∧ ch p 2 ≤ 55) ∧ (40 ≤ ch p 3 ∧ ch p 3 ≤ 55) ∧ (40 ≤ ch p 4 ∧ ch p 4 ≤ 55) ∧ (40 ≤ ch (ch p 3) 1 ∧ ch (ch p 3) 1 ≤ 55) ∧ (40 ≤ ch (ch p 4) 1 ∧ ch (ch p 4) 1 ≤ 55) := by rcases h2 with rfl | rfl <;> decide
  obtain ⟨l1, l2, l3, l4, l5, l6⟩ := l
  have e : pdOf b p = pdOf a p := by
    unfold pdOf rlOf
    rw [hI _ _ l1.1 l1.2, hI _ _ l1.1 l1.2, hI _ _ l3.1 l3.2, hI _ _ l3.1 l3.2, hI _ _ l4.1 l4.2, hI _ _ l4.1 l4.2, hA _ l2.1 l2.2, hA _ l5.1 l5.2, hA _ l6.1 l6.2]
  exact ⟨hd, h2, hR, e.trans h4, by rw [hI _ _ l1.1 l1.2]; exact h5, by rw [hI _ _ l1.1 l1.2]; exact h6, by rw [hI _ _ l3.1 l3.2]; exact h7, by rw [hI _ _ l4.1 l4.2]; exact h8, h9⟩
theorem AcC.cg {a b : St} {o n : Nat} {ar : Nat → Nat → Int32} (hI : ∀ k, gI b (7 + o) k = gI a (7 + o) k) (hA : gA b (8 + o) = gA a (8 + o)) (A : AcC a o n ar) : AcC b o n ar := by
  obtain ⟨f, f1, f2, f3, f4⟩ := A
  exact ⟨f, f1, by rw [hI]; exact f2, by rw [hI]; exact f3, fun k hk => by rw [hA]; exact f4 k hk⟩
theorem imC {st : St} {v : AV} (H : InvC st v) (HO : AvOk v) {post : St → Prop} (h : ∀ st1, CFr st st1 → InvC st1 (v.1, v.2.1, some v.2.1, v.2.2.2) → post st1) : P_X11_image 0 st post := by
  obtain ⟨p, p', h1, h2, h3, h4, ⟨pt, h5, h5'⟩, ⟨pp, h6, h6', h6z⟩, h7, h8, h9, h10, h11, h12⟩ := H
  have hCB := HO.2.2.1.1
  refine ⟨16, rfl, 2, rfl, ⟨_, rfl⟩, s_bcpI (p := p) (v := v.2.1) h1.2.2.1 h7 (fun j hj => by rw [h6z j hj, hCB.2.1 j hj]) HO.2.2.1.2.2.2.1 (fun i hi => (HO.2.2.1.2.2.2.2 i hi).2.2.2.2) (fun s1 F r1 B1 => ⟨rfl, ?_⟩)⟩
  obtain ⟨fI, fR, fA⟩ := F
  have gi : ∀ o k, o ≠ 21 → o ≠ 23 → ¬ (o = 0 ∧ k = 6) → gI (sI s1 0 6 1) o k = gI st o k := fun o k q1 q2 q3 => by rw [gI_sI_ne q3, fI o k q1 q2]
  have ga : ∀ x, x ≠ 18 → x ≠ 22 → ¬ (24 ≤ x ∧ x ≤ 29) → gA (sI s1 0 6 1) x = gA st x := fun x q1 q2 q3 => fA x q1 q2 q3
  have gr : ∀ o k, ¬ (o = 17 ∧ k = 0) → gR (sI s1 0 6 1) o k = gR st o k := fun o k q => fR o k q
  refine h _ ⟨fun o k q => gi o k (by omega) (by omega) (by omega), fun o k q => gr o k (by omega), fun x q => ga x (by omega) (by omega) (by omega)⟩ ?_
  have b18 : gA (sI s1 0 6 1) 18 = v.2.1.1 := B1.1
  refine ⟨p, p', h1.cg (fun o k q1 q2 => gi o k (by omega) (by omega) (by omega)) (fun x q1 q2 => ga x (by omega) (by omega) (by omega)) (by rw [gr _ _ (by decide)]; exact h1.2.2.1) (Or.inl rfl), h2, h3, by rw [gr _ _ (by decide)]; exact h4, ⟨pt, h5, by rw [gr _ _ (by decide)]; exact h5'⟩, ⟨p, h1.2.1, r1, fun j hj => by rw [b18]; exact hCB.2.1 j hj⟩, ?_, (fun e => by cases e), fun w e => ?_, by rw [gi _ _ (by decide) (by decide) (by decide)]; exact h10, fun j hj => by rw [ga _ (by decide) (by decide) (by decide)]; exact h11 j hj, by rw [gi _ _ (by decide) (by decide) (by decide)]; exact h12⟩
  · obtain ⟨b1, b2, b3, b4, b5⟩ := h7
    exact ⟨by rw [ga _ (by decide) (by decide) (by decide)]; exact b1, b2.cg (fun k => gi _ _ (by decide) (by decide) (by omega)) (ga _ (by decide) (by decide) (by decide)), by rw [gi _ _ (by decide) (by decide) (by decide)]; exact b3, fun i hi k hk => by rw [ga _ (by omega) (by omega) (by omega)]; exact b4 i hi k hk, fun k hk => by rw [ga _ (by decide) (by decide) (by decide)]; exact b5 k hk⟩
  · have e : v.2.1 = w := by injection e
    subst e
    obtain ⟨b1, b2, b3, b4, b5⟩ := B1
    exact ⟨gI_sI _ _ _ _, r1, b1, b2.cg (fun k => gI_sI_ne (by omega)) rfl, b3, b4, b5⟩
theorem reC {st : St} {v : AV} (H : InvC st v) (HO : AvOk v) {w : Bk} (ew : v.2.2.1 = some w) {post : St → Prop} (h : ∀ st1, CFr st st1 → InvC st1 (v.1, w, some w, v.2.2.2) → post st1) : P_X1_copyFrom 2 16 st post := by
  obtain ⟨p, p', h1, h2, h3, h4, ⟨pt, h5, h5'⟩, ⟨pp, h6, h6', h6z⟩, h7, h8, h9, h10, h11, h12⟩ := H
  obtain ⟨g6, r17, B14⟩ := h9 w ew
  have hCB := HO.2.2.1.1
  have hW := HO.2.2.2.1 w ew
  refine s_bcpR (p := p) (v := w) r17 B14 (fun j hj => ?_) hW.2.2.2.1 (fun i hi => (hW.2.2.2.2 i hi).2.2.2.2) (fun s1 F r1 B1 => ?_)
  · have e4 : gA st 4 = v.2.1.1 := h7.1
    rw [e4, hCB.2.1 j hj, hW.1.2.1 j hj]
  obtain ⟨gi, gr, ga⟩ := F
  refine h _ ⟨fun o k q => gi o k (by omega) (by omega), fun o k q => gr o k (by omega), fun x q => ga x (by omega) (by omega) (by omega)⟩ ?_
  refine ⟨p, p', h1.cg (fun o k q1 q2 => gi o k (by omega) (by omega)) (fun x q1 q2 => ga x (by omega) (by omega) (by omega)) r1 (Or.inl rfl), h2, h3, by rw [gr _ _ (by decide)]; exact h4, ⟨pt, h5, by rw [gr _ _ (by decide)]; exact h5'⟩, ⟨pp, h6, by rw [gr _ _ (by decide)]; exact h6', fun j hj => by rw [ga _ (by decide) (by decide) (by decide)]; exact h6z j hj⟩, B1, (fun e => by cases e), fun w2 e => ?_, by rw [gi _ _ (by decide) (by decide)]; exact h10, fun j hj => by rw [ga _ (by decide) (by decide) (by decide)]; exact h11 j hj, by rw [gi _ _ (by decide) (by decide)]; exact h12⟩
  have e : w = w2 := by injection e
  subst e
  obtain ⟨b1, b2, b3, b4, b5⟩ := B14
  exact ⟨by rw [gi _ _ (by decide) (by decide)]; exact g6, by rw [gr _ _ (by decide)]; exact r17, by rw [ga _ (by decide) (by decide) (by decide)]; exact b1, b2.cg (fun k => gi _ _ (by decide) (by decide)) (ga _ (by decide) (by decide) (by decide)), by rw [gi _ _ (by decide) (by decide)]; exact b3, fun i hi k hk => by rw [ga _ (by omega) (by omega) (by omega)]; exact b4 i hi k hk, fun k hk => by rw [ga _ (by decide) (by decide) (by decide)]; exact b5 k hk⟩
/-! the reference -/
theorem s_copyTo {st : St} {a0 a1 n : Nat} (h0 : al 0 a0 = n) (h1 : al 0 a1 = n) (hn : 0 < n) (hn2 : n < 100000) (hne : a1 ≠ a0) {post : St → Prop} (h : ∀ st1, Ex (Sa a0) st st1 → (∀ j, j < n → gA st1 a0 j = gA st a1 j) → post st1) : P_X12_copyTo a0 a1 st post := by
  refine ⟨n + 1, loop_up (α := Unit) (P := fun m i _ st => P_X12_copyTo_2 a0 a1 post m i st) (N := n) (fun i _ st' => Ex (Sa a0) st st' ∧ ∀ j, j < i → gA st' a0 j = gA st a1 j) ?_ ?_ n 0 () st (by omega) ⟨Ex.rf, fun j hj => absurd hj (Nat.not_lt_zero _)⟩⟩
  · rintro i hi _ st' m ⟨E, r⟩ ih
    show P_X12_copyTo_2 a0 a1 post (m + 1) (iN i) st'
    unfold P_X12_copyTo_2
    rw [h0, h1]
    refine ⟨hn, fun hz => absurd hz (nle (a := n) (by omega) hi), fun _ => ⟨iN_vp hi (by omega), iN_vp hi (by omega), ?_⟩⟩
    rw [iN_cl (by omega), iN_s]
    refine ih () _ ⟨E.tr (Ex.sa (S := Sa a0) rfl _ _), fun j hj => ?_⟩
    rw [gA_sA]
    by_cases e : j = i
    · rw [e, upd_same, E.eA (show ¬ Sa a0 a1 from hne)]
    · rw [upd_ne e]; exact r j (by omega)
  · rintro _ st' m ⟨E, r⟩
    show P_X12_copyTo_2 a0 a1 post (m + 1) (iN n) st'
    unfold P_X12_copyTo_2
    rw [h0]
    exact ⟨hn, fun _ => h st' E r, fun hz => absurd (Int32.le_refl _) hz⟩
theorem s_im92 {st : St} (hb : ∀ j, j < 8 → gA st 93 j = 0 ∨ gA st 93 j = 1) {post : St → Prop} (h : ∀ st1, Ex (fun x => x = 105 ∨ x = 104) st st1 → (∀ j, j < 8 → gA st1 105 j = gA st 93 j) → (∀ j, j < 3 → gA st1 104 j = gA st 71 j) → post st1) : ∃ n8, P_X12_image_92 58 post n8 0 st := by
  refine ⟨9, loop_up (α := Unit) (P := fun m i _ st => P_X12_image_92 58 post m i st) (N := 8) (fun i _ st' => Ex (Sa 105) st st' ∧ ∀ j, j < i → gA st' 105 j = gA st 93 j) ?_ ?_ 8 0 () st (by omega) ⟨Ex.rf, fun j hj => absurd hj (Nat.not_lt_zero _)⟩⟩
  · rintro i hi _ st' m ⟨E, r⟩ ih
    have e93 : gA st' 93 = gA st 93 := E.eA (by unfold Sa; decide)
    have v : vp_in (iN i) 8 := iN_vp hi (by decide)
    show P_X12_image_92 58 post (m + 1) (iN i) st'
    unfold P_X12_image_92
    refine ⟨fun hz => absurd hz (nle (a := 8) (by omega) hi), fun _ => ⟨105, rfl, 93, rfl, v, v, ?_, ?_⟩⟩
    · rw [iN_cl (by omega), e93]; exact hb i hi
    rw [iN_cl (by omega), iN_s]
    refine ih () _ ⟨E.tr (Ex.sa (S := Sa 105) rfl _ _), fun j hj => ?_⟩
    rw [gA_sA]
    by_cases e : j = i
    · rw [e, upd_same, e93]
    · rw [upd_ne e]; exact r j (by omega)
  · rintro _ st' m ⟨E, r⟩
    show P_X12_image_92 58 post (m + 1) (iN 8) st'
    unfold P_X12_image_92
    refine ⟨fun _ => ⟨104, rfl, 71, rfl, s_copyTo (n := 3) rfl rfl (by decide) (by decide) (by decide) (fun s1 E1 r1 => h s1 ((E.wk (fun x z => Or.inl z)).tr (E1.wk (fun x z => Or.inr z))) (fun j hj => ?_) (fun j hj => ?_))⟩, fun hz => absurd (Int32.le_refl _) hz⟩
    · rw [E1.eA (by unfold Sa; decide)]; exact r j hj
    · rw [r1 j hj, E.eA (by unfold Sa; decide)]
theorem s_re96 {st : St} (hb : ∀ j, j < 8 → gA st 105 j = 0 ∨ gA st 105 j = 1) {post : Int32 → St → Prop} (h : ∀ st1, Ex (fun x => x = 93 ∨ x = 71) st st1 → (∀ j, j < 8 → gA st1 93 j = gA st 105 j) → (∀ j, j < 3 → gA st1 71 j = gA st 104 j) → post 1 st1) : ∃ n8, P_X12_restore_96 58 post n8 0 st := by
  refine ⟨9, loop_up (α := Unit) (P := fun m i _ st => P_X12_restore_96 58 post m i st) (N := 8) (fun i _ st' => Ex (Sa 93) st st' ∧ ∀ j, j < i → gA st' 93 j = gA st 105 j) ?_ ?_ 8 0 () st (by omega) ⟨Ex.rf, fun j hj => absurd hj (Nat.not_lt_zero _)⟩⟩
  · rintro i hi _ st' m ⟨E, r⟩ ih
    have e93 : gA st' 105 = gA st 105 := E.eA (by unfold Sa; decide)
    have v : vp_in (iN i) 8 := iN_vp hi (by decide)
    show P_X12_restore_96 58 post (m + 1) (iN i) st'
    unfold P_X12_restore_96
    refine ⟨fun hz => absurd hz (nle (a := 8) (by omega) hi), fun _ => ⟨93, rfl, 105, rfl, v, v, ?_, ?_⟩⟩
    · rw [iN_cl (by omega), e93]; exact hb i hi
    rw [iN_cl (by omega), iN_s]
    refine ih () _ ⟨E.tr (Ex.sa (S := Sa 93) rfl _ _), fun j hj => ?_⟩
    rw [gA_sA]
    by_cases e : j = i
    · rw [e, upd_same, e93]
    · rw [upd_ne e]; exact r j (by omega)
  · rintro _ st' m ⟨E, r⟩
    show P_X12_restore_96 58 post (m + 1) (iN 8) st'
    unfold P_X12_restore_96
    refine ⟨fun _ => ⟨71, rfl, 104, rfl, s_copyTo (n := 3) rfl rfl (by decide) (by decide) (by decide) (fun s1 E1 r1 => h s1 ((E.wk (fun x z => Or.inl z)).tr (E1.wk (fun x z => Or.inr z))) (fun j hj => ?_) (fun j hj => ?_))⟩, fun hz => absurd (Int32.le_refl _) hz⟩
    · rw [E1.eA (by unfold Sa; decide)]; exact r j hj
    · rw [r1 j hj, E.eA (by unfold Sa; decide)]
def IIm (o k : Nat) : Prop := o = 58 ∧ (k = 4 ∨ k = 58 ∨ k = 59 ∨ k = 60)
def SIm (x : Nat) : Prop := 98 ≤ x ∧ x ≤ 105
theorem n98 : ¬ isM 98 := by unfold isM; decide
set_option maxHeartbeats 2000000 in
theorem imM {st : St} {v : AV} (H : InvM st v) (_HO : AvOk v) {post : St → Prop} (h : ∀ st1, MFr st st1 → InvM st1 (v.1, v.2.1, some v.2.1, v.2.2.2) → post st1) : P_X12_image 58 st post := by
  obtain ⟨h1, ⟨b1, b2, b3, b4, b5, b6⟩, h3, h4, h5, h6, h7, hB⟩ := H
  refine ⟨rfl, rfl, rfl, rfl, rfl, rfl, 98, rfl, ⟨_, rfl⟩, ?_⟩
  have F0 : Fx IIm SIm st (sI (sI (sI (sI st 58 4 0) 58 58 1) 58 59 (gI (sI (sI st 58 4 0) 58 58 1) 58 38)) 58 60 (gI (sI (sI (sI st 58 4 0) 58 58 1) 58 59 (gI (sI (sI st 58 4 0) 58 58 1) 58 38)) 58 39)) := (((Fx.si (k := 4) ⟨rfl, Or.inl rfl⟩ _).tr (Fx.si (k := 58) ⟨rfl, Or.inr (Or.inl rfl)⟩ _)).tr (Fx.si (k := 59) ⟨rfl, Or.inr (Or.inr (Or.inl rfl))⟩ _)).tr (Fx.si (k := 60) ⟨rfl, Or.inr (Or.inr (Or.inr rfl))⟩ _)
  have g58 : gI (sI (sI (sI (sI st 58 4 0) 58 58 1) 58 59 (gI (sI (sI st 58 4 0) 58 58 1) 58 38)) 58 60 (gI (sI (sI (sI st 58 4 0) 58 58 1) 58 59 (gI (sI (sI st 58 4 0) 58 58 1) 58 38)) 58 39)) 58 58 = 1 := by rw [gI_sI_ne (by decide), gI_sI_ne (by decide), gI_sI]
  have g59 : gI (sI (sI (sI (sI st 58 4 0) 58 58 1) 58 59 (gI (sI (sI st 58 4 0) 58 58 1) 58 38)) 58 60 (gI (sI (sI (sI st 58 4 0) 58 58 1) 58 59 (gI (sI (sI st 58 4 0) 58 58 1) 58 38)) 58 39)) 58 59 = iN v.2.1.2.1.1 := by rw [gI_sI_ne (by decide), gI_sI, gI_sI_ne (by decide), gI_sI_ne (by decide)]; exact b2
  have g60 : gI (sI (sI (sI (sI st 58 4 0) 58 58 1) 58 59 (gI (sI (sI st 58 4 0) 58 58 1) 58 38)) 58 60 (gI (sI (sI (sI st 58 4 0) 58 58 1) 58 59 (gI (sI (sI st 58 4 0) 58 58 1) 58 38)) 58 39)) 58 60 = iN v.2.1.2.2.1.1 := by rw [gI_sI, gI_sI_ne (by decide), gI_sI_ne (by decide), gI_sI_ne (by decide)]; exact b4
  generalize sI (sI (sI (sI st 58 4 0) 58 58 1) 58 59 (gI (sI (sI st 58 4 0) 58 58 1) 58 38)) 58 60 (gI (sI (sI (sI st 58 4 0) 58 58 1) 58 59 (gI (sI (sI st 58 4 0) 58 58 1) 58 38)) 58 39) = s0 at *
  have fw : ∀ {x : Nat} {a b : St}, 98 ≤ x → x ≤ 105 → Ex (Sa x) a b → Fx IIm SIm a b := fun q1 q2 E => E.fw (fun y z => by rw [z]; exact ⟨q1, q2⟩)
  refine s_packT rfl n98 (fun s1 E1 H1 => ⟨99, rfl, 81, rfl, s_copyTo (n := 4400) rfl rfl (by decide) (by decide) (by decide) (fun s2 E2 r2 => ⟨100, rfl, 88, rfl, s_copyTo (n := 8) rfl rfl (by decide) (by decide) (by decide) (fun s3 E3 r3 => ⟨101, rfl, 89, rfl, s_copyTo (n := 8) rfl rfl (by decide) (by decide) (by decide) (fun s4 E4 r4 => ⟨102, rfl, 90, rfl, s_copyTo (n := 8) rfl rfl (by decide) (by decide) (by decide) (fun s5 E5 r5 => ⟨103, rfl, 91, rfl, s_copyTo (n := 8) rfl rfl (by decide) (by decide) (by decide) (fun s6 E6 r6 => ?_)⟩)⟩)⟩)⟩)⟩)
  have F1 := F0.tr (fw (by decide) (by decide) E1)
  have F2 := F1.tr (fw (by decide) (by decide) E2)
  have F3 := F2.tr (fw (by decide) (by decide) E3)
  have F4 := F3.tr (fw (by decide) (by decide) E4)
  have F5 := F4.tr (fw (by decide) (by decide) E5)
  have F6 := F5.tr (fw (by decide) (by decide) E6)
  have e93 : gA s6 93 = gA st 93 := F6.eA (by unfold SIm; decide)
  refine s_im92 (fun j hj => by rw [e93]; exact (hB j hj).1) (fun s7 E7 r7 r8 => ?_)
  have F7 : Fx IIm SIm st s7 := F6.tr (E7.fw (fun x z => by rcases z with rfl | rfl <;> unfold SIm <;> decide))
  have sa : ∀ x, x < 98 → gA s7 x = gA st x := fun x q => F7.eA (by unfold SIm; omega)
  have si : ∀ k, k ≠ 4 → k < 58 → gI s7 58 k = gI st 58 k := fun k q1 q2 => F7.eI (by unfold IIm; omega)
  have t7 : ∀ x, x < 104 → gA s7 x = gA s6 x := fun x q => E7.eA (by omega)
  have kI : ∀ k, gI s7 58 k = gI s0 58 k := fun k => by rw [E7.eI, E6.eI, E5.eI, E4.eI, E3.eI, E2.eI, E1.eI]
  have m0 : mC v.1.2.1 s0 = v.2.1.1 := (mC_fx F0 (by unfold IIm; decide) (by unfold IIm; decide) (fun x z y => by unfold SIm at z; unfold isM at y; omega) _).trans b1
  have m7 : mC v.1.2.1 s7 = v.2.1.1 := (mC_fx F7 (by unfold IIm; decide) (by unfold IIm; decide) (fun x z y => by unfold SIm at z; unfold isM at y; omega) _).trans b1
  have e98 : gA s7 98 = gA s1 98 := by rw [t7 _ (by decide), E6.eA (by unfold Sa; decide), E5.eA (by unfold Sa; decide), E4.eA (by unfold Sa; decide), E3.eA (by unfold Sa; decide), E2.eA (by unfold Sa; decide)]
  have e99 : ∀ j, j < 4400 → gA s7 99 j = gA st 81 j := fun j hj => by rw [t7 _ (by decide), E6.eA (by unfold Sa; decide), E5.eA (by unfold Sa; decide), E4.eA (by unfold Sa; decide), E3.eA (by unfold Sa; decide), r2 j hj, F1.eA (by unfold SIm; decide)]
  have e100 : ∀ j, j < 8 → gA s7 100 j = gA st 88 j := fun j hj => by rw [t7 _ (by decide), E6.eA (by unfold Sa; decide), E5.eA (by unfold Sa; decide), E4.eA (by unfold Sa; decide), r3 j hj, F2.eA (by unfold SIm; decide)]
  have e101 : ∀ j, j < 8 → gA s7 101 j = gA st 89 j := fun j hj => by rw [t7 _ (by decide), E6.eA (by unfold Sa; decide), E5.eA (by unfold Sa; decide), r4 j hj, F3.eA (by unfold SIm; decide)]
  have e102 : ∀ j, j < 8 → gA s7 102 j = gA st 90 j := fun j hj => by rw [t7 _ (by decide), E6.eA (by unfold Sa; decide), r5 j hj, F4.eA (by unfold SIm; decide)]
  have e103 : ∀ j, j < 8 → gA s7 103 j = gA st 91 j := fun j hj => by rw [t7 _ (by decide), r6 j hj, F5.eA (by unfold SIm; decide)]
  have e105 : ∀ j, j < 8 → gA s7 105 j = gA st 93 j := fun j hj => by rw [r7 j hj, e93]
  have e104 : ∀ j, j < 3 → gA s7 104 j = gA st 71 j := fun j hj => by rw [r8 j hj, F6.eA (by unfold SIm; decide)]
  refine h s7 (F7.mfr (fun o k z => by rw [z.1]; decide) (fun x z => by unfold SIm at z; omega)) ⟨h1.fx F7 (by unfold nMP SIm; decide), ⟨m7, by rw [si 38 (by decide) (by decide)]; exact b2, fun k hk => by rw [sa 81 (by decide)]; exact b3 k hk, by rw [si 39 (by decide) (by decide)]; exact b4, fun i hi k hk => ?_, fun k hk => by rw [sa 71 (by decide)]; exact b6 k hk⟩, (fun e => by cases e), fun w e => ?_, by rw [si 16 (by decide) (by decide)]; exact h5, fun j hj => by rw [sa 72 (by decide)]; exact h6 j hj, by rw [si 25 (by decide) (by decide)]; exact h7, fun j hj => ⟨by rw [sa 93 (by decide)]; exact (hB j hj).1, by rw [e105 j hj]; exact (hB j hj).1⟩⟩
  · have mN : ∀ k, k < 5 → mseN k < 98 := by decide
    rw [sa _ (mN k hk)]; exact b5 i hi k hk
  · have e : v.2.1 = w := by injection e
    subst e
    have hn8 : v.2.1.2.2.1.1 ≤ 8 := _HO.2.2.1.2.2.2.1
    have hn40 : v.2.1.2.1.1 ≤ 40 := _HO.2.2.1.2.1
    refine ⟨by rw [kI]; exact g58, by rw [e98, H1.row]; exact m0, by rw [kI]; exact g59, fun k hk => ?_, by rw [kI]; exact g60, fun i hi k hk => ?_, fun k hk => by rw [e104 k hk]; exact b6 k hk⟩
    · rw [← b3 k hk]
      exact rowC_cg (fun j hj => e99 _ (by omega))
    · rw [← b5 i hi k hk]
      have hk5 : k = 0 ∨ k = 1 ∨ k = 2 ∨ k = 3 ∨ k = 4 := by omega
      rcases hk5 with rfl | rfl | rfl | rfl | rfl
      · exact e100 i (by omega)
      · exact e101 i (by omega)
      · exact e102 i (by omega)
      · exact e103 i (by omega)
      · exact e105 i (by omega)
theorem c_image {st : St} (hI : Inv st) : P_X11_image 0 st (fun st1 => P_X12_image 58 st1 (fun st2 => Inv st2)) := by
  obtain ⟨v, H, HM, HO⟩ := hI
  refine imC H HO (fun s1 F1 H1 => imM (HM.cfr F1) HO (fun s2 F2 M2 => ⟨_, H1.mfr F2, M2, ?_⟩))
  obtain ⟨o1, o2, o3, o4, o5⟩ := HO
  exact ⟨o1, o2, o3, (fun w e => by have e : v.2.1 = w := by injection e
                                    subst e; exact o3), o5⟩
def IRe (o k : Nat) : Prop := o = 58 ∧ (k = 4 ∨ k = 36 ∨ k = 37 ∨ k = 38 ∨ k = 39)
def SRe (x : Nat) : Prop := x = 71 ∨ (73 ≤ x ∧ x ≤ 81) ∨ (88 ≤ x ∧ x ≤ 91) ∨ x = 93
set_option maxHeartbeats 2000000 in
theorem reM {st : St} {v : AV} (H : InvM st v) (HO : AvOk v) {w : Bk} (ew : v.2.2.1 = some w) {post : Int32 → St → Prop} (h : ∀ st1, MFr st st1 → InvM st1 (v.1, w, some w, v.2.2.2) → post 1 st1) : P_X12_restore 58 st post := by
  obtain ⟨h1, ⟨b1, b2, b3, b4, b5, b6⟩, h3, h4, h5, h6, h7, hB⟩ := H
  obtain ⟨q1, t1, t2, t3, t4, t5, t6⟩ := h4 w ew
  have hW := HO.2.2.2.1 w ew
  refine ⟨rfl, rfl, fun _ => ⟨rfl, rfl, rfl, rfl, 98, rfl, ⟨_, rfl⟩, ?_⟩, fun hz => ?_⟩
  · have F0 : Fx IRe SRe st (sI (sI (sI st 58 4 0) 58 38 (gI (sI st 58 4 0) 58 59)) 58 39 (gI (sI (sI st 58 4 0) 58 38 (gI (sI st 58 4 0) 58 59)) 58 60)) := ((Fx.si (k := 4) ⟨rfl, Or.inl rfl⟩ _).tr (Fx.si (k := 38) ⟨rfl, Or.inr (Or.inr (Or.inr (Or.inl rfl)))⟩ _)).tr (Fx.si (k := 39) ⟨rfl, Or.inr (Or.inr (Or.inr (Or.inr rfl)))⟩ _)
    have g38 : gI (sI (sI (sI st 58 4 0) 58 38 (gI (sI st 58 4 0) 58 59)) 58 39 (gI (sI (sI st 58 4 0) 58 38 (gI (sI st 58 4 0) 58 59)) 58 60)) 58 38 = iN w.2.1.1 := by rw [gI_sI_ne (by decide), gI_sI, gI_sI_ne (by decide)]; exact t2
    have g39 : gI (sI (sI (sI st 58 4 0) 58 38 (gI (sI st 58 4 0) 58 59)) 58 39 (gI (sI (sI st 58 4 0) 58 38 (gI (sI st 58 4 0) 58 59)) 58 60)) 58 39 = iN w.2.2.1.1 := by rw [gI_sI, gI_sI_ne (by decide), gI_sI_ne (by decide)]; exact t4
    have z98 : gA (sI (sI (sI st 58 4 0) 58 38 (gI (sI st 58 4 0) 58 59)) 58 39 (gI (sI (sI st 58 4 0) 58 38 (gI (sI st 58 4 0) 58 59)) 58 60)) 98 = gA st 98 := rfl
    generalize sI (sI (sI st 58 4 0) 58 38 (gI (sI st 58 4 0) 58 59)) 58 39 (gI (sI (sI st 58 4 0) 58 38 (gI (sI st 58 4 0) 58 59)) 58 60) = s0 at *
    have fw : ∀ {x : Nat} {a b : St}, SRe x → Ex (Sa x) a b → Fx IRe SRe a b := fun q E => E.fw (fun y z => by rw [z]; exact q)
    refine s_unpackT rfl n98 (fun s1 E1 H1 => ⟨81, rfl, 99, rfl, s_copyTo (n := 4400) rfl rfl (by decide) (by decide) (by decide) (fun s2 E2 r2 => ⟨88, rfl, 100, rfl, s_copyTo (n := 8) rfl rfl (by decide) (by decide) (by decide) (fun s3 E3 r3 => ⟨89, rfl, 101, rfl, s_copyTo (n := 8) rfl rfl (by decide) (by decide) (by decide) (fun s4 E4 r4 => ⟨90, rfl, 102, rfl, s_copyTo (n := 8) rfl rfl (by decide) (by decide) (by decide) (fun s5 E5 r5 => ⟨91, rfl, 103, rfl, s_copyTo (n := 8) rfl rfl (by decide) (by decide) (by decide) (fun s6 E6 r6 => ?_)⟩)⟩)⟩)⟩)⟩)
    have F1 : Fx IRe SRe st s1 := F0.tr (E1.wk (fun o k z => ⟨z.1, by have := z.2; omega⟩) (fun x z => by unfold isM at z; unfold SRe; omega))
    have F2 := F1.tr (fw (by unfold SRe; decide) E2)
    have F3 := F2.tr (fw (by unfold SRe; decide) E3)
    have F4 := F3.tr (fw (by unfold SRe; decide) E4)
    have F5 := F4.tr (fw (by unfold SRe; decide) E5)
    have F6 := F5.tr (fw (by unfold SRe; decide) E6)
    have e105 : gA s6 105 = gA st 105 := F6.eA (by unfold SRe; decide)
    refine s_re96 (fun j hj => by rw [e105]; exact (hB j hj).2) (fun s7 E7 r7 r8 => ?_)
    have F7 : Fx IRe SRe st s7 := F6.tr (E7.fw (fun x z => by rcases z with rfl | rfl <;> unfold SRe <;> decide))
    have sa : ∀ x, ¬ SRe x → gA s7 x = gA st x := fun x q => F7.eA q
    have si : ∀ k, ¬ (k = 4 ∨ k = 36 ∨ k = 37 ∨ k = 38 ∨ k = 39) → gI s7 58 k = gI st 58 k := fun k q => F7.eI (fun z => q z.2)
    have kI : ∀ k, gI s7 58 k = gI s1 58 k := fun k => by rw [E7.eI, E6.eI, E5.eI, E4.eI, E3.eI, E2.eI]
    have t7 : ∀ x, ¬ (x = 93 ∨ x = 71) → gA s7 x = gA s6 x := fun x q => E7.eA q
    have tM : ∀ x, 73 ≤ x → x ≤ 80 → gA s7 x = gA s1 x := fun x p1 p2 => by rw [t7 _ (by omega), E6.eA (by unfold Sa; omega), E5.eA (by unfold Sa; omega), E4.eA (by unfold Sa; omega), E3.eA (by unfold Sa; omega), E2.eA (by unfold Sa; omega)]
    have m7 : mC v.1.2.1 s7 = w.1 := by
      rw [← t1, ← z98, H1.row]
      unfold mC
      rw [kI, kI, tM 73 (by decide) (by decide), tM 74 (by decide) (by decide), tM 75 (by decide) (by decide), tM 76 (by decide) (by decide), tM 77 (by decide) (by decide), tM 78 (by decide) (by decide), tM 79 (by decide) (by decide), tM 80 (by decide) (by decide)]
    have k38 : gI s7 58 38 = iN w.2.1.1 := by rw [kI, E1.eI (by unfold IMd; decide)]; exact g38
    have k39 : gI s7 58 39 = iN w.2.2.1.1 := by rw [kI, E1.eI (by unfold IMd; decide)]; exact g39
    have e81 : ∀ j, j < 4400 → gA s7 81 j = gA st 99 j := fun j hj => by rw [t7 _ (by decide), E6.eA (by unfold Sa; decide), E5.eA (by unfold Sa; decide), E4.eA (by unfold Sa; decide), E3.eA (by unfold Sa; decide), r2 j hj, F1.eA (by unfold SRe; decide)]
    have e88 : ∀ j, j < 8 → gA s7 88 j = gA st 100 j := fun j hj => by rw [t7 _ (by decide), E6.eA (by unfold Sa; decide), E5.eA (by unfold Sa; decide), E4.eA (by unfold Sa; decide), r3 j hj, F2.eA (by unfold SRe; decide)]
    have e89 : ∀ j, j < 8 → gA s7 89 j = gA st 101 j := fun j hj => by rw [t7 _ (by decide), E6.eA (by unfold Sa; decide), E5.eA (by unfold Sa; decide), r4 j hj, F3.eA (by unfold SRe; decide)]
    have e90 : ∀ j, j < 8 → gA s7 90 j = gA st 102 j := fun j hj => by rw [t7 _ (by decide), E6.eA (by unfold Sa; decide), r5 j hj, F4.eA (by unfold SRe; decide)]
    have e91 : ∀ j, j < 8 → gA s7 91 j = gA st 103 j := fun j hj => by rw [t7 _ (by decide), r6 j hj, F5.eA (by unfold SRe; decide)]
    have e93 : ∀ j, j < 8 → gA s7 93 j = gA st 105 j := fun j hj => by rw [r7 j hj, e105]
    have e71 : ∀ j, j < 3 → gA s7 71 j = gA st 104 j := fun j hj => by rw [r8 j hj, F6.eA (by unfold SRe; decide)]
    have mT : ∀ k, k < 5 → ¬ SRe (mseT k) := by unfold SRe; decide
    refine h s7 (F7.mfr (fun o k z => by rw [z.1]; decide) (fun x z => by unfold SRe at z; omega)) ⟨h1.fx F7 (by unfold nMP SRe; decide), ⟨m7, k38, fun k hk => ?_, k39, fun i hi k hk => ?_, fun k hk => by rw [e71 k hk]; exact t6 k hk⟩, (fun e => by cases e), fun w2 e => ?_, by rw [si 16 (by decide)]; exact h5, fun j hj => by rw [sa 72 (by unfold SRe; decide)]; exact h6 j hj, by rw [si 25 (by decide)]; exact h7, fun j hj => ⟨by rw [e93 j hj]; exact (hB j hj).2, by rw [sa 105 (by unfold SRe; decide)]; exact (hB j hj).2⟩⟩
    · have hk : k < w.2.1.1 := hk
      rw [← t3 k hk]
      have := hW.2.1
      exact rowC_cg (fun j hj => e81 _ (by omega))
    · have hi : i < w.2.2.1.1 := hi
      rw [← t5 i hi k hk]
      have := hW.2.2.2.1
      have hk5 : k = 0 ∨ k = 1 ∨ k = 2 ∨ k = 3 ∨ k = 4 := by omega
      rcases hk5 with rfl | rfl | rfl | rfl | rfl
      · exact e88 i (by omega)
      · exact e89 i (by omega)
      · exact e90 i (by omega)
      · exact e91 i (by omega)
      · exact e93 i (by omega)
    · have e : w = w2 := by injection e
      subst e
      exact ⟨by rw [si 58 (by decide)]; exact q1, by rw [sa 98 (by unfold SRe; decide)]; exact t1, by rw [si 59 (by decide)]; exact t2, fun k hk => by rw [sa 99 (by unfold SRe; decide)]; exact t3 k hk, by rw [si 60 (by decide)]; exact t4, fun i hi k hk => by rw [sa _ (mT k hk)]; exact t5 i hi k hk, fun k hk => by rw [sa 104 (by unfold SRe; decide)]; exact t6 k hk⟩
  · rw [gI_sI_ne (by decide), q1] at hz
    exact absurd hz (by decide)
theorem c_restore {st : St} (hI : Inv st) : P_X11_restore 0 st (fun r1 st1 => P_X12_restore 58 st1 (fun r2 st2 => r1 = r2 ∧ Inv st2)) := by
  obtain ⟨v, H, HM, HO⟩ := hI
  cases ew : v.2.2.1 with
  | none =>
    have g6 : gI st 0 6 = 0 := by obtain ⟨_, _, _, _, _, _, _, _, _, h8, _⟩ := H; exact h8 ew
    obtain ⟨I1, G1, k1⟩ := m_beg HM
    have g58 : gI (sI st 58 4 0) 58 58 = 0 := I1.2.2.1 ew
    exact ⟨rfl, fun hz => absurd g6 hz, fun _ => ⟨rfl, rfl, fun hz => absurd g58 hz, fun _ => ⟨rfl, v, H.mfr G1, I1, HO⟩⟩⟩
  | some w =>
    have g6 : gI st 0 6 = 1 := by obtain ⟨_, _, _, _, _, _, _, _, _, _, h9, _⟩ := H; exact (h9 w ew).1
    refine ⟨rfl, fun _ => ⟨2, rfl, 16, rfl, ⟨_, rfl⟩, reC H HO ew (fun s1 F1 H1 => reM (HM.cfr F1) HO ew (fun s2 F2 M2 => ⟨rfl, _, H1.mfr F2, M2, ?_⟩))⟩, fun hz => ?_⟩
    · obtain ⟨o1, o2, o3, o4, o5⟩ := HO
      have hw := o4 w ew
      exact ⟨o1, o2, hw, (fun w2 e => by have e : w = w2 := by injection e
                                         subst e; exact hw), o5⟩
    · rw [g6] at hz; exact absurd hz (by decide)
