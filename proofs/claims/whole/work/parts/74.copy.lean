/-! PURE: image, restore -/
def Ioo (a o _k : Nat) : Prop := o = a
theorem rowC_cg {nb : Nat} {r r2 : Nat → Int32} (h : ∀ j, j < 110 → r j = r2 j) : rowC nb r = rowC nb r2 := rC_congr (h 0 (by decide)) (h 1 (by decide)) (fun p hp => h _ (by omega)) (fun p hp => h _ (by omega)) (fun p hp => h _ (by omega)) (fun p hp => h _ (by omega)) (fun b hb => h _ (by omega)) (fun b hb => h _ (by omega)) (fun b hb => h _ (by omega)) (fun k hk => h _ (by omega))
theorem s_acpI {st : St} {n : Nat} {ar : Nat → Nat → Int32} (A : AcC st 0 n ar) {post : St → Prop} (h : ∀ st1, Fx (Ioo 21) (Sa 22) st st1 → AcC st1 14 n ar → post st1) : P_X0_copyFrom 21 7 st post := by
  obtain ⟨f, f1, f2, f3, f4⟩ := A
  have F : ∀ g x y, Fx (Ioo 21) (Sa 22) st (sI (sI (sF st 22 g) 21 1 x) 21 2 y) := fun g x y => ((Fx.sf (I := Ioo 21) (S := Sa 22) (a := st) (x := 22) rfl g).tr (Fx.si (I := Ioo 21) (S := Sa 22) (o := 21) (k := 1) rfl x)).tr (Fx.si (I := Ioo 21) (S := Sa 22) (o := 21) (k := 2) rfl y)
  refine ⟨8, rfl, 22, rfl, 22, rfl, by decide, by decide, by decide, by decide, by decide, by decide, by decide, by decide, rfl, rfl, rfl, rfl, h _ (F _ _ _) ⟨f, f1, ?_, ?_, fun k hk => ?_⟩⟩
  · rw [gI_sI_ne (by decide), gI_sI]; exact f2
  · rw [gI_sI, gI_sI_ne (by decide)]; exact f3
  · rw [← f4 k hk]
    funext j
    unfold nrm
    by_cases hj : j < 110
    · rw [if_pos hj, if_pos hj]
      have hm := Nat.mod_lt (f + k) (show 0 < 40 by decide)
      generalize (f + k) % 40 = m at *
      have e4 : (Int32.ofNat (al 0 22)).toNatClampNeg = 4400 := rfl
      have e0 : (0 : Int32).toNatClampNeg = 0 := rfl
      show gA (sF st 22 _) 22 (m * 110 + j) = gA st 8 (m * 110 + j)
      rw [gA_sF, e4, e0, cpy_in (by omega) (by omega)]
      show gA st 8 (0 + (m * 110 + j - 0)) = _
      congr 1; omega
    · rw [if_neg hj, if_neg hj]
theorem s_scpI {st : St} {n : Nat} {E : Nat → Nat → Int32} (hn : n ≤ 8) (B3 : gI st 9 5 = iN n) (B4 : ∀ i, i < n → ∀ k, k < 5 → gA st (9 + 1 + k) i = E i k) (hb : ∀ i, i < n → E i 4 = 0 ∨ E i 4 = 1) {post : St → Prop} (h : ∀ st1, Fx (Ise 23) (Sse 23) st st1 → gI st1 23 5 = iN n → (∀ i, i < n → ∀ k, k < 5 → gA st1 (23 + 1 + k) i = E i k) → post st1) : P_X7_copyFrom 23 9 st post := by
  refine ⟨⟨_, rfl⟩, rfl, n + 1, loop_up (α := Unit) (P := fun m i _ st => P_X7_copyFrom_6 23 9 post m i st) (N := n) (fun i _ st' => Fx (Ise 23) (Sse 23) st st' ∧ gI st' 23 5 = iN i ∧ ∀ j, j < i → ∀ k, k < 5 → gA st' (23 + 1 + k) j = E j k) ?_ ?_ n 0 () _ (by omega) ⟨Fx.si ⟨rfl, rfl⟩ _, gI_sI _ _ _ _, fun j hj => absurd hj (Nat.not_lt_zero _)⟩⟩
  · rintro i hi _ st' m ⟨F, g, r⟩ ih
    have e5 : gI st' 9 5 = iN n := (F.eI (by unfold Ise; decide)).trans B3
    have ea : ∀ k, k < 5 → gA st' (9 + 1 + k) (iN i).toNatClampNeg = E i k := fun k hk => by
      rw [iN_cl (by omega), F.eA (by unfold Sse; omega)]; exact B4 i hi k hk
    have v : vp_in (iN i) 8 := iN_vp (by omega) (by decide)
    show P_X7_copyFrom_6 23 9 post (m + 1) (iN i) st'
    unfold P_X7_copyFrom_6
    refine ⟨rfl, fun hz => ?_, fun _ => ⟨9 + 1, rfl, v, 9 + 2, rfl, v, 9 + 3, rfl, v, 9 + 4, rfl, v, 9 + 5, rfl, v, ⟨_, rfl⟩, ?_⟩⟩
    · rw [e5] at hz; exact absurd hz (nle (by omega) hi)
    have K := s_add (s := 23) (f := E i) (Or.inr rfl) g (by omega) (hb i hi) (post := fun s7 => P_X7_copyFrom_6 23 9 post m (iN i + 1) s7) (by
      rw [iN_s]
      refine ih () _ ⟨F.tr (addS_fx _ _ _ _), addS_5 _ _ _ _, fun j hj k hk => ?_⟩
      rw [addS_A _ _ _ _ hk]
      by_cases e9 : j = i
      · rw [e9, upd_same]
      · rw [upd_ne e9]; exact r j (by omega) k hk)
    have e0 := ea 0 (by decide)
    have e1 := ea 1 (by decide)
    have e2 := ea 2 (by decide)
    have e3 := ea 3 (by decide)
    have e4 := ea 4 (by decide)
    rw [← e0, ← e1, ← e2, ← e3, ← e4] at K
    exact K
  · rintro _ st' m ⟨F, g, r⟩
    have e5 : gI st' 9 5 = iN n := (F.eI (by unfold Ise; decide)).trans B3
    show P_X7_copyFrom_6 23 9 post (m + 1) (iN n) st'
    unfold P_X7_copyFrom_6
    exact ⟨rfl, fun _ => h st' F g r, fun hz => absurd (by rw [e5]; exact Int32.le_refl _) hz⟩
/-- what a copy of the book changes -/
def CpFI (a b : St) : Prop := (∀ o k, o ≠ 21 → o ≠ 23 → gI b o k = gI a o k) ∧ (∀ o k, ¬ (o = 17 ∧ k = 0) → gR b o k = gR a o k) ∧ ∀ x, x ≠ 18 → x ≠ 22 → ¬ (23 + 1 ≤ x ∧ x ≤ 29) → gA b x = gA a x
set_option maxHeartbeats 1000000 in
theorem s_bcpI {st : St} {p : Nat} {v : Bk} (hp : gR st 3 0 = some p) (B : BkC st 0 v) (hz : ∀ j, 110 ≤ j → gA st 18 j = v.1 j) (hn : v.2.2.1.1 ≤ 8) (hb : ∀ i, i < v.2.2.1.1 → v.2.2.1.2 i 4 = 0 ∨ v.2.2.1.2 i 4 = 1) {post : St → Prop} (h : ∀ st1, CpFI st st1 → gR st1 17 0 = some p → BkC st1 14 v → post st1) : P_X1_copyFrom 16 2 st post := by
  obtain ⟨B1, B2, B3, B4, B5⟩ := B
  have hpl : rv st 3 2 0 = some p := (da_p (by unfold isDa; decide) st).trans hp
  refine ⟨17, rfl, 3, rfl, ⟨_, rfl⟩, p, hpl, rfl, 4, rfl, 18, rfl, by decide, by decide, by decide, by decide, by decide, by decide, by decide, ?_⟩
  have ec : va_cpy (gA (sR st 17 0 (some p)) 4) (gA (sR st 17 0 (some p)) 18) (0 : Int32).toNatClampNeg (0 : Int32).toNatClampNeg (110 : Int32).toNatClampNeg = v.1 := by
    funext j
    have e110 : (110 : Int32).toNatClampNeg = 110 := rfl
    have e0 : (0 : Int32).toNatClampNeg = 0 := rfl
    rw [e110, e0]
    by_cases hj : j < 110
    · rw [cpy_in (by omega) (by omega)]
      have B1 : gA st 4 = v.1 := B1
      show gA st 4 (0 + (j - 0)) = _
      rw [B1, show 0 + (j - 0) = j by omega]
    · rw [cpy_out (by omega)]
      exact hz j (by omega)
  rw [ec]
  have r1 : gR (sF (sR st 17 0 (some p)) 18 v.1) 17 0 = some p := gR_sR st 17 0 (some p)
  have n1 : ∀ o k, ¬ (o = 17 ∧ k = 0) → gR (sF (sR st 17 0 (some p)) 18 v.1) o k = gR st o k := fun o k q => gR_sR_ne q
  have a1 : ∀ x, x ≠ 18 → gA (sF (sR st 17 0 (some p)) 18 v.1) x = gA st x := fun x q => by rw [gA_sF_ne q]; rfl
  have c1 : gA (sF (sR st 17 0 (some p)) 18 v.1) 18 = v.1 := gA_sF _ _ _
  have i1 : ∀ o k, gI (sF (sR st 17 0 (some p)) 18 v.1) o k = gI st o k := fun _ _ => rfl
  generalize sF (sR st 17 0 (some p)) 18 v.1 = st1 at *
  have A1 : AcC st1 0 v.2.1.1 v.2.1.2 := by
    obtain ⟨f, f1, f2, f3, f4⟩ := B2
    exact ⟨f, f1, by rw [i1]; exact f2, by rw [i1]; exact f3, fun k hk => by rw [a1 _ (by decide)]; exact f4 k hk⟩
  refine ⟨21, rfl, 7, rfl, ⟨_, rfl⟩, s_acpI A1 (fun st2 F2 A2 => ⟨23, rfl, 9, rfl, ⟨_, rfl⟩, s_scpI hn (E := v.2.2.1.2) ?_ (fun i hi k hk => ?_) hb (fun st3 F3 g3 r3 => ?_)⟩)⟩
  · rw [F2.eI (by unfold Ioo; decide), i1]; exact B3
  · rw [F2.eA (by unfold Sa; omega), a1 _ (by omega)]; exact B4 i hi k hk
  have x3 : ∀ x, x ≠ 18 → x ≠ 22 → ¬ (23 + 1 ≤ x ∧ x ≤ 23 + 5) → gA st3 x = gA st x := fun x q1 q2 q3 => by rw [F3.eA q3, F2.eA q2, a1 x q1]
  refine ⟨15, rfl, 29, rfl, by decide, by decide, by decide, by decide, by decide, by decide, by decide, h _ ⟨fun o k q1 q2 => ?_, fun o k q => ?_, fun x q1 q2 q3 => ?_⟩ ?_ ⟨?_, ?_, ?_, fun i hi k hk => ?_, fun k hk => ?_⟩⟩
  · show gI st3 o k = _
    rw [F3.eI (fun z => q2 z.1), F2.eI q1, i1]
  · show gR st3 o k = _
    rw [F3.eR, F2.eR, n1 o k q]
  · rw [gA_sF_ne (by omega)]
    exact x3 x q1 q2 (by omega)
  · show gR st3 17 0 = _
    rw [F3.eR, F2.eR, r1]
  · rw [gA_sF_ne (by decide)]
    show gA st3 18 = _
    rw [F3.eA (by unfold Sse; decide), F2.eA (by unfold Sa; decide), c1]
  · obtain ⟨f, f1, f2, f3, f4⟩ := A2
    refine ⟨f, f1, ?_, ?_, fun k hk => ?_⟩
    · show gI st3 _ 1 = _
      rw [F3.eI (by unfold Ise; decide)]; exact f2
    · show gI st3 _ 2 = _
      rw [F3.eI (by unfold Ise; decide)]; exact f3
    · rw [gA_sF_ne (by decide), F3.eA (by unfold Sse; decide)]; exact f4 k hk
  · exact g3
  · rw [gA_sF_ne (by omega)]; exact r3 i hi k hk
  · have e3 : (3 : Int32).toNatClampNeg = 3 := rfl
    have e0 : (0 : Int32).toNatClampNeg = 0 := rfl
    show gA (sF st3 29 _) 29 k = _
    rw [gA_sF, e3, e0, cpy_in (by omega) (by omega), x3 15 (by decide) (by decide) (by decide), show 0 + (k - 0) = k by omega]
    exact B5 k hk
theorem s_acpR {st : St} {n : Nat} {ar : Nat → Nat → Int32} (A : AcC st 14 n ar) {post : St → Prop} (h : ∀ st1, Fx (Ioo 7) (Sa 8) st st1 → AcC st1 0 n ar → post st1) : P_X0_copyFrom 7 21 st post := by
  obtain ⟨f, f1, f2, f3, f4⟩ := A
  have F : ∀ g x y, Fx (Ioo 7) (Sa 8) st (sI (sI (sF st 8 g) 7 1 x) 7 2 y) := fun g x y => ((Fx.sf (I := Ioo 7) (S := Sa 8) (a := st) (x := 8) rfl g).tr (Fx.si (I := Ioo 7) (S := Sa 8) (o := 7) (k := 1) rfl x)).tr (Fx.si (I := Ioo 7) (S := Sa 8) (o := 7) (k := 2) rfl y)
  refine ⟨22, rfl, 8, rfl, 8, rfl, by decide, by decide, by decide, by decide, by decide, by decide, by decide, by decide, rfl, rfl, rfl, rfl, h _ (F _ _ _) ⟨f, f1, ?_, ?_, fun k hk => ?_⟩⟩
  · rw [gI_sI_ne (by decide), gI_sI]; exact f2
  · rw [gI_sI, gI_sI_ne (by decide)]; exact f3
  · rw [← f4 k hk]
    funext j
    unfold nrm
    by_cases hj : j < 110
    · rw [if_pos hj, if_pos hj]
      have hm := Nat.mod_lt (f + k) (show 0 < 40 by decide)
      generalize (f + k) % 40 = m at *
      have e4 : (Int32.ofNat (al 0 8)).toNatClampNeg = 4400 := rfl
      have e0 : (0 : Int32).toNatClampNeg = 0 := rfl
      show gA (sF st 8 _) 8 (m * 110 + j) = gA st 22 (m * 110 + j)
      rw [gA_sF, e4, e0, cpy_in (by omega) (by omega)]
      show gA st 22 (0 + (m * 110 + j - 0)) = _
      congr 1; omega
    · rw [if_neg hj, if_neg hj]
theorem s_scpR {st : St} {n : Nat} {E : Nat → Nat → Int32} (hn : n ≤ 8) (B3 : gI st 23 5 = iN n) (B4 : ∀ i, i < n → ∀ k, k < 5 → gA st (23 + 1 + k) i = E i k) (hb : ∀ i, i < n → E i 4 = 0 ∨ E i 4 = 1) {post : St → Prop} (h : ∀ st1, Fx (Ise 9) (Sse 9) st st1 → gI st1 9 5 = iN n → (∀ i, i < n → ∀ k, k < 5 → gA st1 (9 + 1 + k) i = E i k) → post st1) : P_X7_copyFrom 9 23 st post := by
  refine ⟨⟨_, rfl⟩, rfl, n + 1, loop_up (α := Unit) (P := fun m i _ st => P_X7_copyFrom_6 9 23 post m i st) (N := n) (fun i _ st' => Fx (Ise 9) (Sse 9) st st' ∧ gI st' 9 5 = iN i ∧ ∀ j, j < i → ∀ k, k < 5 → gA st' (9 + 1 + k) j = E j k) ?_ ?_ n 0 () _ (by omega) ⟨Fx.si ⟨rfl, rfl⟩ _, gI_sI _ _ _ _, fun j hj => absurd hj (Nat.not_lt_zero _)⟩⟩
  · rintro i hi _ st' m ⟨F, g, r⟩ ih
    have e5 : gI st' 23 5 = iN n := (F.eI (by unfold Ise; decide)).trans B3
    have ea : ∀ k, k < 5 → gA st' (23 + 1 + k) (iN i).toNatClampNeg = E i k := fun k hk => by
      rw [iN_cl (by omega), F.eA (by unfold Sse; omega)]; exact B4 i hi k hk
    have v : vp_in (iN i) 8 := iN_vp (by omega) (by decide)
    show P_X7_copyFrom_6 9 23 post (m + 1) (iN i) st'
    unfold P_X7_copyFrom_6
    refine ⟨rfl, fun hz => ?_, fun _ => ⟨23 + 1, rfl, v, 23 + 2, rfl, v, 23 + 3, rfl, v, 23 + 4, rfl, v, 23 + 5, rfl, v, ⟨_, rfl⟩, ?_⟩⟩
    · rw [e5] at hz; exact absurd hz (nle (by omega) hi)
    have K := s_add (s := 9) (f := E i) (Or.inl rfl) g (by omega) (hb i hi) (post := fun s7 => P_X7_copyFrom_6 9 23 post m (iN i + 1) s7) (by
      rw [iN_s]
      refine ih () _ ⟨F.tr (addS_fx _ _ _ _), addS_5 _ _ _ _, fun j hj k hk => ?_⟩
      rw [addS_A _ _ _ _ hk]
      by_cases e9 : j = i
      · rw [e9, upd_same]
      · rw [upd_ne e9]; exact r j (by omega) k hk)
    have e0 := ea 0 (by decide)
    have e1 := ea 1 (by decide)
    have e2 := ea 2 (by decide)
    have e3 := ea 3 (by decide)
    have e4 := ea 4 (by decide)
    rw [← e0, ← e1, ← e2, ← e3, ← e4] at K
    exact K
  · rintro _ st' m ⟨F, g, r⟩
    have e5 : gI st' 23 5 = iN n := (F.eI (by unfold Ise; decide)).trans B3
    show P_X7_copyFrom_6 9 23 post (m + 1) (iN n) st'
    unfold P_X7_copyFrom_6
    exact ⟨rfl, fun _ => h st' F g r, fun hz => absurd (by rw [e5]; exact Int32.le_refl _) hz⟩
/-- what a copy of the book changes -/
def CpFR (a b : St) : Prop := (∀ o k, o ≠ 7 → o ≠ 9 → gI b o k = gI a o k) ∧ (∀ o k, ¬ (o = 3 ∧ k = 0) → gR b o k = gR a o k) ∧ ∀ x, x ≠ 4 → x ≠ 8 → ¬ (9 + 1 ≤ x ∧ x ≤ 15) → gA b x = gA a x
set_option maxHeartbeats 1000000 in
theorem s_bcpR {st : St} {p : Nat} {v : Bk} (hp : gR st 17 0 = some p) (B : BkC st 14 v) (hz : ∀ j, 110 ≤ j → gA st 4 j = v.1 j) (hn : v.2.2.1.1 ≤ 8) (hb : ∀ i, i < v.2.2.1.1 → v.2.2.1.2 i 4 = 0 ∨ v.2.2.1.2 i 4 = 1) {post : St → Prop} (h : ∀ st1, CpFR st st1 → gR st1 3 0 = some p → BkC st1 0 v → post st1) : P_X1_copyFrom 2 16 st post := by
  obtain ⟨B1, B2, B3, B4, B5⟩ := B
  have hpl : rv st 17 2 0 = some p := (da_p (by unfold isDa; decide) st).trans hp
  refine ⟨3, rfl, 17, rfl, ⟨_, rfl⟩, p, hpl, rfl, 18, rfl, 4, rfl, by decide, by decide, by decide, by decide, by decide, by decide, by decide, ?_⟩
  have ec : va_cpy (gA (sR st 3 0 (some p)) 18) (gA (sR st 3 0 (some p)) 4) (0 : Int32).toNatClampNeg (0 : Int32).toNatClampNeg (110 : Int32).toNatClampNeg = v.1 := by
    funext j
    have e110 : (110 : Int32).toNatClampNeg = 110 := rfl
    have e0 : (0 : Int32).toNatClampNeg = 0 := rfl
    rw [e110, e0]
    by_cases hj : j < 110
    · rw [cpy_in (by omega) (by omega)]
      have B1 : gA st 18 = v.1 := B1
      show gA st 18 (0 + (j - 0)) = _
      rw [B1, show 0 + (j - 0) = j by omega]
    · rw [cpy_out (by omega)]
      exact hz j (by omega)
  rw [ec]
  have r1 : gR (sF (sR st 3 0 (some p)) 4 v.1) 3 0 = some p := gR_sR st 3 0 (some p)
  have n1 : ∀ o k, ¬ (o = 3 ∧ k = 0) → gR (sF (sR st 3 0 (some p)) 4 v.1) o k = gR st o k := fun o k q => gR_sR_ne q
  have a1 : ∀ x, x ≠ 4 → gA (sF (sR st 3 0 (some p)) 4 v.1) x = gA st x := fun x q => by rw [gA_sF_ne q]; rfl
  have c1 : gA (sF (sR st 3 0 (some p)) 4 v.1) 4 = v.1 := gA_sF _ _ _
  have i1 : ∀ o k, gI (sF (sR st 3 0 (some p)) 4 v.1) o k = gI st o k := fun _ _ => rfl
  generalize sF (sR st 3 0 (some p)) 4 v.1 = st1 at *
  have A1 : AcC st1 14 v.2.1.1 v.2.1.2 := by
    obtain ⟨f, f1, f2, f3, f4⟩ := B2
    exact ⟨f, f1, by rw [i1]; exact f2, by rw [i1]; exact f3, fun k hk => by rw [a1 _ (by decide)]; exact f4 k hk⟩
  refine ⟨7, rfl, 21, rfl, ⟨_, rfl⟩, s_acpR A1 (fun st2 F2 A2 => ⟨9, rfl, 23, rfl, ⟨_, rfl⟩, s_scpR hn (E := v.2.2.1.2) ?_ (fun i hi k hk => ?_) hb (fun st3 F3 g3 r3 => ?_)⟩)⟩
  · rw [F2.eI (by unfold Ioo; decide), i1]; exact B3
  · rw [F2.eA (by unfold Sa; omega), a1 _ (by omega)]; exact B4 i hi k hk
  have x3 : ∀ x, x ≠ 4 → x ≠ 8 → ¬ (9 + 1 ≤ x ∧ x ≤ 9 + 5) → gA st3 x = gA st x := fun x q1 q2 q3 => by rw [F3.eA q3, F2.eA q2, a1 x q1]
  refine ⟨29, rfl, 15, rfl, by decide, by decide, by decide, by decide, by decide, by decide, by decide, h _ ⟨fun o k q1 q2 => ?_, fun o k q => ?_, fun x q1 q2 q3 => ?_⟩ ?_ ⟨?_, ?_, ?_, fun i hi k hk => ?_, fun k hk => ?_⟩⟩
  · show gI st3 o k = _
    rw [F3.eI (fun z => q2 z.1), F2.eI q1, i1]
  · show gR st3 o k = _
    rw [F3.eR, F2.eR, n1 o k q]
  · rw [gA_sF_ne (by omega)]
    exact x3 x q1 q2 (by omega)
  · show gR st3 3 0 = _
    rw [F3.eR, F2.eR, r1]
  · rw [gA_sF_ne (by decide)]
    show gA st3 4 = _
    rw [F3.eA (by unfold Sse; decide), F2.eA (by unfold Sa; decide), c1]
  · obtain ⟨f, f1, f2, f3, f4⟩ := A2
    refine ⟨f, f1, ?_, ?_, fun k hk => ?_⟩
    · show gI st3 _ 1 = _
      rw [F3.eI (by unfold Ise; decide)]; exact f2
    · show gI st3 _ 2 = _
      rw [F3.eI (by unfold Ise; decide)]; exact f3
    · rw [gA_sF_ne (by decide), F3.eA (by unfold Sse; decide)]; exact f4 k hk
  · exact g3
  · rw [gA_sF_ne (by omega)]; exact r3 i hi k hk
  · have e3 : (3 : Int32).toNatClampNeg = 3 := rfl
    have e0 : (0 : Int32).toNatClampNeg = 0 := rfl
    show gA (sF st3 15 _) 15 k = _
    rw [gA_sF, e3, e0, cpy_in (by omega) (by omega), x3 29 (by decide) (by decide) (by decide), show 0 + (k - 0) = k by omega]
    exact B5 k hk
