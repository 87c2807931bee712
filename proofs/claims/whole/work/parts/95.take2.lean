/-! PURE: the reference takes over: all of it -/
theorem nrm_l {f : Nat → Int32} {j : Nat} (h : j < 110) : nrm f j = f j := if_pos h
theorem nrm_y {f : Nat → Int32} {j : Nat} (h : 110 ≤ j) : nrm f j = 0 := if_neg (by omega)
def ITo (o k : Nat) : Prop := o = 58 ∧ (k = 36 ∨ k = 37 ∨ k = 38 ∨ k = 39 ∨ k = 58)
def STo (x : Nat) : Prop := (62 ≤ x ∧ x ≤ 70) ∨ (73 ≤ x ∧ x ≤ 80)
def TkO (st : St) (V : LV) : Prop := gI st 58 38 = 0 ∧ gI st 58 39 = 0 ∧ gI st 58 58 = 0 ∧ gA st 62 0 = iN V.1 ∧ gA st 62 1 = iN V.2.1 ∧ gA st 62 3 = iN (lvW V).2.1 ∧ gA st 62 4 = iN (lvM V).2.1 ∧ (∀ x, x < V.1 → gA st 63 x = V.2.2.2.1 x) ∧ (∀ k, k < (lvW V).2.1 → gA st 69 k = trC ((lvW V).2.2 k)) ∧ (∀ k, k < (lvM V).2.1 → gA st 70 k = trC ((lvM V).2.2 k)) ∧ mC V.2.1 st = nrm (lvC V)
set_option maxHeartbeats 2000000 in
theorem tkM {st : St} {V : LV} (hV : VOk V) (H : MV st V) {post : St → Prop} (h : ∀ st1, Fx ITo STo st st1 → TkO st1 V → post st1) : P_X12_takeOver 58 st post := by
  obtain ⟨v1, v2, v3, v4, v5, v6, v7, v8, v9, v10⟩ := hV
  obtain ⟨b1, b2, b3, b4, b5, b6, b7, b8, b9, b10⟩ := H
  refine ⟨62, rfl, s_half (m := 5) rfl rfl (by decide) (by decide) (fun s1 E1 r1 => ⟨63, rfl, s_half (m := 9) rfl rfl (by decide) (by decide) (fun s2 E2 r2 => ⟨64, rfl, s_half (m := 9) rfl rfl (by decide) (by decide) (fun s3 E3 r3 => ⟨65, rfl, s_half (m := 9) rfl rfl (by decide) (by decide) (fun s4 E4 r4 => ⟨66, rfl, s_half (m := 9) rfl rfl (by decide) (by decide) (fun s5 E5 r5 => ⟨67, rfl, s_half (m := 6) rfl rfl (by decide) (by decide) (fun s6 E6 r6 => ⟨68, rfl, s_half (m := 54) rfl rfl (by decide) (by decide) (fun s7 E7 r7 => ⟨69, rfl, s_half (m := 700) rfl rfl (by decide) (by decide) (fun s8 E8 r8 => ⟨70, rfl, s_half (m := 700) rfl rfl (by decide) (by decide) (fun s9 E9 r9 => ⟨rfl, rfl, ?_⟩)⟩)⟩)⟩)⟩)⟩)⟩)⟩)⟩)⟩
  have q62 : ∀ j, j < 5 → gA s9 62 j = gA st 62 (5 + j) := fun j hj => by rw [E9.eA (show ¬ Sa 70 62 by unfold Sa; decide), E8.eA (show ¬ Sa 69 62 by unfold Sa; decide), E7.eA (show ¬ Sa 68 62 by unfold Sa; decide), E6.eA (show ¬ Sa 67 62 by unfold Sa; decide), E5.eA (show ¬ Sa 66 62 by unfold Sa; decide), E4.eA (show ¬ Sa 65 62 by unfold Sa; decide), E3.eA (show ¬ Sa 64 62 by unfold Sa; decide), E2.eA (show ¬ Sa 63 62 by unfold Sa; decide), r1 j hj]
  have q63 : ∀ j, j < 9 → gA s9 63 j = gA st 63 (9 + j) := fun j hj => by rw [E9.eA (show ¬ Sa 70 63 by unfold Sa; decide), E8.eA (show ¬ Sa 69 63 by unfold Sa; decide), E7.eA (show ¬ Sa 68 63 by unfold Sa; decide), E6.eA (show ¬ Sa 67 63 by unfold Sa; decide), E5.eA (show ¬ Sa 66 63 by unfold Sa; decide), E4.eA (show ¬ Sa 65 63 by unfold Sa; decide), E3.eA (show ¬ Sa 64 63 by unfold Sa; decide), r2 j hj, E1.eA (show ¬ Sa 62 63 by unfold Sa; decide)]
  have q64 : ∀ j, j < 9 → gA s9 64 j = gA st 64 (9 + j) := fun j hj => by rw [E9.eA (show ¬ Sa 70 64 by unfold Sa; decide), E8.eA (show ¬ Sa 69 64 by unfold Sa; decide), E7.eA (show ¬ Sa 68 64 by unfold Sa; decide), E6.eA (show ¬ Sa 67 64 by unfold Sa; decide), E5.eA (show ¬ Sa 66 64 by unfold Sa; decide), E4.eA (show ¬ Sa 65 64 by unfold Sa; decide), r3 j hj, E2.eA (show ¬ Sa 63 64 by unfold Sa; decide), E1.eA (show ¬ Sa 62 64 by unfold Sa; decide)]
  have q65 : ∀ j, j < 9 → gA s9 65 j = gA st 65 (9 + j) := fun j hj => by rw [E9.eA (show ¬ Sa 70 65 by unfold Sa; decide), E8.eA (show ¬ Sa 69 65 by unfold Sa; decide), E7.eA (show ¬ Sa 68 65 by unfold Sa; decide), E6.eA (show ¬ Sa 67 65 by unfold Sa; decide), E5.eA (show ¬ Sa 66 65 by unfold Sa; decide), r4 j hj, E3.eA (show ¬ Sa 64 65 by unfold Sa; decide), E2.eA (show ¬ Sa 63 65 by unfold Sa; decide), E1.eA (show ¬ Sa 62 65 by unfold Sa; decide)]
  have q66 : ∀ j, j < 9 → gA s9 66 j = gA st 66 (9 + j) := fun j hj => by rw [E9.eA (show ¬ Sa 70 66 by unfold Sa; decide), E8.eA (show ¬ Sa 69 66 by unfold Sa; decide), E7.eA (show ¬ Sa 68 66 by unfold Sa; decide), E6.eA (show ¬ Sa 67 66 by unfold Sa; decide), r5 j hj, E4.eA (show ¬ Sa 65 66 by unfold Sa; decide), E3.eA (show ¬ Sa 64 66 by unfold Sa; decide), E2.eA (show ¬ Sa 63 66 by unfold Sa; decide), E1.eA (show ¬ Sa 62 66 by unfold Sa; decide)]
  have q67 : ∀ j, j < 6 → gA s9 67 j = gA st 67 (6 + j) := fun j hj => by rw [E9.eA (show ¬ Sa 70 67 by unfold Sa; decide), E8.eA (show ¬ Sa 69 67 by unfold Sa; decide), E7.eA (show ¬ Sa 68 67 by unfold Sa; decide), r6 j hj, E5.eA (show ¬ Sa 66 67 by unfold Sa; decide), E4.eA (show ¬ Sa 65 67 by unfold Sa; decide), E3.eA (show ¬ Sa 64 67 by unfold Sa; decide), E2.eA (show ¬ Sa 63 67 by unfold Sa; decide), E1.eA (show ¬ Sa 62 67 by unfold Sa; decide)]
  have q68 : ∀ j, j < 54 → gA s9 68 j = gA st 68 (54 + j) := fun j hj => by rw [E9.eA (show ¬ Sa 70 68 by unfold Sa; decide), E8.eA (show ¬ Sa 69 68 by unfold Sa; decide), r7 j hj, E6.eA (show ¬ Sa 67 68 by unfold Sa; decide), E5.eA (show ¬ Sa 66 68 by unfold Sa; decide), E4.eA (show ¬ Sa 65 68 by unfold Sa; decide), E3.eA (show ¬ Sa 64 68 by unfold Sa; decide), E2.eA (show ¬ Sa 63 68 by unfold Sa; decide), E1.eA (show ¬ Sa 62 68 by unfold Sa; decide)]
  have q69 : ∀ j, j < 700 → gA s9 69 j = gA st 69 (700 + j) := fun j hj => by rw [E9.eA (show ¬ Sa 70 69 by unfold Sa; decide), r8 j hj, E7.eA (show ¬ Sa 68 69 by unfold Sa; decide), E6.eA (show ¬ Sa 67 69 by unfold Sa; decide), E5.eA (show ¬ Sa 66 69 by unfold Sa; decide), E4.eA (show ¬ Sa 65 69 by unfold Sa; decide), E3.eA (show ¬ Sa 64 69 by unfold Sa; decide), E2.eA (show ¬ Sa 63 69 by unfold Sa; decide), E1.eA (show ¬ Sa 62 69 by unfold Sa; decide)]
  have q70 : ∀ j, j < 700 → gA s9 70 j = gA st 70 (700 + j) := fun j hj => by rw [r9 j hj, E8.eA (show ¬ Sa 69 70 by unfold Sa; decide), E7.eA (show ¬ Sa 68 70 by unfold Sa; decide), E6.eA (show ¬ Sa 67 70 by unfold Sa; decide), E5.eA (show ¬ Sa 66 70 by unfold Sa; decide), E4.eA (show ¬ Sa 65 70 by unfold Sa; decide), E3.eA (show ¬ Sa 64 70 by unfold Sa; decide), E2.eA (show ¬ Sa 63 70 by unfold Sa; decide), E1.eA (show ¬ Sa 62 70 by unfold Sa; decide)]
  have sub : ∀ {x : Nat} {a b : St}, 62 ≤ x → x ≤ 70 → Ex (Sa x) a b → Fx ITo STo a b := fun z1 z2 E => E.fw (fun y z => by rw [z]; exact Or.inl ⟨z1, z2⟩)
  have F9 : Fx ITo STo st s9 := ((((((((sub (by decide) (by decide) E1).tr (sub (by decide) (by decide) E2)).tr (sub (by decide) (by decide) E3)).tr (sub (by decide) (by decide) E4)).tr (sub (by decide) (by decide) E5)).tr (sub (by decide) (by decide) E6)).tr (sub (by decide) (by decide) E7)).tr (sub (by decide) (by decide) E8)).tr (sub (by decide) (by decide) E9)
  have F10 : Fx ITo STo st (sI (sI s9 58 36 0) 58 37 0) := (F9.tr (Fx.si (k := 36) ⟨rfl, Or.inl rfl⟩ _)).tr (Fx.si (k := 37) ⟨rfl, Or.inr (Or.inl rfl)⟩ _)
  have g36 : gI (sI (sI s9 58 36 0) 58 37 0) 58 36 = 0 := by rw [gI_sI_ne (by decide), gI_sI]
  have g37 : gI (sI (sI s9 58 36 0) 58 37 0) 58 37 = 0 := gI_sI _ _ _ _
  have gA9 : ∀ x, gA (sI (sI s9 58 36 0) 58 37 0) x = gA s9 x := fun _ => rfl
  generalize sI (sI s9 58 36 0) 58 37 0 = t0 at *
  have z0 : gA t0 62 0 = iN V.1 := by rw [gA9, q62 0 (by decide)]; exact b1
  have z1 : gA t0 62 1 = iN V.2.1 := by rw [gA9, q62 1 (by decide)]; exact b2
  refine s_tk75 v1 z0 (fun t1 G1 u1 => s_tk172 v2 (by rw [G1.eA (by unfold SaP; decide)]; exact z1) (fun t2 G2 u2 => s_tk240 (fun t3 G3 u3 => ?_)))
  have F13 : Fx ITo STo st (sI (sI (sI t3 58 38 0) 58 39 0) 58 58 0) := (((((F10.tr (G1.fw (fun x z => Or.inr (by unfold SaP at z; omega)))).tr (G2.fw (fun x z => Or.inr (by unfold SaB at z; omega)))).tr (G3.fw (fun x z => Or.inr (by unfold Sa at z; omega)))).tr (Fx.si (k := 38) ⟨rfl, Or.inr (Or.inr (Or.inl rfl))⟩ _)).tr (Fx.si (k := 39) ⟨rfl, Or.inr (Or.inr (Or.inr (Or.inl rfl)))⟩ _)).tr (Fx.si (k := 58) ⟨rfl, Or.inr (Or.inr (Or.inr (Or.inr rfl)))⟩ _)
  have lo : ∀ x, x ≤ 70 → gA (sI (sI (sI t3 58 38 0) 58 39 0) 58 58 0) x = gA s9 x := fun x hx => by
    rw [show gA (sI (sI (sI t3 58 38 0) 58 39 0) 58 58 0) x = gA t3 x from rfl, G3.eA (by unfold Sa; omega), G2.eA (by unfold SaB; omega), G1.eA (by unfold SaP; omega), gA9]
  have i36 : ∀ k, k = 36 ∨ k = 37 → gI (sI (sI (sI t3 58 38 0) 58 39 0) 58 58 0) 58 k = gI t0 58 k := fun k hk => by
    rw [gI_sI_ne (by omega), gI_sI_ne (by omega), gI_sI_ne (by omega), G3.eI, G2.eI, G1.eI]
  have i38 : gI (sI (sI (sI t3 58 38 0) 58 39 0) 58 58 0) 58 38 = 0 := by rw [gI_sI_ne (by decide), gI_sI_ne (by decide), gI_sI]
  have i39 : gI (sI (sI (sI t3 58 38 0) 58 39 0) 58 58 0) 58 39 = 0 := by rw [gI_sI_ne (by decide), gI_sI]
  have i58 : gI (sI (sI (sI t3 58 38 0) 58 39 0) 58 58 0) 58 58 = 0 := gI_sI _ _ _ _
  have hA : ∀ x, gA (sI (sI (sI t3 58 38 0) 58 39 0) 58 58 0) x = gA t3 x := fun _ => rfl
  have p1 : ∀ x, 73 ≤ x → x ≤ 76 → gA t3 x = gA t1 x := fun x y1 y2 => by rw [G3.eA (by unfold Sa; omega), G2.eA (by unfold SaB; omega)]
  have p2 : ∀ x, 77 ≤ x → x ≤ 79 → gA t3 x = gA t2 x := fun x y1 y2 => by rw [G3.eA (by unfold Sa; omega)]
  have r67 : gA t1 67 = gA s9 67 := by rw [G1.eA (by unfold SaP; decide), gA9]
  have r68 : gA t2 68 = gA s9 68 := by rw [G2.eA (by unfold SaB; decide), G1.eA (by unfold SaP; decide), gA9]
  have l7 := v9.2.2.1
  have l7' := v10.2.2.1
  refine h _ F13 ⟨i38, i39, i58, by rw [lo 62 (by decide), q62 0 (by decide)]; exact b1, by rw [lo 62 (by decide), q62 1 (by decide)]; exact b2, by rw [lo 62 (by decide), q62 3 (by decide)]; exact b4, by rw [lo 62 (by decide), q62 4 (by decide)]; exact b5, fun x hx => by rw [lo 63 (by decide), q63 x (by omega)]; exact (b6 x hx).1, fun k hk => by rw [lo 69 (by decide), q69 k (by omega)]; exact b9 k hk, fun k hk => by rw [lo 70 (by decide), q70 k (by omega)]; exact b10 k hk, ?_⟩
  unfold mC
  refine rC_eq ?_ ?_ (fun p hp => ?_) (fun p hp => ?_) (fun p hp => ?_) (fun p hp => ?_) (fun b hb => ?_) (fun b hb => ?_) (fun b hb hn => ?_) (fun b hb hn => ?_) (fun k hk => ?_) (fun j hj => nrm_y hj)
  · rw [i36 36 (Or.inl rfl), g36, nrm_l (by decide), v4]
  · rw [i36 37 (Or.inr rfl), g37, nrm_l (by decide), v5]
  · rw [nrm_l (by omega), hA, p1 73 (by decide) (by decide)]
    by_cases q : p < V.1
    · rw [((u1 p hp).1 q).1, gA9, q64 p hp]; exact (b6 p q).2.1
    · rw [((u1 p hp).2.1 (by omega)).1]; exact ((v6 p hp).2 (by omega)).1.symm
  · rw [nrm_l (by omega), hA, p1 74 (by decide) (by decide)]
    by_cases q : p < V.1
    · rw [((u1 p hp).1 q).2.1, gA9, q65 p hp]; exact (b6 p q).2.2.1
    · rw [((u1 p hp).2.1 (by omega)).2.1]; exact ((v6 p hp).2 (by omega)).2.1.symm
  · rw [nrm_l (by omega), hA, p1 75 (by decide) (by decide)]
    by_cases q : p < V.1
    · rw [((u1 p hp).1 q).2.2, gA9, q66 p hp]; exact (b6 p q).2.2.2
    · rw [((u1 p hp).2.1 (by omega)).2.2]; exact ((v6 p hp).2 (by omega)).2.2.symm
  · rw [nrm_l (by omega), hA, p1 76 (by decide) (by decide), (u1 p hp).2.2]; exact (v6 p hp).1.symm
  · rw [nrm_l (by omega), hA, p2 77 (by decide) (by decide)]
    by_cases q : b < V.2.1
    · rw [((u2 b hb).1 q).1, r67, q67 b hb]; exact b7 b q
    · rw [((u2 b hb).2.1 (by omega)).1]; exact ((v7 b hb).2 (by omega)).1.symm
  · rw [nrm_l (by omega), hA, p2 78 (by decide) (by decide)]
    by_cases q : b < V.2.1
    · rw [((u2 b hb).1 q).2]; exact ((v7 b hb).1 q).1.symm
    · rw [((u2 b hb).2.1 (by omega)).2]; exact ((v7 b hb).2 (by omega)).2.1.symm
  · rw [nrm_l (by omega), hA, p2 79 (by decide) (by decide), (u2 b hb).2.2]; exact ((v7 b hb).1 hn).2.1.symm
  · rw [nrm_l (by omega)]; exact ((v7 b hb).2 hn).2.2.symm
  · rw [nrm_l (by omega), hA, u3 k hk, r68, q68 k hk]; exact b8 k hk
