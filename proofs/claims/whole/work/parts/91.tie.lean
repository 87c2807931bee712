/-! PURE: lines: a tie -/
section L4
variable {T : Nat → Int32} {n : Nat} {τ : Nat → Tok} {p : Nat}
def tieV (V : LV) (x b y : Nat) : LV := (V.1, V.2.1, V.2.2.1 + 1, V.2.2.2.1, upd (lvC V) (56 + 6 * x + b) (iN y), lvW V, lvM V)
theorem VOk.tie {V : LV} (h : VOk V) (h24 : V.2.2.1 < 24) {x b y : Nat} (hx : x < 9) (hb : b < 6) (hy : y ≤ 40) : VOk (tieV V x b y) := by
  obtain ⟨v1, v2, v3, v4, v5, v6, v7, v8, v9, v10⟩ := h
  have lo : ∀ j, j ≠ 56 + 6 * x + b → lvC (tieV V x b y) j = lvC V j := fun j y1 => by
    show upd (lvC V) _ _ j = _
    rw [upd_ne y1]
  refine ⟨v1, v2, h24, by rw [lo _ (by omega)]; exact v4, by rw [lo _ (by omega)]; exact v5, fun q hq => ?_, fun q hq => ?_, fun k hk => ?_, v9, v10⟩
  · rw [lo _ (by omega), lo _ (by omega), lo _ (by omega), lo _ (by omega)]; exact v6 q hq
  · rw [lo _ (by omega), lo _ (by omega), lo _ (by omega)]; exact v7 q hq
  · by_cases e : 56 + k = 56 + 6 * x + b
    · show 0 ≤ upd (lvC V) (56 + 6 * x + b) (iN y) (56 + k)
      rw [e, upd_same]
      exact (iN_le (a := 0) (by decide) (by omega)).mpr (Nat.zero_le _)
    · rw [lo _ e]; exact v8 k hk
theorem CV.s4 (hp : isPl p) {a : St} {V : LV} (H : CV p a V) (m : Nat) : CV p (sI a 34 4 (iN m)) (V.1, V.2.1, m, V.2.2.2.1, lvC V, lvW V, lvM V) := by
  obtain ⟨h1, h2, h3, h4, h5, h6, h7, h8⟩ := H
  obtain ⟨⟨n1, _⟩, ⟨n3, _⟩, ⟨n5, _⟩, _⟩ := pl_ne hp
  exact ⟨h1, by rw [gI_sI_ne (fun z => n1 z.1)]; exact h2, by rw [gI_sI_ne (fun z => n1 z.1)]; exact h3, gI_sI _ _ _ _, h5, h6, RuC.cg (a := a) (b := sI a 34 4 (iN m)) (fun k => gI_sI_ne (fun z => n3 z.1)) rfl h7, RuC.cg (a := a) (b := sI a 34 4 (iN m)) (fun k => gI_sI_ne (fun z => n5 z.1)) rfl h8⟩
set_option maxHeartbeats 1000000 in
theorem tieC2 (TK : Tks T n τ) (hp : isPl p) {V : LV} (hV : VOk V) {i i1 i2 i3 i4 i5 : Nat} (e1 : tE (τ i) = i1) (e2 : tE (τ i1) = i2) (e3 : tE (τ i2) = i3) (e4 : tE (τ i3) = i4) (e5 : tE (τ i4) = i5) (hi : i ≤ n) (h24 : V.2.2.1 < 24) {st : St} (X : CT T n τ st i) (H : CV p st V) {post : Int32 → St → Prop}
    (k6 : kOkT (τ i1) V.1 → kOkT (τ i2) V.2.1 → lvC V (56 + 6 * tN (τ i1) + tN (τ i2)) ≤ 0 → nOk (τ i3) 1 40 → tS (τ i4) = 59 → ∀ st', CG p st st' → CT T n τ st' i5 → CV p st' (tieV V (tN (τ i1)) (tN (τ i2)) (tN (τ i3))) → post 1 st')
    (k5 : kOkT (τ i1) V.1 → kOkT (τ i2) V.2.1 → lvC V (56 + 6 * tN (τ i1) + tN (τ i2)) ≤ 0 → nOk (τ i3) 1 40 → tS (τ i4) ≠ 59 → ∀ st', CG p st st' → CEl st' 1 (tB (τ i4)) → post 0 st')
    (k4 : kOkT (τ i1) V.1 → kOkT (τ i2) V.2.1 → lvC V (56 + 6 * tN (τ i1) + tN (τ i2)) ≤ 0 → ¬ nOk (τ i3) 1 40 → ∀ st', CG p st st' → CEl st' (nK (τ i3)) (tB (τ i3)) → post 0 st')
    (k3 : kOkT (τ i1) V.1 → kOkT (τ i2) V.2.1 → ¬ lvC V (56 + 6 * tN (τ i1) + tN (τ i2)) ≤ 0 → ∀ st', CG p st st' → CEl st' 4 (tB (τ i2)) → post 0 st')
    (k2 : kOkT (τ i1) V.1 → ¬ kOkT (τ i2) V.2.1 → ∀ st', CG p st st' → CEl st' (kK (τ i2)) (tB (τ i2)) → post 0 st')
    (k1 : ¬ kOkT (τ i1) V.1 → ∀ st', CG p st st' → CEl st' (kK (τ i1)) (tB (τ i1)) → post 0 st') : P_X4_readTie 34 st post := by
  have l1 : i1 ≤ n := by rw [← e1]; exact (TK.2 i hi).1.2.2.1
  have l2 : i2 ≤ n := by rw [← e2]; exact (TK.2 i1 l1).1.2.2.1
  have l3 : i3 ≤ n := by rw [← e3]; exact (TK.2 i2 l2).1.2.2.1
  have l4 : i4 ≤ n := by rw [← e4]; exact (TK.2 i3 l3).1.2.2.1
  have v1 := hV.1
  have v2 := hV.2.1
  have a31 : CGa p 31 := Or.inl rfl
  unfold P_X4_readTie
  rw [H.2.2.2.1, iN_s]
  have X1 := X.si (o := 34) (by decide) (k := 4) (Or.inr (by decide)) (iN (V.2.2.1 + 1))
  have H1 := H.s4 hp (V.2.2.1 + 1)
  have G1 : CG p st (sI st 34 4 (iN (V.2.2.1 + 1))) := CG.si (Or.inl rfl) _ _
  generalize sI st 34 4 (iN (V.2.2.1 + 1)) = s1 at *
  refine ⟨rfl, fun _ => ⟨rfl, rfl, 35, rfl, ⟨_, rfl⟩, l_adv TK hi X1 (fun s3 F3 X3 => ?_)⟩, fun z => absurd ((iN_lt (b := 24) (by omega) (by decide)).mpr h24) z⟩
  rw [e1] at X3
  have H3 := H1.wl hp F3
  have G3 : CG p st s3 := G1.tr (CG.wl F3)
  refine ⟨30, rfl, p, H3.1, pl_0 hp, ⟨_, rfl⟩, ?_⟩
  have ep : gI s3 p 0 = iN V.1 := H3.2.1
  rw [ep]
  refine l_takeK TK l1 X3 (by omega) (fun z1 s7 F7 X7 g7 => ⟨fun _ => ⟨rfl, 30, rfl, p, (H3.wl hp F7).1, pl_1 hp, ⟨_, rfl⟩, ?_⟩, fun z => absurd z (by decide)⟩) (fun z1 s7 F7 E7 => ⟨fun z => absurd rfl z, fun _ => k1 z1 s7 (G3.tr (CG.wl F7)) E7⟩)
  rw [e2] at X7
  have H7 := H3.wl hp F7
  have G7 : CG p st s7 := G3.tr (CG.wl F7)
  have eb : gI s7 p 1 = iN V.2.1 := H7.2.2.1
  rw [eb, g7]
  refine l_isK TK l2 X7 (by omega) (fun z2 => ⟨fun _ => ⟨35, rfl, rfl, 30, rfl, ⟨_, rfl⟩, ?_⟩, fun z => absurd z (by decide)⟩) (fun z2 s8 F8 E8 => ⟨fun z => absurd rfl z, fun _ => k2 z1 z2 s8 (G7.tr (CG.wl F8)) E8⟩)
  rw [X7.2.2.2.2.1]
  have z1l := z1.2.2
  have z2l := z2.2.2
  refine s_yearsOf isDa30 (by omega) (by omega) ?_
  have ec : gA s7 (ch 30 1) = lvC V := H7.2.2.2.2.2.1
  rw [ec]
  refine ⟨fun z3 => ⟨35, rfl, ⟨_, rfl⟩, l_adv TK l2 X7 (fun s9 F9 X9 => ⟨⟨_, rfl⟩, ?_⟩)⟩, fun z3 => ⟨⟨_, rfl⟩, err_C (p := p) X7 4 (fun s8 G8 E8 => k3 z1 z2 z3 s8 (G7.tr G8) E8)⟩⟩
  rw [e3] at X9
  have H9 := H7.wl hp F9
  have G9 : CG p st s9 := G7.tr (CG.wl F9)
  refine l_num (a := 1) (b := 40) TK l3 X9 (by decide) (by decide) (fun z4 s11 F11 X11 g11 => ⟨fun _ => ⟨30, rfl, rfl, ⟨_, rfl⟩, ?_⟩, fun z => absurd z (by decide)⟩) (fun z4 s11 F11 E11 => ⟨fun z => absurd rfl z, fun _ => k4 z1 z2 z3 z4 s11 (G9.tr (CG.wl F11)) E11⟩)
  rw [g11]
  rw [e4] at X11
  refine s_setYears isDa30 (by omega) (by omega) ⟨⟨_, rfl⟩, ?_⟩
  have H12 : CV p (sA s11 (ch 30 1) (56 + 6 * tN (τ i1) + tN (τ i2)) (iN (tN (τ i3)))) (tieV V (tN (τ i1)) (tN (τ i2)) (tN (τ i3))) := (H9.wl hp F11).sc hp (56 + 6 * tN (τ i1) + tN (τ i2)) (iN (tN (τ i3)))
  have X12 := X11.sa (x := ch 30 1) (by decide) (56 + 6 * tN (τ i1) + tN (τ i2)) (iN (tN (τ i3)))
  have G12 : CG p st (sA s11 (ch 30 1) (56 + 6 * tN (τ i1) + tN (τ i2)) (iN (tN (τ i3)))) := (G9.tr (CG.wl F11)).tr (CG.sa a31 _ _)
  exact l_sign TK l4 X12 (fun z5 s14 F14 X14 => ⟨Or.inr rfl, k6 z1 z2 z3 z4 z5 s14 (G12.tr (CG.wl F14)) (by rw [e5] at X14; exact X14) (H12.wl hp F14)⟩) (fun z5 s14 F14 E14 => ⟨Or.inl rfl, k5 z1 z2 z3 z4 z5 s14 (G12.tr (CG.wl F14)) E14⟩)
theorem N_one {st : St} (hb : ¬ gI st 58 23 = 0) {w : Int32} {post : Int32 → St → Prop} (h : post 0 st) : P_X12_oneNow 58 w st post := ⟨⟨_, rfl⟩, rfl, fun z => absurd z hb, fun _ => ⟨rfl, fun _ => ⟨rfl, fun _ => h, fun z => absurd z hb⟩, fun z => absurd z hb⟩⟩
theorem N_t76 {st : St} (hb : ¬ gI st 58 23 = 0) {x : Int32} {post : St → Prop} (h : post st) : P_X12_sayTie_76 58 post x st := ⟨⟨_, rfl⟩, N_num hb ⟨rfl, fun z => absurd z hb, fun _ => h⟩⟩
theorem N_t65 {st : St} (hb : ¬ gI st 58 23 = 0) {x : Int32} {post : St → Prop} (h : post st) : P_X12_sayTie_65 58 post x st := ⟨rfl, fun _ => N_t76 hb h, fun z => absurd z hb⟩
theorem N_t28 {st : St} (hb : ¬ gI st 58 23 = 0) {x : Int32} {post : St → Prop} (h : post st) : P_X12_sayTie_28 58 post x st := ⟨⟨_, rfl⟩, N_one hb ⟨rfl, fun _ => N_t65 hb h, fun z => absurd z hb⟩⟩
set_option maxHeartbeats 1000000 in
theorem tieM2 (TK : Tks T n τ) {V : LV} (hV : VOk V) {i i1 i2 i3 i4 i5 : Nat} (e1 : tE (τ i) = i1) (e2 : tE (τ i1) = i2) (e3 : tE (τ i2) = i3) (e4 : tE (τ i3) = i4) (e5 : tE (τ i4) = i5) (hi : i ≤ n) (h24 : V.2.2.1 < 24) {st : St} (X : MT T n τ st i) (H : MV st V) {K : St → Prop}
    (k6 : kOkT (τ i1) V.1 → kOkT (τ i2) V.2.1 → lvC V (56 + 6 * tN (τ i1) + tN (τ i2)) ≤ 0 → nOk (τ i3) 1 40 → tS (τ i4) = 59 → ∀ st', MG st st' → MT T n τ st' i5 → MV st' (tieV V (tN (τ i1)) (tN (τ i2)) (tN (τ i3))) → K st')
    (k5 : kOkT (τ i1) V.1 → kOkT (τ i2) V.2.1 → lvC V (56 + 6 * tN (τ i1) + tN (τ i2)) ≤ 0 → nOk (τ i3) 1 40 → tS (τ i4) ≠ 59 → ∀ st', MG st st' → ME st' 1 (tB (τ i4)) → K st')
    (k4 : kOkT (τ i1) V.1 → kOkT (τ i2) V.2.1 → lvC V (56 + 6 * tN (τ i1) + tN (τ i2)) ≤ 0 → ¬ nOk (τ i3) 1 40 → ∀ st', MG st st' → ME st' (nK (τ i3)) (tB (τ i3)) → K st')
    (k3 : kOkT (τ i1) V.1 → kOkT (τ i2) V.2.1 → ¬ lvC V (56 + 6 * tN (τ i1) + tN (τ i2)) ≤ 0 → ∀ st', MG st st' → ME st' 4 (tB (τ i2)) → K st')
    (k2 : kOkT (τ i1) V.1 → ¬ kOkT (τ i2) V.2.1 → ∀ st', MG st st' → ME st' (kK (τ i2)) (tB (τ i2)) → K st')
    (k1 : ¬ kOkT (τ i1) V.1 → ∀ st', MG st st' → ME st' (kK (τ i1)) (tB (τ i1)) → K st') : P_X12_sayTie 58 st (fun s => oC 58 12 ∧ P_X12_mark 58 59 s (fun s2 => K s2)) := by
  have l1 : i1 ≤ n := by rw [← e1]; exact (TK.2 i hi).1.2.2.1
  have l2 : i2 ≤ n := by rw [← e2]; exact (TK.2 i1 l1).1.2.2.1
  have l3 : i3 ≤ n := by rw [← e3]; exact (TK.2 i2 l2).1.2.2.1
  have l4 : i4 ≤ n := by rw [← e4]; exact (TK.2 i3 l3).1.2.2.1
  have v1 := hV.1
  have v2 := hV.2.1
  have v7 : vp_in 7 (al 0 62) := iN_vp (j := 7) (by decide) (by decide)
  have c7 : (7 : Int32).toNatClampNeg = 7 := rfl
  refine ⟨⟨_, rfl⟩, 62, rfl, v7, fun _ => ⟨rfl, fun _ => ⟨⟨_, rfl⟩, s_stepXL TK hi X (fun s2 F2 X2 => ⟨fun _ => ⟨⟨_, rfl⟩, ?_⟩, fun z => absurd z (by decide)⟩)⟩, fun z => absurd X.2.2.1 z⟩, fun z => ?_⟩
  · rw [e1] at X2
    have H2 := H.wl F2
    have fin : ∀ (s : St) (k pl : Nat), (0 < k ∧ k < 10) → MG st s → ME s k pl → (∀ st', MG st st' → ME st' k pl → K st') → oC 58 12 ∧ P_X12_mark 58 59 s (fun s2 => K s2) := fun s k pl hk G E h => ⟨⟨_, rfl⟩, N_mark (E.ne hk) (h s G E)⟩
    refine s_one (w := 0) TK l1 X2 (by decide) (by omega) H2.1 (fun z1 => ⟨rfl, fun z => absurd X2.2.2.1 z, fun _ => ⟨⟨_, rfl⟩, s_stepXL TK l1 X2 (fun s4 F4 X4 => ⟨⟨_, rfl⟩, ?_⟩)⟩⟩) (fun z1 s4 F4 E4 => ⟨rfl, fun _ => N_t28 (E4.ne (kK_b _)) (fin s4 _ _ (kK_b _) ((MG.wl F2).tr (MG.wl F4)) E4 (k1 z1)), fun z => absurd z (E4.ne (kK_b _))⟩)
    rw [e2] at X4
    have H4 := H2.wl F4
    have G4 : MG st s4 := (MG.wl F2).tr (MG.wl F4)
    have z1l := z1.2.2
    refine s_one (w := 1) TK l2 X4 (by decide) (by omega) H4.2.1 (fun z2 => ⟨rfl, fun z => absurd X4.2.2.1 z, fun _ => ⟨68, rfl, ?_⟩⟩) (fun z2 s5 F5 E5 => ⟨rfl, fun _ => N_t65 (E5.ne (kK_b _)) (fin s5 _ _ (kK_b _) (G4.tr (MG.wl F5)) E5 (k2 z1 z2)), fun z => absurd z (E5.ne (kK_b _))⟩)
    have z2l := z2.2.2
    have ep : (54 + 6 * iN (tN (τ i1))) + iN (tN (τ i2)) = iN (54 + (6 * tN (τ i1) + tN (τ i2))) := by
      have : iN (54 + (6 * tN (τ i1) + tN (τ i2))) = iN (54 + 6 * tN (τ i1)) + iN (tN (τ i2)) := by rw [← iN_add]; congr 1; omega
      rw [this, iN_add, iN_mul]; rfl
    have vq : vp_in (iN (54 + (6 * tN (τ i1) + tN (τ i2)))) (al 0 68) := (show vp_in (iN (54 + (6 * tN (τ i1) + tN (τ i2)))) 108 from iN_vp (by omega) (by decide))
    have e68 : gA s4 68 (54 + (6 * tN (τ i1) + tN (τ i2))) = lvC V (56 + 6 * tN (τ i1) + tN (τ i2)) := by
      rw [H4.2.2.2.2.2.2.2.1 _ (by omega), show 56 + (6 * tN (τ i1) + tN (τ i2)) = 56 + 6 * tN (τ i1) + tN (τ i2) by omega]
    rw [ep, iN_cl (by omega), e68]
    refine ⟨vq, fun z3 => ⟨rfl, fun z => absurd X4.2.2.1 z, fun _ => ⟨⟨_, rfl⟩, s_stepXL TK l2 X4 (fun s6 F6 X6 => ⟨⟨_, rfl⟩, ?_⟩)⟩⟩, fun z3 => ⟨⟨_, rfl⟩, s_wrongL X4 4 (fun s5 F5 E5 => N_t65 (E5.ne (by decide)) (fin s5 _ _ (by decide) (G4.tr (MG.wl F5)) E5 (k3 z1 z2 z3)))⟩⟩
    rw [e3] at X6
    have H6 := H4.wl F6
    have G6 : MG st s6 := G4.tr (MG.wl F6)
    refine s_num (a := 1) (b := 40) TK l3 X6 (by decide) (by decide) (fun z4 s8 F8 X8 => ⟨rfl, fun _ => ⟨68, rfl, vq, 62, rfl, v7, v7, ⟨_, rfl⟩, ?_⟩, fun z => absurd X8.2.2.1 z⟩) (fun z4 s8 F8 E8 => ⟨rfl, fun z => absurd z (E8.ne (nK_b _)), fun _ => fin s8 _ _ (nK_b _) (G6.tr (MG.wl F8)) E8 (k4 z1 z2 z3 z4)⟩)
    rw [e4] at X8
    have H8 := H6.wl F8
    have g9 : gA (sA s8 68 (54 + (6 * tN (τ i1) + tN (τ i2))) (iN (tN (τ i3)))) 62 (7 : Int32).toNatClampNeg = iN V.2.2.1 := by rw [c7, gA_sA_ne (by decide)]; exact H8.2.2.1
    rw [iN_cl (by omega), g9, iN_s, c7]
    have G9 : MG st (sA (sA s8 68 (54 + (6 * tN (τ i1) + tN (τ i2))) (iN (tN (τ i3)))) 62 7 (iN (V.2.2.1 + 1))) := ((G6.tr (MG.wl F8)).tr (MG.sa (by decide) (by decide) (by show 54 ≤ 54 + (6 * tN (τ i1) + tN (τ i2)); omega) _)).tr (MG.sa (by decide) (by decide) (by decide) _)
    have X9 := (X8.sa (x := 68) (by decide) (54 + (6 * tN (τ i1) + tN (τ i2))) (iN (tN (τ i3)))).sa (x := 62) (by decide) 7 (iN (V.2.2.1 + 1))
    have H9 : MV (sA (sA s8 68 (54 + (6 * tN (τ i1) + tN (τ i2))) (iN (tN (τ i3)))) 62 7 (iN (V.2.2.1 + 1))) (tieV V (tN (τ i1)) (tN (τ i2)) (tN (τ i3))) := by
      obtain ⟨b1, b2, b3, b4, b5, b6, b7, b8, b9, b10⟩ := H8
      have o : ∀ x, x ≠ 62 → x ≠ 68 → gA (sA (sA s8 68 (54 + (6 * tN (τ i1) + tN (τ i2))) (iN (tN (τ i3)))) 62 7 (iN (V.2.2.1 + 1))) x = gA s8 x := fun x y1 y2 => by rw [gA_sA_ne y1, gA_sA_ne y2]
      have o62 : ∀ j, j ≠ 7 → gA (sA (sA s8 68 (54 + (6 * tN (τ i1) + tN (τ i2))) (iN (tN (τ i3)))) 62 7 (iN (V.2.2.1 + 1))) 62 j = gA s8 62 j := fun j hj => by rw [gA_sA, upd_ne hj, gA_sA_ne (by decide)]
      have lo : ∀ j, j ≠ 56 + 6 * tN (τ i1) + tN (τ i2) → lvC (tieV V (tN (τ i1)) (tN (τ i2)) (tN (τ i3))) j = lvC V j := fun j y1 => by
        show upd (lvC V) _ _ j = _
        rw [upd_ne y1]
      refine ⟨by rw [o62 5 (by decide)]; exact b1, by rw [o62 6 (by decide)]; exact b2, by rw [gA_sA, upd_same]; rfl, by rw [o62 8 (by decide)]; exact b4, by rw [o62 9 (by decide)]; exact b5, fun x hx => ?_, fun b hb => ?_, fun k hk => ?_, fun k hk => by rw [o 69 (by decide) (by decide)]; exact b9 k hk, fun k hk => by rw [o 70 (by decide) (by decide)]; exact b10 k hk⟩
      · have hx9 : x < V.1 := hx
        rw [o 63 (by decide) (by decide), o 64 (by decide) (by decide), o 65 (by decide) (by decide), o 66 (by decide) (by decide), lo _ (by omega), lo _ (by omega), lo _ (by omega)]
        exact b6 x hx
      · have hb9 : b < V.2.1 := hb
        rw [o 67 (by decide) (by decide), lo _ (by omega)]
        exact b7 b hb
      · rw [gA_sA_ne (by decide), gA_sA]
        by_cases e : k = 6 * tN (τ i1) + tN (τ i2)
        · show _ = upd (lvC V) (56 + 6 * tN (τ i1) + tN (τ i2)) (iN (tN (τ i3))) (56 + k)
          rw [e, upd_same, show 56 + (6 * tN (τ i1) + tN (τ i2)) = 56 + 6 * tN (τ i1) + tN (τ i2) by omega, upd_same]
        · rw [upd_ne (by omega), lo _ (by omega)]
          exact b8 k hk
    exact s_markL TK l4 X9 (by decide) (fun z5 s10 F10 X10 => k6 z1 z2 z3 z4 z5 s10 (G9.tr (MG.wl F10)) (by rw [e5] at X10; exact X10) (H9.wl F10)) (fun z5 s10 F10 E10 => k5 z1 z2 z3 z4 z5 s10 (G9.tr (MG.wl F10)) E10)
  · have z : gA st 62 7 = iN 24 := z
    rw [H.2.2.1] at z
    have := (iN_eq (by omega) (by decide)).mp z
    omega
theorem ln_tie (TK : Tks T n τ) (hp : isPl p) {V : LV} (hV : VOk V) {i : Nat} (hi : i ≤ n) (hk : tK (τ i) ≠ 0) : LRes T n τ p i V ((lvW V).1, (lvM V).1) (P_X4_readTie 34) (fun st K => P_X12_sayTie 58 st (fun s => oC 58 12 ∧ P_X12_mark 58 59 s (fun s2 => K s2))) := by
  have n7 := TK.1
  have v1 := hV.1
  have v2 := hV.2.1
  have N0 := (TK.2 i hi).1
  have l1 := N0.2.2.1
  have N1 := (TK.2 _ l1).1
  have l2 := N1.2.2.1
  have N2 := (TK.2 _ l2).1
  have l3 := N2.2.2.1
  have N3 := (TK.2 _ l3).1
  have l4 := N3.2.2.1
  have N4 := (TK.2 _ l4).1
  have lt := N0.2.2.2.1 hk
  have a0 := N0.1
  have a1 := N1.1
  have b1 := N1.2.1
  have a2 := N2.1
  have b2 := N2.2.1
  have a3 := N3.1
  have b3 := N3.2.1
  have a4 := N4.1
  have b4 := N4.2.1
  have c4 := N4.2.2.1
  generalize e1 : tE (τ i) = i1 at *
  generalize e2 : tE (τ i1) = i2 at *
  generalize e3 : tE (τ i2) = i3 at *
  generalize e4 : tE (τ i3) = i4 at *
  generalize e5 : tE (τ i4) = i5 at *
  by_cases h24 : V.2.2.1 < 24
  · by_cases z1 : kOkT (τ i1) V.1
    · by_cases z2 : kOkT (τ i2) V.2.1
      · have z1l := z1.2.2
        have z2l := z2.2.2
        by_cases z3 : lvC V (56 + 6 * tN (τ i1) + tN (τ i2)) ≤ 0
        · by_cases z4 : nOk (τ i3) 1 40
          · by_cases z5 : tS (τ i4) = 59
            · exact Or.inl ⟨i5, _, by omega, by omega, hV.tie h24 (by omega) (by omega) z4.2.2.2, rfl, rfl, fun st post X H h => tieC2 TK hp hV e1 e2 e3 e4 e5 hi h24 X H (fun _ _ _ _ _ => h) (fun _ _ _ _ y => absurd z5 y) (fun _ _ _ y => absurd z4 y) (fun _ _ y => absurd z3 y) (fun _ y => absurd z2 y) (fun y => absurd z1 y), fun st K X H h => tieM2 TK hV e1 e2 e3 e4 e5 hi h24 X H (fun _ _ _ _ _ => h) (fun _ _ _ _ y => absurd z5 y) (fun _ _ _ y => absurd z4 y) (fun _ _ y => absurd z3 y) (fun _ y => absurd z2 y) (fun y => absurd z1 y)⟩
            · exact Or.inr ⟨1, _, by decide, (by omega : tB (τ i4) ≤ 700), fun st post X H h => tieC2 TK hp hV e1 e2 e3 e4 e5 hi h24 X H (fun _ _ _ _ y => absurd y z5) (fun _ _ _ _ _ => h) (fun _ _ _ y => absurd z4 y) (fun _ _ y => absurd z3 y) (fun _ y => absurd z2 y) (fun y => absurd z1 y), fun st K X H h => tieM2 TK hV e1 e2 e3 e4 e5 hi h24 X H (fun _ _ _ _ y => absurd y z5) (fun _ _ _ _ _ => h) (fun _ _ _ y => absurd z4 y) (fun _ _ y => absurd z3 y) (fun _ y => absurd z2 y) (fun y => absurd z1 y)⟩
          · exact Or.inr ⟨_, _, nK_b (τ i3), (by omega : tB (τ i3) ≤ 700), fun st post X H h => tieC2 TK hp hV e1 e2 e3 e4 e5 hi h24 X H (fun _ _ _ y => absurd y z4) (fun _ _ _ y => absurd y z4) (fun _ _ _ _ => h) (fun _ _ y => absurd z3 y) (fun _ y => absurd z2 y) (fun y => absurd z1 y), fun st K X H h => tieM2 TK hV e1 e2 e3 e4 e5 hi h24 X H (fun _ _ _ y => absurd y z4) (fun _ _ _ y => absurd y z4) (fun _ _ _ _ => h) (fun _ _ y => absurd z3 y) (fun _ y => absurd z2 y) (fun y => absurd z1 y)⟩
        · exact Or.inr ⟨4, _, by decide, (by omega : tB (τ i2) ≤ 700), fun st post X H h => tieC2 TK hp hV e1 e2 e3 e4 e5 hi h24 X H (fun _ _ y => absurd y z3) (fun _ _ y => absurd y z3) (fun _ _ y => absurd y z3) (fun _ _ _ => h) (fun _ y => absurd z2 y) (fun y => absurd z1 y), fun st K X H h => tieM2 TK hV e1 e2 e3 e4 e5 hi h24 X H (fun _ _ y => absurd y z3) (fun _ _ y => absurd y z3) (fun _ _ y => absurd y z3) (fun _ _ _ => h) (fun _ y => absurd z2 y) (fun y => absurd z1 y)⟩
      · exact Or.inr ⟨_, _, kK_b (τ i2), (by omega : tB (τ i2) ≤ 700), fun st post X H h => tieC2 TK hp hV e1 e2 e3 e4 e5 hi h24 X H (fun _ y => absurd y z2) (fun _ y => absurd y z2) (fun _ y => absurd y z2) (fun _ y => absurd y z2) (fun _ _ => h) (fun y => absurd z1 y), fun st K X H h => tieM2 TK hV e1 e2 e3 e4 e5 hi h24 X H (fun _ y => absurd y z2) (fun _ y => absurd y z2) (fun _ y => absurd y z2) (fun _ y => absurd y z2) (fun _ _ => h) (fun y => absurd z1 y)⟩
    · exact Or.inr ⟨_, _, kK_b (τ i1), (by omega : tB (τ i1) ≤ 700), fun st post X H h => tieC2 TK hp hV e1 e2 e3 e4 e5 hi h24 X H (fun y => absurd y z1) (fun y => absurd y z1) (fun y => absurd y z1) (fun y => absurd y z1) (fun y => absurd y z1) (fun _ => h), fun st K X H h => tieM2 TK hV e1 e2 e3 e4 e5 hi h24 X H (fun y => absurd y z1) (fun y => absurd y z1) (fun y => absurd y z1) (fun y => absurd y z1) (fun y => absurd y z1) (fun _ => h)⟩
  · have e24 : V.2.2.1 = 24 := by have := hV.2.2.1; omega
    refine Or.inr ⟨2, tB (τ i), by decide, by omega, fun st post X H h => ⟨rfl, fun z => ?_, fun _ => ⟨⟨_, rfl⟩, err_C X 2 h⟩⟩, fun st K X H h => ⟨⟨_, rfl⟩, ano_full (w := 2) (m := 24) (by decide) X (by rw [← e24]; exact H.2.2.1) (fun s2 F2 E2 => ⟨fun z => absurd rfl z, fun _ => ⟨⟨_, rfl⟩, N_mark (E2.ne (by decide)) (h s2 (MG.wl F2) E2)⟩⟩)⟩⟩
    rw [H.2.2.2.1] at z
    exact absurd ((iN_lt (b := 24) (by omega) (by decide)).mp z) (by omega)
end L4
