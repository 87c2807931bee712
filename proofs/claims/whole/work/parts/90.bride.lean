/-! PURE: lines: a person, a bride, a tie -/
section L3
variable {T : Nat → Int32} {n : Nat} {τ : Nat → Tok} {p : Nat}
theorem err_C {st : St} {i : Nat} (X : CT T n τ st i) (k : Nat) {post : Int32 → St → Prop} (h : ∀ st', CG p st st' → CEl st' k (tB (τ i)) → post 0 st') : P_X4_refuseToken 34 (iN k) st (fun z st_2 => (z = 0 ∨ z = 1) ∧ post z st_2) := by
  obtain ⟨F, E⟩ := X.er k
  exact ⟨rfl, Or.inl rfl, h _ (CG.wl F) E⟩
/-- the reference finds a row full -/
theorem ano_full {st : St} {i w m : Nat} (hw : w < 5) (X : MT T n τ st i) (e62 : gA st 62 (5 + w) = iN m) {post : Int32 → St → Prop} (h : ∀ st', MWl st st' → ME st' 2 (tB (τ i)) → post 0 st') : P_X12_another 58 (iN w) (iN m) st post := by
  have e5 : (5 : Int32) + iN w = iN (5 + w) := (iN_add 5 w).symm
  unfold P_X12_another
  rw [e5, iN_cl (by omega)]
  refine ⟨62, rfl, by rw [al62]; exact iN_vp (by omega) (by decide), fun z => absurd e62 z, fun _ => ⟨⟨_, rfl⟩, s_wrongL X 2 (fun st' F E => ⟨rfl, fun z => absurd z (E.ne (by decide)), fun _ => h st' F E⟩)⟩⟩
theorem VOk.per {V : LV} (h : VOk V) (h9 : V.1 < 9) (w a b c : Nat) : VOk (perV V w a b c) := by
  obtain ⟨v1, v2, v3, v4, v5, v6, v7, v8, v9, v10⟩ := h
  have lo : ∀ j, j ≠ 2 + 4 * V.1 → j ≠ 2 + 4 * V.1 + 1 → j ≠ 2 + 4 * V.1 + 2 → lvC (perV V w a b c) j = lvC V j := fun j y1 y2 y3 => by
    show upd (upd (upd (lvC V) _ _) _ _) _ _ j = _
    rw [upd_ne y3, upd_ne y2, upd_ne y1]
  refine ⟨h9, v2, v3, by rw [lo _ (by omega) (by omega) (by omega)]; exact v4, by rw [lo _ (by omega) (by omega) (by omega)]; exact v5, fun x hx => ⟨by rw [lo _ (by omega) (by omega) (by omega)]; exact (v6 x hx).1, fun hx2 => ?_⟩, fun x hx => ?_, fun k hk => by rw [lo _ (by omega) (by omega) (by omega)]; exact v8 k hk, v9, v10⟩
  · have hx2 : V.1 + 1 ≤ x := hx2
    rw [lo _ (by omega) (by omega) (by omega), lo _ (by omega) (by omega) (by omega), lo _ (by omega) (by omega) (by omega)]
    exact (v6 x hx).2 (by omega)
  · rw [lo _ (by omega) (by omega) (by omega), lo _ (by omega) (by omega) (by omega), lo _ (by omega) (by omega) (by omega)]
    exact v7 x hx
theorem ln_person (TK : Tks T n τ) (hp : isPl p) {V : LV} (hV : VOk V) {i w : Nat} (hi : i ≤ n) (hk : tK (τ i) ≠ 0) : LRes T n τ p i V ((lvW V).1, (lvM V).1) (P_X4_readPerson 34 (iN w)) (fun st K => P_X12_sayPerson 58 (iN w) st (fun s => oC 58 12 ∧ P_X12_mark 58 59 s (fun s2 => K s2))) := by
  have n7 := TK.1
  have N0 := (TK.2 i hi).1
  have l1 := N0.2.2.1
  have N1 := (TK.2 _ l1).1
  have l2 := N1.2.2.1
  have N2 := (TK.2 _ l2).1
  have l3 := N2.2.2.1
  have N3 := (TK.2 _ l3).1
  have l4 := N3.2.2.1
  have N4 := (TK.2 _ l4).1
  have lt := N0.2.2.2.1 hk
  have a0 := N0.1
  have a1 := N1.1
  have b1 := N1.2.1
  have a2 := N2.1
  have b2 := N2.2.1
  have a3 := N3.1
  have b3 := N3.2.1
  have a4 := N4.1
  have b4 := N4.2.1
  have c4 := N4.2.2.1
  generalize e1 : tE (τ i) = i1 at *
  generalize e2 : tE (τ i1) = i2 at *
  generalize e3 : tE (τ i2) = i3 at *
  generalize e4 : tE (τ i3) = i4 at *
  generalize e5 : tE (τ i4) = i5 at *
  by_cases h9 : V.1 < 9
  · by_cases z1 : nOk (τ i1) 0 99
    · by_cases z2 : nOk (τ i2) 0 9
      · by_cases z3 : nOk (τ i3) 0 9
        · by_cases z4 : tS (τ i4) = 59
          · exact Or.inl ⟨i5, _, by omega, by omega, hV.per h9 w _ _ _, rfl, rfl, fun st post X H h => perC TK hp e1 e2 e3 e4 e5 hi h9 X H (fun _ _ _ _ => h) (fun _ _ _ y => absurd z4 y) (fun _ _ y => absurd z3 y) (fun _ y => absurd z2 y) (fun y => absurd z1 y), fun st K X H h => perM TK e1 e2 e3 e4 e5 hi h9 X H (fun _ _ _ _ => h) (fun _ _ _ y => absurd z4 y) (fun _ _ y => absurd z3 y) (fun _ y => absurd z2 y) (fun y => absurd z1 y)⟩
          · exact Or.inr ⟨1, _, by decide, (by omega : tB (τ i4) ≤ 700), fun st post X H h => perC TK hp e1 e2 e3 e4 e5 hi h9 X H (fun _ _ _ y => absurd y z4) (fun _ _ _ _ => h) (fun _ _ y => absurd z3 y) (fun _ y => absurd z2 y) (fun y => absurd z1 y), fun st K X H h => perM TK e1 e2 e3 e4 e5 hi h9 X H (fun _ _ _ y => absurd y z4) (fun _ _ _ _ => h) (fun _ _ y => absurd z3 y) (fun _ y => absurd z2 y) (fun y => absurd z1 y)⟩
        · exact Or.inr ⟨_, _, nK_b (τ i3), (by omega : tB (τ i3) ≤ 700), fun st post X H h => perC TK hp e1 e2 e3 e4 e5 hi h9 X H (fun _ _ y => absurd y z3) (fun _ _ y => absurd y z3) (fun _ _ _ => h) (fun _ y => absurd z2 y) (fun y => absurd z1 y), fun st K X H h => perM TK e1 e2 e3 e4 e5 hi h9 X H (fun _ _ y => absurd y z3) (fun _ _ y => absurd y z3) (fun _ _ _ => h) (fun _ y => absurd z2 y) (fun y => absurd z1 y)⟩
      · exact Or.inr ⟨_, _, nK_b (τ i2), (by omega : tB (τ i2) ≤ 700), fun st post X H h => perC TK hp e1 e2 e3 e4 e5 hi h9 X H (fun _ y => absurd y z2) (fun _ y => absurd y z2) (fun _ y => absurd y z2) (fun _ _ => h) (fun y => absurd z1 y), fun st K X H h => perM TK e1 e2 e3 e4 e5 hi h9 X H (fun _ y => absurd y z2) (fun _ y => absurd y z2) (fun _ y => absurd y z2) (fun _ _ => h) (fun y => absurd z1 y)⟩
    · exact Or.inr ⟨_, _, nK_b (τ i1), (by omega : tB (τ i1) ≤ 700), fun st post X H h => perC TK hp e1 e2 e3 e4 e5 hi h9 X H (fun y => absurd y z1) (fun y => absurd y z1) (fun y => absurd y z1) (fun y => absurd y z1) (fun _ => h), fun st K X H h => perM TK e1 e2 e3 e4 e5 hi h9 X H (fun y => absurd y z1) (fun y => absurd y z1) (fun y => absurd y z1) (fun y => absurd y z1) (fun _ => h)⟩
  · have e9 : V.1 = 9 := by have := hV.1; omega
    refine Or.inr ⟨2, tB (τ i), by decide, by omega, fun st post X H h => ?_, fun st K X H h => ⟨⟨_, rfl⟩, ano_full (w := 0) (m := 9) (by decide) X (by rw [← e9]; exact H.1) (fun s2 F2 E2 => ⟨fun z => absurd rfl z, fun _ => ⟨⟨_, rfl⟩, N_mark (E2.ne (by decide)) (h s2 (MG.wl F2) E2)⟩⟩)⟩⟩
    refine ⟨30, rfl, p, H.1, pl_0 hp, fun z => ?_, fun _ => ⟨⟨_, rfl⟩, err_C X 2 h⟩⟩
    rw [H.2.1] at z
    exact absurd ((iN_lt (b := 9) (by omega) (by decide)).mp z) (by omega)
/-! a bride -/
def briV (V : LV) (a : Nat) : LV := (V.1, V.2.1 + 1, V.2.2.1, V.2.2.2.1, upd (upd (upd (lvC V) (38 + 3 * V.2.1) (iN a)) (38 + 3 * V.2.1 + 1) 1) (38 + 3 * V.2.1 + 2) (-1), lvW V, lvM V)
theorem VOk.bri {V : LV} (h : VOk V) (h6 : V.2.1 < 6) (a : Nat) (ha : a ≤ 60) : VOk (briV V a) := by
  obtain ⟨v1, v2, v3, v4, v5, v6, v7, v8, v9, v10⟩ := h
  have lo : ∀ j, j ≠ 38 + 3 * V.2.1 → j ≠ 38 + 3 * V.2.1 + 1 → j ≠ 38 + 3 * V.2.1 + 2 → lvC (briV V a) j = lvC V j := fun j y1 y2 y3 => by
    show upd (upd (upd (lvC V) _ _) _ _) _ _ j = _
    rw [upd_ne y3, upd_ne y2, upd_ne y1]
  refine ⟨v1, h6, v3, by rw [lo _ (by omega) (by omega) (by omega)]; exact v4, by rw [lo _ (by omega) (by omega) (by omega)]; exact v5, fun x hx => ?_, fun x hx => ⟨fun hx2 => ?_, fun hx2 => ?_⟩, fun k hk => by rw [lo _ (by omega) (by omega) (by omega)]; exact v8 k hk, v9, v10⟩
  · rw [lo _ (by omega) (by omega) (by omega), lo _ (by omega) (by omega) (by omega), lo _ (by omega) (by omega) (by omega), lo _ (by omega) (by omega) (by omega)]
    exact v6 x hx
  · have hx2 : x < V.2.1 + 1 := hx2
    by_cases e : x = V.2.1
    · subst e
      show upd (upd (upd (lvC V) (38 + 3 * V.2.1) (iN a)) (38 + 3 * V.2.1 + 1) 1) (38 + 3 * V.2.1 + 2) (-1) (38 + 3 * V.2.1 + 1) = 1 ∧ upd (upd (upd (lvC V) (38 + 3 * V.2.1) (iN a)) (38 + 3 * V.2.1 + 1) 1) (38 + 3 * V.2.1 + 2) (-1) (38 + 3 * V.2.1 + 2) = -1 ∧ 0 ≤ upd (upd (upd (lvC V) (38 + 3 * V.2.1) (iN a)) (38 + 3 * V.2.1 + 1) 1) (38 + 3 * V.2.1 + 2) (-1) (38 + 3 * V.2.1)
      rw [upd_ne (by omega), upd_same, upd_same, upd_ne (by omega), upd_ne (by omega), upd_same]
      exact ⟨rfl, rfl, (iN_le (a := 0) (by decide) (by omega)).mpr (Nat.zero_le _)⟩
    · rw [lo _ (by omega) (by omega) (by omega), lo _ (by omega) (by omega) (by omega), lo _ (by omega) (by omega) (by omega)]
      exact (v7 x hx).1 (by omega)
  · have hx2 : V.2.1 + 1 ≤ x := hx2
    rw [lo _ (by omega) (by omega) (by omega), lo _ (by omega) (by omega) (by omega), lo _ (by omega) (by omega) (by omega)]
    exact (v7 x hx).2 (by omega)
theorem briC (TK : Tks T n τ) (hp : isPl p) {V : LV} {i i1 i2 i3 : Nat} (e1 : tE (τ i) = i1) (e2 : tE (τ i1) = i2) (e3 : tE (τ i2) = i3) (hi : i ≤ n) (h6 : V.2.1 < 6) {st : St} (X : CT T n τ st i) (H : CV p st V) {post : Int32 → St → Prop}
    (k3 : nOk (τ i1) 0 60 → tS (τ i2) = 59 → ∀ st', CG p st st' → CT T n τ st' i3 → CV p st' (briV V (tN (τ i1))) → post 1 st')
    (k2 : nOk (τ i1) 0 60 → tS (τ i2) ≠ 59 → ∀ st', CG p st st' → CEl st' 1 (tB (τ i2)) → post 0 st')
    (k1 : ¬ nOk (τ i1) 0 60 → ∀ st', CG p st st' → CEl st' (nK (τ i1)) (tB (τ i1)) → post 0 st') : P_X4_readBride 34 st post := by
  obtain ⟨⟨n1, n2⟩, _, _, ⟨n7, n71⟩, _⟩ := pl_ne hp
  have l1 : i1 ≤ n := by rw [← e1]; exact (TK.2 i hi).1.2.2.1
  have l2 : i2 ≤ n := by rw [← e2]; exact (TK.2 i1 l1).1.2.2.1
  have a31 : CGa p 31 := Or.inl rfl
  unfold P_X4_readBride
  refine ⟨30, rfl, p, H.1, pl_1 hp, fun _ => ⟨35, rfl, ⟨_, rfl⟩, l_adv TK hi X (fun s5 F5 X5 => ⟨⟨_, rfl⟩, ?_⟩)⟩, fun hz => absurd ?_ hz⟩
  · rw [e1] at X5
    have H5 := H.wl hp F5
    refine l_num (a := 0) (b := 60) TK l1 X5 (by decide) (by decide) (fun z1 s8 F8 X8 g8 => ⟨fun _ => ⟨30, rfl, rfl, ⟨_, rfl⟩, ?_⟩, fun z => absurd z (by decide)⟩) (fun z1 s8 F8 E8 => ⟨fun z => absurd rfl z, fun _ => k1 z1 s8 ((CG.wl F5).tr (CG.wl F8)) E8⟩)
    rw [g8, H.2.2.1]
    rw [e2] at X8
    refine s_welcome isDa30 h6 ⟨pl_1 hp, pl_1 hp, ⟨_, rfl⟩, ?_⟩
    have H8 := (((H5.wl hp F8).sc hp (38 + 3 * V.2.1) (iN (tN (τ i1)))).sc hp (38 + 3 * V.2.1 + 1) 1).sc hp (38 + 3 * V.2.1 + 2) (-1)
    have X8 := ((X8.sa (x := ch 30 1) (by decide) (38 + 3 * V.2.1) (iN (tN (τ i1)))).sa (x := ch 30 1) (by decide) (38 + 3 * V.2.1 + 1) 1).sa (x := ch 30 1) (by decide) (38 + 3 * V.2.1 + 2) (-1)
    have G8 : CG p st (sA (sA (sA s8 (ch 30 1) (38 + 3 * V.2.1) (iN (tN (τ i1)))) (ch 30 1) (38 + 3 * V.2.1 + 1) 1) (ch 30 1) (38 + 3 * V.2.1 + 2) (-1)) := (((((CG.wl F5).tr (CG.wl F8)).tr (CG.sa a31 _ _)).tr (CG.sa a31 _ _)).tr (CG.sa a31 _ _))
    have H8 : CV p (sA (sA (sA s8 (ch 30 1) (38 + 3 * V.2.1) (iN (tN (τ i1)))) (ch 30 1) (38 + 3 * V.2.1 + 1) 1) (ch 30 1) (38 + 3 * V.2.1 + 2) (-1)) _ := H8
    generalize sA (sA (sA s8 (ch 30 1) (38 + 3 * V.2.1) (iN (tN (τ i1)))) (ch 30 1) (38 + 3 * V.2.1 + 1) 1) (ch 30 1) (38 + 3 * V.2.1 + 2) (-1) = s9 at *
    have ep : gI s9 p 1 = iN V.2.1 := H8.2.2.1
    rw [ep, iN_s]
    have X13 := X8.si (o := p) n2 (k := 1) (Or.inl n1) (iN (V.2.1 + 1))
    have G13 : CG p st (sI s9 p 1 (iN (V.2.1 + 1))) := G8.tr (CG.si (Or.inr (Or.inr (Or.inl rfl))) _ _)
    have H13 : CV p (sI s9 p 1 (iN (V.2.1 + 1))) (briV V (tN (τ i1))) := by
      obtain ⟨h1, h2, h3, h4, h5, h6, h7, h8⟩ := H8
      obtain ⟨_, ⟨n3, n4⟩, ⟨n5, n6⟩, _, _, _, m1, m2, _⟩ := pl_ne hp
      exact ⟨h1, by rw [gI_sI_ne (fun z => absurd z.2 (by decide))]; exact h2, gI_sI _ _ _ _, by rw [gI_sI_ne (fun z => n1 z.1.symm)]; exact h4, h5, h6, h7.cg (fun k => gI_sI_ne (fun z => m1 z.1)) rfl, h8.cg (fun k => gI_sI_ne (fun z => m2 z.1)) rfl⟩
    exact l_sign TK l2 X13 (fun z4 s14 F14 X14 => ⟨Or.inr rfl, k3 z1 z4 s14 (G13.tr (CG.wl F14)) (by rw [e3] at X14; exact X14) (H13.wl hp F14)⟩) (fun z4 s14 F14 E14 => ⟨Or.inl rfl, k2 z1 z4 s14 (G13.tr (CG.wl F14)) E14⟩)
  · rw [H.2.2.1]; exact (iN_lt (b := 6) (by omega) (by decide)).mpr h6
theorem briM (TK : Tks T n τ) {V : LV} {i i1 i2 i3 : Nat} (e1 : tE (τ i) = i1) (e2 : tE (τ i1) = i2) (e3 : tE (τ i2) = i3) (hi : i ≤ n) (h6 : V.2.1 < 6) {st : St} (X : MT T n τ st i) (H : MV st V) (v9 : V.1 ≤ 9) {K : St → Prop}
    (k3 : nOk (τ i1) 0 60 → tS (τ i2) = 59 → ∀ st', MG st st' → MT T n τ st' i3 → MV st' (briV V (tN (τ i1))) → K st')
    (k2 : nOk (τ i1) 0 60 → tS (τ i2) ≠ 59 → ∀ st', MG st st' → ME st' 1 (tB (τ i2)) → K st')
    (k1 : ¬ nOk (τ i1) 0 60 → ∀ st', MG st st' → ME st' (nK (τ i1)) (tB (τ i1)) → K st') : P_X12_sayBride 58 st (fun s => oC 58 12 ∧ P_X12_mark 58 59 s (fun s2 => K s2)) := by
  have l1 : i1 ≤ n := by rw [← e1]; exact (TK.2 i hi).1.2.2.1
  have l2 : i2 ≤ n := by rw [← e2]; exact (TK.2 i1 l1).1.2.2.1
  have v6 : vp_in 6 (al 0 62) := iN_vp (j := 6) (by decide) (by decide)
  have c6 : (6 : Int32).toNatClampNeg = 6 := rfl
  have ep : 6 + iN V.2.1 = iN (6 + V.2.1) := (iN_add 6 V.2.1).symm
  have c9 : (iN (6 + V.2.1)).toNatClampNeg = 6 + V.2.1 := iN_cl (by omega)
  have vw : vp_in (iN (6 + V.2.1)) (al 0 67) := (show vp_in (iN (6 + V.2.1)) 12 from iN_vp (by omega) (by decide))
  refine ⟨⟨_, rfl⟩, 62, rfl, v6, fun _ => ⟨rfl, fun _ => ⟨⟨_, rfl⟩, s_stepXL TK hi X (fun s2 F2 X2 => ⟨fun _ => ⟨67, rfl, 62, rfl, v6, ⟨_, rfl⟩, ?_⟩, fun z => absurd z (by decide)⟩)⟩, fun z => absurd X.2.2.1 z⟩, fun z => ?_⟩
  · rw [e1] at X2
    have H2 := H.wl F2
    have g6 : gA s2 62 (6 : Int32).toNatClampNeg = iN V.2.1 := H2.2.1
    rw [g6, ep, c9]
    refine s_num (a := 0) (b := 60) TK l1 X2 (by decide) (by decide) (fun z1 s4 F4 X4 => ⟨vw, 62, rfl, v6, v6, ⟨_, rfl⟩, ?_⟩) (fun z1 s4 F4 E4 => ⟨vw, 62, rfl, v6, v6, ⟨_, rfl⟩, N_mark (st := sA (sA s4 67 (6 + V.2.1) 0) 62 6 _) (E4.ne (nK_b _)) (k1 z1 _ ((((MG.wl F2).tr (MG.wl F4)).tr (MG.sa (by decide) (by decide) (by show 6 ≤ 6 + V.2.1; omega) _)).tr (MG.sa (by decide) (by decide) (by decide) _)) E4)⟩)
    rw [e2] at X4
    have H4 := H2.wl F4
    have g9 : gA (sA s4 67 (6 + V.2.1) (iN (tN (τ i1)))) 62 (6 : Int32).toNatClampNeg = iN V.2.1 := by rw [c6, gA_sA_ne (by decide)]; exact H4.2.1
    rw [g9, iN_s, c6]
    have G9 : MG st (sA (sA s4 67 (6 + V.2.1) (iN (tN (τ i1)))) 62 6 (iN (V.2.1 + 1))) := (((MG.wl F2).tr (MG.wl F4)).tr (MG.sa (by decide) (by decide) (by show 6 ≤ 6 + V.2.1; omega) _)).tr (MG.sa (by decide) (by decide) (by decide) _)
    have X9 := (X4.sa (x := 67) (by decide) (6 + V.2.1) (iN (tN (τ i1)))).sa (x := 62) (by decide) 6 (iN (V.2.1 + 1))
    have H9 : MV (sA (sA s4 67 (6 + V.2.1) (iN (tN (τ i1)))) 62 6 (iN (V.2.1 + 1))) (briV V (tN (τ i1))) := by
      obtain ⟨b1, b2, b3, b4, b5, b6, b7, b8, b9, b10⟩ := H4
      have o : ∀ x, x ≠ 62 → x ≠ 67 → gA (sA (sA s4 67 (6 + V.2.1) (iN (tN (τ i1)))) 62 6 (iN (V.2.1 + 1))) x = gA s4 x := fun x y1 y2 => by rw [gA_sA_ne y1, gA_sA_ne y2]
      have o62 : ∀ j, j ≠ 6 → gA (sA (sA s4 67 (6 + V.2.1) (iN (tN (τ i1)))) 62 6 (iN (V.2.1 + 1))) 62 j = gA s4 62 j := fun j hj => by rw [gA_sA, upd_ne hj, gA_sA_ne (by decide)]
      have lo : ∀ j, j ≠ 38 + 3 * V.2.1 → j ≠ 38 + 3 * V.2.1 + 1 → j ≠ 38 + 3 * V.2.1 + 2 → lvC (briV V (tN (τ i1))) j = lvC V j := fun j y1 y2 y3 => by
        show upd (upd (upd (lvC V) _ _) _ _) _ _ j = _
        rw [upd_ne y3, upd_ne y2, upd_ne y1]
      refine ⟨by rw [o62 5 (by decide)]; exact b1, by rw [gA_sA, upd_same]; rfl, by rw [o62 7 (by decide)]; exact b3, by rw [o62 8 (by decide)]; exact b4, by rw [o62 9 (by decide)]; exact b5, fun x hx => ?_, fun b hb => ?_, fun k hk => by rw [o 68 (by decide) (by decide), lo _ (by omega) (by omega) (by omega)]; exact b8 k hk, fun k hk => by rw [o 69 (by decide) (by decide)]; exact b9 k hk, fun k hk => by rw [o 70 (by decide) (by decide)]; exact b10 k hk⟩
      · have hx9 := hx
        rw [o 63 (by decide) (by decide), o 64 (by decide) (by decide), o 65 (by decide) (by decide), o 66 (by decide) (by decide)]
        by_cases x9 : x < 9
        · rw [lo _ (by omega) (by omega) (by omega), lo _ (by omega) (by omega) (by omega), lo _ (by omega) (by omega) (by omega)]
          exact b6 x hx
        · exact absurd (show x < V.1 from hx) (by omega)
      · have hb : b < V.2.1 + 1 := hb
        rw [gA_sA_ne (by decide), gA_sA]
        by_cases e : b = V.2.1
        · subst e
          show _ = upd (upd (upd (lvC V) (38 + 3 * V.2.1) (iN (tN (τ i1)))) (38 + 3 * V.2.1 + 1) 1) (38 + 3 * V.2.1 + 2) (-1) (38 + 3 * V.2.1)
          rw [upd_same, upd_ne (by omega), upd_ne (by omega), upd_same]
        · rw [upd_ne (by omega), lo _ (by omega) (by omega) (by omega)]
          exact b7 b (by omega)
    exact s_markL TK l2 X9 (by decide) (fun z4 s10 F10 X10 => k3 z1 z4 s10 (G9.tr (MG.wl F10)) (by rw [e3] at X10; exact X10) (H9.wl F10)) (fun z4 s10 F10 E10 => k2 z1 z4 s10 (G9.tr (MG.wl F10)) E10)
  · have z : gA st 62 6 = iN 6 := z
    rw [H.2.1] at z
    have := (iN_eq (by omega) (by decide)).mp z
    omega
theorem ln_bride (TK : Tks T n τ) (hp : isPl p) {V : LV} (hV : VOk V) {i : Nat} (hi : i ≤ n) (hk : tK (τ i) ≠ 0) : LRes T n τ p i V ((lvW V).1, (lvM V).1) (P_X4_readBride 34) (fun st K => P_X12_sayBride 58 st (fun s => oC 58 12 ∧ P_X12_mark 58 59 s (fun s2 => K s2))) := by
  have n7 := TK.1
  have v9 := hV.1
  have N0 := (TK.2 i hi).1
  have l1 := N0.2.2.1
  have N1 := (TK.2 _ l1).1
  have l2 := N1.2.2.1
  have N2 := (TK.2 _ l2).1
  have l3 := N2.2.2.1
  have lt := N0.2.2.2.1 hk
  have a0 := N0.1
  have a1 := N1.1
  have b1 := N1.2.1
  have a2 := N2.1
  have b2 := N2.2.1
  generalize e1 : tE (τ i) = i1 at *
  generalize e2 : tE (τ i1) = i2 at *
  generalize e3 : tE (τ i2) = i3 at *
  by_cases h6 : V.2.1 < 6
  · by_cases z1 : nOk (τ i1) 0 60
    · by_cases z2 : tS (τ i2) = 59
      · exact Or.inl ⟨i3, _, by omega, by omega, hV.bri h6 _ z1.2.2.2, rfl, rfl, fun st post X H h => briC TK hp e1 e2 e3 hi h6 X H (fun _ _ => h) (fun _ y => absurd z2 y) (fun y => absurd z1 y), fun st K X H h => briM TK e1 e2 e3 hi h6 X H v9 (fun _ _ => h) (fun _ y => absurd z2 y) (fun y => absurd z1 y)⟩
      · exact Or.inr ⟨1, _, by decide, (by omega : tB (τ i2) ≤ 700), fun st post X H h => briC TK hp e1 e2 e3 hi h6 X H (fun _ y => absurd y z2) (fun _ _ => h) (fun y => absurd z1 y), fun st K X H h => briM TK e1 e2 e3 hi h6 X H v9 (fun _ y => absurd y z2) (fun _ _ => h) (fun y => absurd z1 y)⟩
    · exact Or.inr ⟨_, _, nK_b (τ i1), (by omega : tB (τ i1) ≤ 700), fun st post X H h => briC TK hp e1 e2 e3 hi h6 X H (fun y => absurd y z1) (fun y => absurd y z1) (fun _ => h), fun st K X H h => briM TK e1 e2 e3 hi h6 X H v9 (fun y => absurd y z1) (fun y => absurd y z1) (fun _ => h)⟩
  · have e6 : V.2.1 = 6 := by have := hV.2.1; omega
    refine Or.inr ⟨2, tB (τ i), by decide, by omega, fun st post X H h => ?_, fun st K X H h => ⟨⟨_, rfl⟩, ano_full (w := 1) (m := 6) (by decide) X (by rw [← e6]; exact H.2.1) (fun s2 F2 E2 => ⟨fun z => absurd rfl z, fun _ => ⟨⟨_, rfl⟩, N_mark (E2.ne (by decide)) (h s2 (MG.wl F2) E2)⟩⟩)⟩⟩
    refine ⟨30, rfl, p, H.1, pl_1 hp, fun z => ?_, fun _ => ⟨⟨_, rfl⟩, err_C X 2 h⟩⟩
    rw [H.2.2.1] at z
    exact absurd ((iN_lt (b := 6) (by omega) (by decide)).mp z) (by omega)
end L3
