/-! PURE: dale: both sides -/
theorem tks_ex {T : Nat → Int32} {n : Nat} (hn : n ≤ 700) (hB : ∀ j, j < n → ∃ k, k < 256 ∧ T j = iN k) : ∃ τ, Tks T n τ := by
  have h : ∀ i, ∃ t, i ≤ n → TokN T n i t ∧ AdvC T n i t ∧ AdvM T n i t := fun i => by
    by_cases hi : i ≤ n
    · obtain ⟨t, ht⟩ := tok_ex hn hB hi
      exact ⟨t, fun _ => ht⟩
    · obtain ⟨t, _⟩ := tok_ex hn hB (Nat.zero_le n)
      exact ⟨t, fun z => absurd z hi⟩
  exact ⟨fun i => Classical.choose (h i), hn, fun i hi => Classical.choose_spec (h i) hi⟩
theorem dn_V0 (g : Nat → Int32) : done (V0 g) = 0 := rfl
set_option maxHeartbeats 2000000 in
theorem c_dale {a1 : Int32} {st : St} (hI : Inv st) : P_L_dale a1 st (fun k st1 => Bth (P_X12_dale 58 a1) k st1) := by
  obtain ⟨v, H, HM, HO⟩ := hI
  have H' := H
  obtain ⟨p, p', h1, h2, h3, h4, h5, h6, h7, h8, h9, h10, h11, h12⟩ := H
  have n7 := HO.2.2.2.2.1
  by_cases ha : (0 : Int) ≤ a1.toInt ∧ a1.toInt ≤ (v.2.2.2.1.1 : Int)
  · obtain ⟨a, _, ha2, rfl⟩ := (inR (lo := 0) (hi := v.2.2.2.1.1) (by omega)).mp ha
    obtain ⟨τ, TK⟩ := tks_ex (T := v.2.2.2.1.2) (n := a) (by omega) (fun j hj => HO.2.2.2.2.2 j (by omega))
    have lz : ¬ iN a < 0 := by rw [lt0, iN_toInt (by omega)]; omega
    have hz4 : ∀ j, 110 ≤ j → gA st 4 j = 0 := fun j hj => by
      have e4 : gA st 4 = v.2.1.1 := h7.1
      rw [e4]; exact HO.2.2.1.1.2.1 j hj
    have hpp := h1.2.1
    have e30 : gR st 3 0 = some p := h1.2.2.1
    refine ⟨fun z => absurd z lz, fun _ => ⟨rfl, fun _ => ⟨rfl, 30, rfl, p', h4, ⟨_, rfl⟩, dlC0 n7 ha2 TK h2 h11 (fun s F X Vs => ⟨a + 2, ?_⟩)⟩, fun z => absurd ?_ z⟩⟩
    · rcases all TK h2 (iN a) (a + 2) 0 0 (V0 (gA st 31)) (by omega) (Nat.zero_le _) (Nat.le_refl _) (V0ok _) with ⟨V, d1, d2, d3⟩ | ⟨k, pl, d1, d2, d3, d4⟩
      · refine d2 s _ X Vs (fun s7 G7 V7 => ⟨fun _ => ?_, fun z => absurd rfl z⟩)
        have F7 := F.cg h2 G7
        have r3 : gR s7 3 0 = some p := (F7.2.1 3 0 (by decide) (by decide) (by decide)).trans e30
        refine ⟨3, rfl, p, r3, rfl, 3, rfl, 30, rfl, ⟨_, rfl⟩, p', (gR_sR_ne (by decide)).trans F7.2.2.2.2, rfl, 31, rfl, 4, rfl, by decide, by decide, by decide, by decide, by decide, by decide, by decide, rfl, 2, rfl, 7, rfl, ⟨_, rfl⟩, rfl, rfl, 2, rfl, 9, rfl, ⟨_, rfl⟩, rfl, rfl, ?_⟩
        have IC := invS (S := sI (sI (sI (sI (sI (sF (sR (sR s7 0 3 (some p)) 3 0 (some p')) 4 (va_cpy (gA (sR (sR s7 0 3 (some p)) 3 0 (some p')) 31) (gA (sR (sR s7 0 3 (some p)) 3 0 (some p')) 4) 0 0 110)) 0 2 (-1)) 7 1 0) 7 2 0) 9 5 0) 0 6 0) (v := v) hpp h2 h3 hz4 h6 h7 F7 d1 V7 (fun o k q1 q2 q3 => by rw [gI_sI_ne (fun z => q1 z.1), gI_sI_ne (fun z => q3 z.1), gI_sI_ne (fun z => q2 z.1), gI_sI_ne (fun z => q2 z.1), gI_sI_ne (fun z => q1 z.1)]; rfl) rfl rfl rfl rfl rfl rfl rfl rfl (fun o k q1 q2 => (show gR (sR (sR s7 0 3 (some p)) 3 0 (some p')) o k = gR s7 o k from (gR_sR_ne (fun z => q2 z.1)).trans (gR_sR_ne (fun z => q1 z.1)))) (show gA (sF (sR (sR s7 0 3 (some p)) 3 0 (some p')) 4 (va_cpy (gA (sR (sR s7 0 3 (some p)) 3 0 (some p')) 31) (gA (sR (sR s7 0 3 (some p)) 3 0 (some p')) 4) 0 0 110)) 4 = (va_cpy (gA (sR (sR s7 0 3 (some p)) 3 0 (some p')) 31) (gA (sR (sR s7 0 3 (some p)) 3 0 (some p')) 4) 0 0 110) from gA_sF _ _ _) (fun x q => (show gA (sF (sR (sR s7 0 3 (some p)) 3 0 (some p')) 4 (va_cpy (gA (sR (sR s7 0 3 (some p)) 3 0 (some p')) 31) (gA (sR (sR s7 0 3 (some p)) 3 0 (some p')) 4) 0 0 110)) x = gA s7 x from gA_sF_ne q))
        have CF : CFr st (sI (sI (sI (sI (sI (sF (sR (sR s7 0 3 (some p)) 3 0 (some p')) 4 (va_cpy (gA (sR (sR s7 0 3 (some p)) 3 0 (some p')) 31) (gA (sR (sR s7 0 3 (some p)) 3 0 (some p')) 4) 0 0 110)) 0 2 (-1)) 7 1 0) 7 2 0) 9 5 0) 0 6 0) := by
          have z := F7.cfr h2
          refine ⟨fun o k q => ?_, fun o k q => ?_, fun x q => ?_⟩
          · rw [gI_sI_ne (by omega), gI_sI_ne (by omega), gI_sI_ne (by omega), gI_sI_ne (by omega), gI_sI_ne (by omega)]
            exact z.1 o k q
          · show gR (sR (sR s7 0 3 (some p)) 3 0 (some p')) o k = gR st o k
            rw [gR_sR_ne (by omega), gR_sR_ne (by omega)]; exact z.2.1 o k q
          · show gA (sF (sR (sR s7 0 3 (some p)) 3 0 (some p')) 4 (va_cpy (gA (sR (sR s7 0 3 (some p)) 3 0 (some p')) 31) (gA (sR (sR s7 0 3 (some p)) 3 0 (some p')) 4) 0 0 110)) x = gA st x
            rw [gA_sF_ne (by omega)]; exact z.2.2 x q
        show Bth (P_X12_dale 58 (iN a)) 0 (sL (sI (sI (sI (sI (sI (sF (sR (sR s7 0 3 (some p)) 3 0 (some p')) 4 (va_cpy (gA (sR (sR s7 0 3 (some p)) 3 0 (some p')) 31) (gA (sR (sR s7 0 3 (some p)) 3 0 (some p')) 4) 0 0 110)) 0 2 (-1)) 7 1 0) 7 2 0) 9 5 0) 0 6 0) 106 0 (0 : Int32).toInt64)
        generalize sI (sI (sI (sI (sI (sF (sR (sR s7 0 3 (some p)) 3 0 (some p')) 4 (va_cpy (gA (sR (sR s7 0 3 (some p)) 3 0 (some p')) 31) (gA (sR (sR s7 0 3 (some p)) 3 0 (some p')) 4) 0 0 110)) 0 2 (-1)) 7 1 0) 7 2 0) 9 5 0) 0 6 0 = S at *
        have M1 := (HM.cfr CF).cfr (CFr.sL 106 0 (0 : Int32).toInt64)
        have hQ : QA V (gA s7 (ch p' 2)) (gA s7 (ch (ch p' 3) 1)) (gA s7 (ch (ch p' 4) 1)) := ⟨V7.2.2.2.2.1, V7.2.2.2.2.2.2.1.2.2, V7.2.2.2.2.2.2.2.2.2⟩
        refine dlM0 n7 ha2 TK M1.2.2.2.2.1 M1.2.2.2.2.2.1 (gA st 31) (fun t FDt k4 k16 k25 Xt Vt => ⟨a + 2, ?_⟩)
        rw [← dn_V0 (gA st 31)]
        refine d3 t _ Xt Vt (fun t2 G2 z23 V2 => ⟨rfl, fun _ => ⟨⟨_, rfl⟩, tkM d1 V2 (fun t3 G3 O3 => ?_)⟩, fun z => absurd z23 z⟩)
        have FD2 := FDt.tr (FD.mg G2)
        have k16' : gI t2 58 16 = 0 := (G2.1 58 16 (by unfold MGi; decide)).trans k16
        have k25' : gI t2 58 25 = -1 := (G2.1 58 25 (by unfold MGi; decide)).trans k25
        have k4' : gI t3 58 4 = 0 := (G3.eI (by unfold ITo; decide)).trans ((G2.1 58 4 (by unfold MGi; decide)).trans k4)
        have MF := FD2.mfr.tr (G3.mfr (fun o k z => by rw [z.1]; decide) (fun x z => by unfold STo at z; omega))
        exact ⟨rfl, k4', fun _ => sL_g MF.2.2.2, _, InvC.mfr MF (show InvC (sL S 106 0 (0 : Int32).toInt64) _ from IC), imS M1 FD2 k16' k25' d1 hQ G3 O3, avS_ok v d1 hQ⟩
      · refine d3 s _ X Vs (fun s7 G7 E7 => ⟨fun z => ?_, fun _ => ⟨34, rfl, ⟨_, rfl⟩, 35, rfl, rfl, rfl, ⟨_, rfl⟩, ?_⟩⟩)
        · have := (iN_eq (b := 0) (by omega) (by decide)).mp z
          omega
        have F7 := F.cg h2 G7
        rw [E7.2]
        have I7 := invT h1 h2 h3 h4 h6 h7 h8 h9 F7 (iN pl)
        have CF7 : CFr st (sI s7 0 2 (iN pl)) := (F7.cfr h2).tr ⟨fun o k q => gI_sI_ne (by omega), fun _ _ _ => rfl, fun _ _ => rfl⟩
        refine refuseC (k := 0) I7 (by decide) (fun s8 F8 I8 => ?_)
        have M1 := (HM.cfr (CF7.tr F8)).cfr (CFr.sL 106 0 (iN k).toInt64)
        show Bth (P_X12_dale 58 (iN a)) 0 (sL s8 106 0 (iN k).toInt64)
        refine dlM0 n7 ha2 TK M1.2.2.2.2.1 M1.2.2.2.2.2.1 (gA st 31) (fun t FDt k4 k16 k25 Xt Vt => ⟨a + 2, ?_⟩)
        rw [← dn_V0 (gA st 31)]
        refine d4 t _ Xt Vt (fun t2 G2 E2 => ⟨rfl, fun z => absurd z (E2.ne d1), fun _ => ⟨rfl, rfl, ?_⟩⟩)
        have FD2 := FDt.tr (FD.mg G2)
        have k16' : gI t2 58 16 = 0 := (G2.1 58 16 (by unfold MGi; decide)).trans k16
        have k4' : gI t2 58 4 = 0 := (G2.1 58 4 (by unfold MGi; decide)).trans k4
        have I2 := imT M1 FD2 k16'
        have g23 : gI (sI t2 58 25 (gI t2 58 24)) 58 23 = iN k := (gI_sI_ne (by decide)).trans E2.1
        have g4 : gI (sI t2 58 25 (gI t2 58 24)) 58 4 = 0 := (gI_sI_ne (by decide)).trans k4'
        have MF1 : MFr (sL s8 106 0 (iN k).toInt64) (sI t2 58 25 (gI t2 58 24)) := (FD2.tr (FD.si (k := 25) (by decide) _)).mfr
        rw [E2.2] at I2 g23 g4 MF1 ⊢
        obtain ⟨r0, q0, w1, w2, w3⟩ := refuseM (k := 0) I2 (by decide) (post := fun r s => gI s 58 4 = 0 ∧ MFr (sI t2 58 25 (iN pl)) s ∧ InvM s (setb (avT v (iN pl)) (rfB (avT v (iN pl)).2.1 0))) (fun s9 F9 I9 e9 => ⟨e9.trans g4, F9, I9⟩)
        have e0 : 71 = r0 := Option.some.inj q0
        subst e0
        obtain ⟨w4, w5, w6⟩ := w3
        refine ⟨71, rfl, w1, w2, rfl, rfl, w4, fun _ => ?_, _, InvC.mfr (MF1.tr w5) (show InvC (sL s8 106 0 (iN k).toInt64) _ from I8), w6, (avT_ok HO _).rf 0⟩
        show gL (sI t2 58 25 (iN pl)) 106 0 = (gI (sI t2 58 25 (iN pl)) 58 23).toInt64
        rw [g23]
        exact sL_g MF1.2.2.2
    · rw [h10]
      exact (iN_le (by omega) (by omega)).mpr ha2
  · refine h_thr (PC := fun post pex => P_X11_dale 0 a1 st post pex) (PM := P_X12_dale 58 a1) (X := IAE) (k := 1) (by decide) H' HM HO (fun pex h => ⟨fun _ => h, fun z => ⟨rfl, fun y => absurd ?_ ha, fun _ => h⟩⟩) (fun s1 post I0 h => ⟨rfl, fun _ => ⟨⟨_, rfl⟩, m_fail I0 h⟩, fun z => ⟨rfl, fun y => absurd ?_ ha, fun _ => ⟨⟨_, rfl⟩, m_fail I0 h⟩⟩⟩) (fun h => ⟨rfl, h⟩)
    · rw [lt0] at z
      rw [h10, le_iN (by omega)] at y
      omega
    · rw [lt0] at z
      rw [gI_sI_ne (by decide), I0.2.2.2.2.1, le_iN (by omega)] at y
      omega
