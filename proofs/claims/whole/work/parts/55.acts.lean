/-! PURE: acts are kept and undone; what is refused -/
def pushA (n : Nat) (ar : Nat → Nat → Int32) (c : Nat → Int32) : Nat × (Nat → Nat → Int32) := if n = 40 then (40, fun k => if k = 39 then c else ar (k + 1)) else (n + 1, fun k => if k = n then c else ar k)
theorem md40 : ∀ m, m < 200 → iN m - iN m / 40 * 40 = iN (m % 40) := by decide +kernel
theorem nrm_z {c : Nat → Int32} (h : ∀ j, 110 ≤ j → c j = 0) : nrm c = c := by
  funext j
  unfold nrm
  split
  · rfl
  · rename_i hj; exact (h j (by omega)).symm
theorem nrm_congr {f g : Nat → Int32} (h : ∀ j, j < 110 → f j = g j) : nrm f = nrm g := by
  funext j
  unfold nrm
  split
  · rename_i hj; exact h j hj
  · rfl
def Iac (o k : Nat) : Prop := o = 7 ∧ (k = 1 ∨ k = 2)
def S8 (a : Nat) : Prop := a = 8
theorem al8 : al 0 8 = 4400 := rfl
theorem al4 : al 0 4 = 110 := rfl
theorem cpy_in {α : Type} {f g : Nat → α} {sp dp n k : Nat} (h1 : dp ≤ k) (h2 : k < dp + n) : va_cpy f g sp dp n k = f (sp + (k - dp)) := by unfold va_cpy; rw [if_pos ⟨h1, h2⟩]
theorem cpy_out {α : Type} {f g : Nat → α} {sp dp n k : Nat} (h : k < dp ∨ dp + n ≤ k) : va_cpy f g sp dp n k = g k := by unfold va_cpy; rw [if_neg (by omega)]
set_option maxHeartbeats 1000000 in
theorem s_push32 {st : St} {f n : Nat} {ar : Nat → Nat → Int32} (hf : f < 40) (hn : n < 40) (e1 : gI st 7 1 = iN f) (e2 : gI st 7 2 = iN n) (hr : ∀ k, k < n → nrm (fun j => gA st 8 (((f + k) % 40) * 110 + j)) = ar k) (hz : ∀ j, 110 ≤ j → gA st 4 j = 0) {post : St → Prop}
    (h : ∀ st2, Fx Iac S8 st st2 → AcC st2 0 (n + 1) (fun k => if k = n then gA st 4 else ar k) → post st2) : P_X0_push_32 7 4 post st := by
  have ez : ((gI st 7 1 + gI st 7 2) - (gI st 7 1 + gI st 7 2) / 40 * 40) * 110 = iN (((f + n) % 40) * 110) := by
    rw [e1, e2, ← iN_add, md40 _ (by omega), iN_mul]; rfl
  have hlt : (f + n) % 40 < 40 := Nat.mod_lt _ (by decide)
  refine ⟨8, rfl, rfl, ⟨_, rfl⟩, rfl, ?_⟩
  rw [ez]
  dsimp only
  rw [iN_cl (by omega)]
  have e110 : (110 : Int32).toNatClampNeg = 110 := rfl
  have e0 : (0 : Int32).toNatClampNeg = 0 := rfl
  rw [e110, e0]
  refine ⟨by decide, ?_, by decide, by decide, by decide, by decide, ?_, rfl, rfl, h _ ((Fx.sf (I := Iac) (S := S8) rfl _).tr (Fx.si (I := Iac) ⟨rfl, Or.inr rfl⟩ _)) ⟨f, hf, ?_, ?_, fun k hk => ?_⟩⟩
  · rw [lt0, iN_toInt (by omega)]; omega
  · show _ ≤ 4400
    omega
  · exact e1
  · show gI (sI _ 7 2 _) 7 2 = _
    rw [gI_sI]
    show gI st 7 2 + 1 = _
    rw [e2, iN_s]
  · have g8 : ∀ j, gA (sI (sF st 8 (va_cpy (gA st 4) (gA st 8) 0 ((f + n) % 40 * 110) 110)) 7 2 (gI (sF st 8 (va_cpy (gA st 4) (gA st 8) 0 ((f + n) % 40 * 110) 110)) 7 2 + 1)) (8 + 0) j = va_cpy (gA st 4) (gA st 8) 0 ((f + n) % 40 * 110) 110 j := fun j => by
      rw [gA_sI]
      show gA (sF st 8 _) 8 j = _
      rw [gA_sF]
    simp only [g8]
    by_cases hkn : k = n
    · subst hkn
      rw [if_pos rfl]
      rw [nrm_congr (g := gA st 4) (fun j hj => by rw [cpy_in (by omega) (by omega)]; congr 1; omega)]
      exact nrm_z hz
    · rw [if_neg hkn, ← hr k (by omega)]
      refine nrm_congr (fun j hj => cpy_out ?_)
      have hne : (f + k) % 40 ≠ (f + n) % 40 := by omega
      have hlt2 : (f + k) % 40 < 40 := Nat.mod_lt _ (by decide)
      rcases Nat.lt_or_gt_of_ne hne with q | q
      · left
        have : (f + k) % 40 * 110 + 110 ≤ (f + n) % 40 * 110 := by omega
        omega
      · right
        have : (f + n) % 40 * 110 + 110 ≤ (f + k) % 40 * 110 := by omega
        omega
theorem s_push {st : St} {n : Nat} {ar : Nat → Nat → Int32} (hn : n ≤ 40) (A : AcC st 0 n ar) (hz : ∀ j, 110 ≤ j → gA st 4 j = 0) {post : St → Prop}
    (h : ∀ st2, Fx Iac S8 st st2 → AcC st2 0 (pushA n ar (gA st 4)).1 (pushA n ar (gA st 4)).2 → post st2) : P_X0_push 7 4 st post := by
  obtain ⟨f, hf, e1, e2, hr⟩ := A
  have e1 : gI st 7 1 = iN f := e1
  have e2 : gI st 7 2 = iN n := e2
  refine ⟨rfl, fun hc => ?_, fun hc => ⟨rfl, rfl, rfl, rfl, ?_⟩⟩
  · have hn40 : n ≠ 40 := fun e => hc (by rw [e2, e]; rfl)
    unfold pushA at h
    rw [if_neg hn40] at h
    exact s_push32 hf (by omega) e1 e2 hr hz h
  · have hn40 : n = 40 := by
      rw [e2] at hc
      exact (iN_eq (by omega) (by decide)).mp (show iN n = iN 40 from hc)
    subst hn40
    unfold pushA at h
    rw [if_pos rfl] at h
    have ef : (gI st 7 1 + 1) - (gI st 7 1 + 1) / 40 * 40 = iN ((f + 1) % 40) := by rw [e1, iN_s, md40 _ (by omega)]
    rw [ef]
    have hlt : (f + 1) % 40 < 40 := Nat.mod_lt _ (by decide)
    have F2 : Fx Iac S8 st (sI (sI st 7 1 (iN ((f + 1) % 40))) 7 2 (gI (sI st 7 1 (iN ((f + 1) % 40))) 7 2 - 1)) := (Fx.si ⟨rfl, Or.inl rfl⟩ _).tr (Fx.si ⟨rfl, Or.inr rfl⟩ _)
    refine s_push32 (st := sI (sI st 7 1 (iN ((f + 1) % 40))) 7 2 (gI (sI st 7 1 (iN ((f + 1) % 40))) 7 2 - 1)) (f := (f + 1) % 40) (n := 39) (ar := fun k => ar (k + 1)) hlt (by decide) ?_ ?_ (fun k hk => ?_) hz (fun st2 hF hA => h st2 (F2.tr hF) hA)
    · rw [gI_sI_ne (by decide), gI_sI]
    · rw [gI_sI, gI_sI_ne (by decide), e2]; rfl
    · rw [← hr (k + 1) (by omega)]
      show nrm (fun j => gA st 8 _) = _
      rw [show ((f + 1) % 40 + k) % 40 = (f + (k + 1)) % 40 by omega]
def S4 (a : Nat) : Prop := a = 4
theorem s_pop {st : St} {n : Nat} {ar : Nat → Nat → Int32} (hn : n ≤ 40) (h0 : 0 < n) (A : AcC st 0 n ar) (hz : ∀ j, 110 ≤ j → gA st 4 j = 0) {post : St → Prop}
    (h : ∀ st2, Fx Iac S4 st st2 → gA st2 4 = ar (n - 1) → AcC st2 0 (n - 1) ar → post st2) : P_X0_pop 7 4 st post := by
  obtain ⟨f, hf, e1, e2, hr⟩ := A
  have e1 : gI st 7 1 = iN f := e1
  have e2 : gI st 7 2 = iN n := e2
  refine ⟨rfl, fun hc => ?_, fun _ => ⟨rfl, rfl, 8, rfl, rfl, ⟨_, rfl⟩, rfl, ?_⟩⟩
  · rw [e2] at hc
    have hc : iN n ≤ iN 0 := hc
    rw [iN_le (by omega) (by omega)] at hc; omega
  have en : gI st 7 2 - 1 = iN (n - 1) := by rw [e2, iN_m1 (by omega)]
  rw [en]
  have ez : ((gI (sI st 7 2 (iN (n - 1))) 7 1 + gI (sI st 7 2 (iN (n - 1))) 7 2) - (gI (sI st 7 2 (iN (n - 1))) 7 1 + gI (sI st 7 2 (iN (n - 1))) 7 2) / 40 * 40) * 110 = iN (((f + (n - 1)) % 40) * 110) := by
    rw [gI_sI_ne (by decide), gI_sI, e1, ← iN_add, md40 _ (by omega), iN_mul]; rfl
  have hlt : (f + (n - 1)) % 40 < 40 := Nat.mod_lt _ (by decide)
  rw [ez]
  dsimp only
  rw [iN_cl (by omega)]
  have e110 : (110 : Int32).toNatClampNeg = 110 := rfl
  have e0 : (0 : Int32).toNatClampNeg = 0 := rfl
  rw [e110, e0]
  refine ⟨?_, by decide, by decide, by decide, by decide, ?_, by decide, h _ ((Fx.si (I := Iac) ⟨rfl, Or.inr rfl⟩ _).tr (Fx.sf (S := S4) rfl _)) ?_ ⟨f, hf, ?_, ?_, fun k hk => ?_⟩⟩
  · rw [lt0, iN_toInt (by omega)]; omega
  · show _ ≤ 4400
    omega
  · rw [gA_sF, ← hr (n - 1) (by omega)]
    funext j
    unfold nrm
    split
    · rename_i hj
      rw [cpy_in (by omega) (by omega), Nat.sub_zero]
      rfl
    · rename_i hj
      rw [cpy_out (by omega)]
      exact hz j (by omega)
  · exact e1
  · exact gI_sI st 7 2 (iN (n - 1))
  · rw [← hr k (by omega)]
    show nrm (fun j => gA (sF _ 4 _) 8 _) = _
    rw [gA_sF_ne (by decide)]
    rfl
/-! the reference -/
def Imk (o k : Nat) : Prop := o = 58 ∧ k = 38
def S81 (a : Nat) : Prop := a = 81
theorem al81 : al 0 81 = 4400 := rfl
theorem s_keep52 {st : St} {n nb : Nat} {ar : Nat → Nat → Int32} (hn : n < 40) (e : gI st 58 38 = iN n) (hr : ∀ k, k < n → rowC nb (fun i => gA st 81 (110 * k + i)) = ar k) {post : St → Prop}
    (h : ∀ st2, Fx Imk S81 st st2 → gI st2 58 38 = iN (n + 1) → (∀ k, k < n + 1 → rowC nb (fun i => gA st2 81 (110 * k + i)) = (fun k => if k = n then mC nb st else ar k) k) → post st2) : P_X12_keep_52 58 post st := by
  have e2 : 110 * gI st 58 38 = iN (110 * n) := by rw [e, iN_mul]; rfl
  refine ⟨81, rfl, rfl, ⟨_, rfl⟩, ?_⟩
  rw [e2]
  refine s_pack al81 (by omega) (by decide) (by unfold isM; decide) (fun st2 hE hH hout => ⟨rfl, rfl, h _ ((Ex.fx hE).tr (Fx.si ⟨rfl, rfl⟩ _)) ?_ (fun k hk => ?_)⟩)
  · rw [gI_sI, hE.eI, e, iN_s]
  · simp only [gA_sI]
    by_cases hkn : k = n
    · subst hkn
      rw [if_pos rfl]
      exact hH.row nb
    · rw [if_neg hkn, ← hr k (by omega)]
      refine rC_congr ?_ ?_ (fun p hp => ?_) (fun p hp => ?_) (fun p hp => ?_) (fun p hp => ?_) (fun b hb => ?_) (fun b hb => ?_) (fun b hb => ?_) (fun i hi => ?_)
      all_goals exact hout _ (by omega)
set_option maxHeartbeats 1000000 in
theorem s_keep {st : St} {n nb : Nat} {ar : Nat → Nat → Int32} (hn : n ≤ 40) (e : gI st 58 38 = iN n) (hr : ∀ k, k < n → rowC nb (fun i => gA st 81 (110 * k + i)) = ar k) {post : St → Prop}
    (h : ∀ st2, Fx Imk S81 st st2 → gI st2 58 38 = iN (pushA n ar (mC nb st)).1 → (∀ k, k < (pushA n ar (mC nb st)).1 → rowC nb (fun i => gA st2 81 (110 * k + i)) = (pushA n ar (mC nb st)).2 k) → post st2) : P_X12_keep 58 st post := by
  refine ⟨rfl, fun hc => ?_, fun hc => ?_⟩
  · have hn40 : n ≠ 40 := fun e9 => hc (by rw [e, e9]; rfl)
    unfold pushA at h
    rw [if_neg hn40] at h
    exact s_keep52 (by omega) e hr h
  · have hn40 : n = 40 := by
      rw [e] at hc
      exact (iN_eq (by omega) (by decide)).mp (show iN n = iN 40 from hc)
    subst hn40
    unfold pushA at h
    rw [if_pos rfl] at h
    refine ⟨4291, loop_up (α := Unit) (P := fun n i _ st => P_X12_keep_12 58 post n i st) (N := 4400) (fun i _ st' => Fx Imk S81 st st' ∧ gI st' 58 38 = iN 40 ∧ 110 ≤ i ∧ (∀ j, j + 110 < i → gA st' 81 j = gA st 81 (j + 110)) ∧ ∀ j, i ≤ j + 110 → gA st' 81 j = gA st 81 j) ?_ ?_ 4290 110 () st (by omega) ⟨Fx.rf, e, Nat.le_refl _, fun j hj => by omega, fun j _ => rfl⟩⟩
    · rintro i hi _ st' n' ⟨hF, c0, c1, c2, c3⟩ ih
      show P_X12_keep_12 58 post (n' + 1) (iN i) st'
      unfold P_X12_keep_12
      have x1 : iN i - 110 = iN (i - 110) := by
        have h1 : iN i = iN (i - 110) + iN 110 := by rw [← iN_add, Nat.sub_add_cancel c1]
        rw [h1]; exact Int32.add_sub_cancel _ _
      rw [x1, iN_cl (by omega), iN_cl (by omega), iN_s]
      refine ⟨81, rfl, by rw [al81]; decide, fun hc => ?_, fun _ => ⟨81, rfl, 81, rfl, by rw [al81]; exact iN_vp (by omega) (by decide), by rw [al81]; exact iN_vp (by omega) (by decide), ?_⟩⟩
      · have hc : iN 4400 ≤ iN i := hc
        rw [iN_le (by omega) (by omega)] at hc; omega
      refine ih () _ ⟨hF.tr (Fx.sa (S := S81) rfl _ _), c0, by omega, fun j hj => ?_, fun j hj => ?_⟩
      · rw [gA_sA]
        by_cases q : j = i - 110
        · subst q
          rw [upd_same, c3 i (by omega), show i - 110 + 110 = i by omega]
        · rw [upd_ne q]; exact c2 j (by omega)
      · rw [gA_sA, upd_ne (by omega)]; exact c3 j (by omega)
    · rintro _ st' n' ⟨hF, c0, c1, c2, c3⟩
      show P_X12_keep_12 58 post (n' + 1) (iN 4400) st'
      unfold P_X12_keep_12
      refine ⟨81, rfl, by rw [al81]; decide, fun _ => ⟨rfl, rfl, ?_⟩, fun hc => absurd (Int32.le_refl _) hc⟩
      have F2 : Fx Imk S81 st (sI st' 58 38 (gI st' 58 38 - 1)) := hF.tr (Fx.si ⟨rfl, rfl⟩ _)
      have em : mC nb (sI st' 58 38 (gI st' 58 38 - 1)) = mC nb st := mC_fx F2 (by unfold Imk; decide) (by unfold Imk; decide) (fun x hx => by rw [hx]; unfold isM; decide) nb
      refine s_keep52 (n := 39) (nb := nb) (ar := fun k => ar (k + 1)) (by decide) (by rw [gI_sI, c0]; rfl) (fun k hk => ?_) (fun st2 hF2 e2 hr2 => h st2 (F2.tr hF2) e2 (fun k hk => ?_))
      · rw [← hr (k + 1) (by omega)]
        refine rC_congr ?_ ?_ (fun p hp => ?_) (fun p hp => ?_) (fun p hp => ?_) (fun p hp => ?_) (fun b hb => ?_) (fun b hb => ?_) (fun b hb => ?_) (fun i hi => ?_)
        all_goals
          show gA st' 81 _ = gA st 81 _
          rw [c2 _ (by omega)]
          first | (congr 1; omega) | (congr 1)
      · rw [hr2 k hk, em]
