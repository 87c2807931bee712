/-! PURE: the class's token and the reference's are one -/
def tkD (b e k m : Nat) (l : Bool) (w : Option Nat) (s : Int32) : Tok := (b, e, k, m, l, w, s)
theorem s60 (st : St) : ∃ s1, s1 = sI (sI (sI (sR st 35 7 none) 35 5 0) 35 6 0) 35 8 0 ∧ Fr35 st s1 ∧ gI s1 35 2 = gI st 35 2 ∧ gI s1 35 4 = gI st 35 4 ∧ gI s1 35 5 = 0 ∧ gI s1 35 6 = 0 ∧ gR s1 35 7 = none ∧ gI s1 35 8 = 0 := by
  refine ⟨_, rfl, (((Fr35.sr none).tr (Fr35.si (by decide) _)).tr (Fr35.si (by decide) _)).tr (Fr35.si (by decide) _), ?_, ?_, ?_, ?_, gR_sR st 35 7 none, gI_sI _ _ _ _⟩
  · rw [gI_sI_ne (by decide), gI_sI_ne (by decide), gI_sI_ne (by decide)]; rfl
  · rw [gI_sI_ne (by decide), gI_sI_ne (by decide), gI_sI_ne (by decide)]; rfl
  · rw [gI_sI_ne (by decide), gI_sI_ne (by decide), gI_sI]
  · rw [gI_sI_ne (by decide), gI_sI]
section A60
variable {T : Nat → Int32} {n b : Nat} {st : St} {post : St → Prop}
theorem s_a60end (X : TxC T n st) (g4 : gI st 35 4 = iN n) (h : ∀ st', Fr35 st st' → TkF st' (tkD n n 0 0 false none 0) → post st') : P_X8_advance_60 35 post st := by
  obtain ⟨s1, e, F, f2, f4, f5, f6, f7, f8⟩ := s60 st
  have X1 := X.fr F
  unfold P_X8_advance_60
  rw [← e, f4, g4, X1.1]
  refine ⟨rfl, rfl, rfl, rfl, rfl, rfl, fun hz => (Int32.lt_irrefl hz).elim, fun _ => ⟨rfl, rfl, rfl, ?_⟩⟩
  rw [gI_sI_ne (by decide), f4, g4]
  refine h _ ((F.tr (Fr35.si (by decide) _)).tr (Fr35.si (by decide) _)) ⟨gI_sI _ _ _ _, ?_, ?_, ?_, ?_, f7, ?_⟩
  · rw [gI_sI_ne (by decide), gI_sI]; rfl
  · rw [gI_sI_ne (by decide), gI_sI_ne (by decide), f4]; exact g4
  · rw [gI_sI_ne (by decide), gI_sI_ne (by decide), f5]; rfl
  · rw [gI_sI_ne (by decide), gI_sI_ne (by decide), f6]; rfl
  · rw [gI_sI_ne (by decide), gI_sI_ne (by decide), f8]; rfl
theorem s_a60w (hn : n ≤ 700) (X : TxC T n st) (hb : b < n) (g4 : gI st 35 4 = iN b) {e : Nat} (he : b < e) (hen : e ≤ n) (hl : ∀ j, b ≤ j → j < e → isLt (T j)) (hend : e = n ∨ ¬ isLt (T e)) {wd : Option Nat} (hw1 : ∀ w, w < 19 → Mt T w b e → wd = some (1000 + w)) (hw0 : (∀ w, w < 19 → ¬ Mt T w b e) → wd = none) (h : ∀ st', Fr35 st st' → TkF st' (tkD b e 1 0 false wd 0) → post st') : P_X8_advance_60 35 post st := by
  obtain ⟨s1, es, F, f2, f4, f5, f6, f7, f8⟩ := s60 st
  have X1 := X.fr F
  have eT : gA s1 1 b = T b := X1.2 b hb
  unfold P_X8_advance_60
  rw [← es, f4, g4, X1.1, iN_cl (by omega), iN_s]
  refine ⟨rfl, rfl, rfl, rfl, rfl, rfl, fun _ => ⟨1, rfl, rfl, (show vp_in (iN b) 700 from iN_vp (by omega) (by decide)), rfl, rfl, ?_⟩, fun hz => absurd ((iN_lt (by omega) (by omega)).mpr hb) hz⟩
  rw [eT]
  refine s_ltC (fun _ => ⟨fun z => absurd z (by decide), fun _ => ⟨⟨_, rfl⟩, rfl, ?_⟩⟩) (fun z => absurd (hl b (Nat.le_refl _) he) z)
  have e32 : sI (sI s1 35 2 (iN (b + 1))) 35 3 1 = sI (sI s1 35 3 1) 35 2 (iN (b + 1)) := by
    have ef : (fun c d => if c = 35 ∧ d = 3 then (1 : Int32) else (if c = 35 ∧ d = 2 then iN (b + 1) else s1.1 c d)) = (fun c d => if c = 35 ∧ d = 2 then iN (b + 1) else (if c = 35 ∧ d = 3 then (1 : Int32) else s1.1 c d)) := by
      funext c d
      by_cases h3 : c = 35 ∧ d = 3
      · have h2 : ¬ (c = 35 ∧ d = 2) := by omega
        rw [if_pos h3, if_neg h2, if_pos h3]
      · rw [if_neg h3, if_neg h3]
    show ((fun c d => if c = 35 ∧ d = 3 then (1 : Int32) else (if c = 35 ∧ d = 2 then iN (b + 1) else s1.1 c d), s1.2) : St) = (fun c d => if c = 35 ∧ d = 2 then iN (b + 1) else (if c = 35 ∧ d = 3 then (1 : Int32) else s1.1 c d), s1.2)
    rw [ef]
  rw [e32]
  have F3 : Fr35 st (sI s1 35 3 1) := F.tr (Fr35.si (by decide) _)
  have X3 := X.fr F3
  refine ⟨e - (b + 1) + 1, s_tw5 hn X3 (b := b) hen hl hend ?_ (e - (b + 1)) (b + 1) (by omega) (by omega)⟩
  have F4 : Fr35 st (sI (sI s1 35 3 1) 35 2 (iN e)) := F3.tr (Fr35.si (by decide) _)
  have X4 := X.fr F4
  have k4 : gI (sI (sI s1 35 3 1) 35 2 (iN e)) 35 4 = iN b := by rw [gI_sI_ne (by decide), gI_sI_ne (by decide), f4]; exact g4
  have k2 : gI (sI (sI s1 35 3 1) 35 2 (iN e)) 35 2 = iN e := gI_sI _ _ _ _
  have fin : P_X10_find 1 (iN b) (iN e) (sI (sI s1 35 3 1) 35 2 (iN e)) (fun z_2 st_3 => fk 35 8 7 = some 1 ∧ P_X8_advance_181 35 post (sR st_3 35 7 z_2)) := by
    have K : ∀ z, z = wd → post (sR (sI (sI s1 35 3 1) 35 2 (iN e)) 35 7 z) := by
      intro z ez
      refine h _ (F4.tr (Fr35.sr _)) ⟨k2, ?_, k4, ?_, ?_, ?_, ?_⟩
      · show gI (sI (sI s1 35 3 1) 35 2 (iN e)) 35 3 = iN 1
        rw [gI_sI_ne (by decide), gI_sI]; rfl
      · show gI (sI (sI s1 35 3 1) 35 2 (iN e)) 35 5 = iN 0
        rw [gI_sI_ne (by decide), gI_sI_ne (by decide), f5]; rfl
      · show gI (sI (sI s1 35 3 1) 35 2 (iN e)) 35 6 = 0
        rw [gI_sI_ne (by decide), gI_sI_ne (by decide), f6]
      · rw [gR_sR, ez]; rfl
      · show gI (sI (sI s1 35 3 1) 35 2 (iN e)) 35 8 = 0
        rw [gI_sI_ne (by decide), gI_sI_ne (by decide), f8]
    exact s_find (T := T) (n := n) (by omega) hen hn X4.2 (fun w hw m => ⟨rfl, K _ (hw1 w hw m).symm⟩) (fun m => ⟨rfl, K _ (hw0 m).symm⟩)
  refine ⟨1, rfl, rfl, rfl, ?_⟩
  rw [k4, k2]
  exact fin
theorem s_a60n (hn : n ≤ 700) (X : TxC T n st) (hb : b < n) (g4 : gI st 35 4 = iN b) {e : Nat} (he : b < e) (hen : e ≤ n) (hl : ∀ j, b ≤ j → j < e → isDg (T j)) (hnl : ¬ isLt (T b)) (hend : e = n ∨ ¬ isDg (T e)) {m : Nat} {l : Bool} (hm : (e - b ≤ 4 ∧ l = false ∧ m = vN T b (e - b)) ∨ (4 < e - b ∧ l = true ∧ m = 0)) (h : ∀ st', Fr35 st st' → TkF st' (tkD b e 2 m l none 0) → post st') : P_X8_advance_60 35 post st := by
  obtain ⟨s1, es, F, f2, f4, f5, f6, f7, f8⟩ := s60 st
  have X1 := X.fr F
  have eT : gA s1 1 b = T b := X1.2 b hb
  unfold P_X8_advance_60
  rw [← es, f4, g4, X1.1, iN_cl (by omega), iN_s]
  refine ⟨rfl, rfl, rfl, rfl, rfl, rfl, fun _ => ⟨1, rfl, rfl, (show vp_in (iN b) 700 from iN_vp (by omega) (by decide)), rfl, rfl, ?_⟩, fun hz => absurd ((iN_lt (by omega) (by omega)).mpr hb) hz⟩
  rw [eT]
  refine s_ltC (fun z => absurd z hnl) (fun _ => ⟨fun _ => s_dgC (fun _ => ⟨fun z => absurd z (by decide), fun _ => ⟨⟨_, rfl⟩, rfl, ?_⟩⟩) (fun z => absurd (hl b (Nat.le_refl _) he) z), fun z => absurd rfl z⟩)
  have e32 : sI (sI s1 35 2 (iN (b + 1))) 35 3 2 = sI (sI s1 35 3 2) 35 2 (iN (b + 1)) := by
    have ef : (fun c d => if c = 35 ∧ d = 3 then (2 : Int32) else (if c = 35 ∧ d = 2 then iN (b + 1) else s1.1 c d)) = (fun c d => if c = 35 ∧ d = 2 then iN (b + 1) else (if c = 35 ∧ d = 3 then (2 : Int32) else s1.1 c d)) := by
      funext c d
      by_cases h3 : c = 35 ∧ d = 3
      · have h2 : ¬ (c = 35 ∧ d = 2) := by omega
        rw [if_pos h3, if_neg h2, if_pos h3]
      · rw [if_neg h3, if_neg h3]
    show ((fun c d => if c = 35 ∧ d = 3 then (2 : Int32) else (if c = 35 ∧ d = 2 then iN (b + 1) else s1.1 c d), s1.2) : St) = (fun c d => if c = 35 ∧ d = 2 then iN (b + 1) else (if c = 35 ∧ d = 3 then (2 : Int32) else s1.1 c d), s1.2)
    rw [ef]
  rw [e32]
  have F3 : Fr35 st (sI s1 35 3 2) := F.tr (Fr35.si (by decide) _)
  have X3 := X.fr F3
  refine ⟨e - (b + 1) + 1, s_tn5 hn X3 (b := b) hen hl hend ?_ (e - (b + 1)) (b + 1) (by omega) (by omega)⟩
  have F4 : Fr35 st (sI (sI s1 35 3 2) 35 2 (iN e)) := F3.tr (Fr35.si (by decide) _)
  have k4 : gI (sI (sI s1 35 3 2) 35 2 (iN e)) 35 4 = iN b := by rw [gI_sI_ne (by decide), gI_sI_ne (by decide), f4]; exact g4
  have k2 : gI (sI (sI s1 35 3 2) 35 2 (iN e)) 35 2 = iN e := gI_sI _ _ _ _
  have k3 : gI (sI (sI s1 35 3 2) 35 2 (iN e)) 35 3 = iN 2 := by rw [gI_sI_ne (by decide), gI_sI]; rfl
  have k5 : gI (sI (sI s1 35 3 2) 35 2 (iN e)) 35 5 = 0 := by rw [gI_sI_ne (by decide), gI_sI_ne (by decide), f5]
  have k8 : gI (sI (sI s1 35 3 2) 35 2 (iN e)) 35 8 = 0 := by rw [gI_sI_ne (by decide), gI_sI_ne (by decide), f8]
  have k7 : gR (sI (sI s1 35 3 2) 35 2 (iN e)) 35 7 = none := f7
  have X4 := X.fr F4
  generalize sI (sI s1 35 3 2) 35 2 (iN e) = s4 at *
  have ed : iN e - iN b = iN (e - b) := by
    have : iN e = iN (e - b) + iN b := by rw [← iN_add]; congr 1; omega
    rw [this]; exact Int32.add_sub_cancel _ _
  unfold P_X8_takeNumber_44
  rw [k2, k4, ed]
  refine ⟨rfl, rfl, fun hz => ?_, fun hz => ?_⟩
  · have hz : iN (e - b) ≤ iN 4 := hz
    rw [iN_le (by omega) (by omega)] at hz
    rcases hm with ⟨_, rfl, rfl⟩ | ⟨z, _⟩
    · have Fz : Fr35 st (sI s4 35 6 0) := F4.tr (Fr35.si (by decide) _)
      have e4 : gI (sI s4 35 6 0) 35 4 = iN b := (gI_sI_ne (by decide)).trans k4
      refine ⟨Or.inl rfl, rfl, rfl, ?_⟩
      rw [e4]
      have e50 : sI s4 35 6 0 = sI (sI s4 35 6 0) 35 5 (iN (vN T b 0)) := by
        rw [vN_0]
        have ef : (fun c d => if c = 35 ∧ d = 5 then iN 0 else (if c = 35 ∧ d = 6 then (0 : Int32) else s4.1 c d)) = (fun c d => if c = 35 ∧ d = 6 then (0 : Int32) else s4.1 c d) := by
          funext c d
          by_cases h5 : c = 35 ∧ d = 5
          · have h6 : ¬ (c = 35 ∧ d = 6) := by omega
            rw [if_pos h5, if_neg h6, h5.1, h5.2]
            exact k5.symm
          · rw [if_neg h5]
        show ((fun c d => if c = 35 ∧ d = 6 then (0 : Int32) else s4.1 c d, s4.2) : St) = (fun c d => if c = 35 ∧ d = 5 then iN 0 else (if c = 35 ∧ d = 6 then (0 : Int32) else s4.1 c d), s4.2)
        rw [ef]
      rw [e50]
      refine ⟨e - b + 1, s_tn71 hn (X.fr Fz) hen hl hz ((gI_sI_ne (by decide)).trans k2) (gI_sI _ _ _ _) ?_ (e - b) 0 (by omega)⟩
      refine h _ (Fz.tr (Fr35.si (by decide) _)) ⟨?_, ?_, ?_, gI_sI _ _ _ _, ?_, k7, ?_⟩
      · rw [gI_sI_ne (by decide), gI_sI_ne (by decide)]; exact k2
      · rw [gI_sI_ne (by decide), gI_sI_ne (by decide)]; exact k3
      · rw [gI_sI_ne (by decide), gI_sI_ne (by decide)]; exact k4
      · rw [gI_sI_ne (by decide), gI_sI]; rfl
      · rw [gI_sI_ne (by decide), gI_sI_ne (by decide)]; exact k8
    · omega
  · have hz : ¬ iN (e - b) ≤ iN 4 := hz
    rw [iN_le (by omega) (by omega)] at hz
    rcases hm with ⟨z, _⟩ | ⟨_, rfl, rfl⟩
    · omega
    · have e4 : gI (sI s4 35 6 1) 35 4 = iN b := (gI_sI_ne (by decide)).trans k4
      refine ⟨Or.inr rfl, rfl, rfl, 1, ?_⟩
      rw [e4]
      unfold P_X8_takeNumber_71
      refine ⟨rfl, fun hz2 => ?_, fun _ => ⟨rfl, fun _ => ?_, fun z => ?_⟩⟩
      · rw [gI_sI_ne (by decide), k2] at hz2
        exact absurd hz2 (nle (by omega) he)
      · refine h _ (F4.tr (Fr35.si (by decide) _)) ⟨?_, ?_, e4, ?_, gI_sI _ _ _ _, k7, ?_⟩
        · rw [gI_sI_ne (by decide)]; exact k2
        · rw [gI_sI_ne (by decide)]; exact k3
        · rw [gI_sI_ne (by decide)]; exact k5
        · rw [gI_sI_ne (by decide)]; exact k8
      · rw [gI_sI] at z; exact absurd z (by decide)
theorem s_a60s (hn : n ≤ 700) (X : TxC T n st) (hB : ∃ k, k < 256 ∧ T b = iN k) (hb : b < n) (g4 : gI st 35 4 = iN b) (hnl : ¬ isLt (T b)) (hnd : ¬ isDg (T b)) {kd : Nat} {sg : Int32} (hm : (isMk (T b) ∧ kd = 3 ∧ sg = T b) ∨ (¬ isMk (T b) ∧ kd = 4 ∧ sg = 0)) (h : ∀ st', Fr35 st st' → TkF st' (tkD b (b + 1) kd 0 false none sg) → post st') : P_X8_advance_60 35 post st := by
  obtain ⟨s1, es, F, f2, f4, f5, f6, f7, f8⟩ := s60 st
  have X1 := X.fr F
  have eT : gA s1 1 b = T b := X1.2 b hb
  obtain ⟨c, hc, ec⟩ := hB
  unfold P_X8_advance_60
  rw [← es, f4, g4, X1.1, iN_cl (by omega), iN_s]
  refine ⟨rfl, rfl, rfl, rfl, rfl, rfl, fun _ => ⟨1, rfl, rfl, (show vp_in (iN b) 700 from iN_vp (by omega) (by decide)), rfl, rfl, ?_⟩, fun hz => absurd ((iN_lt (by omega) (by omega)).mpr hb) hz⟩
  rw [eT]
  have F2 : Fr35 st (sI s1 35 2 (iN (b + 1))) := F.tr (Fr35.si (by decide) _)
  have k2 : gI (sI s1 35 2 (iN (b + 1))) 35 2 = iN (b + 1) := gI_sI _ _ _ _
  have k4 : gI (sI s1 35 2 (iN (b + 1))) 35 4 = iN b := by rw [gI_sI_ne (by decide), f4]; exact g4
  have k5 : gI (sI s1 35 2 (iN (b + 1))) 35 5 = 0 := by rw [gI_sI_ne (by decide), f5]
  have k6 : gI (sI s1 35 2 (iN (b + 1))) 35 6 = 0 := by rw [gI_sI_ne (by decide), f6]
  have k8 : gI (sI s1 35 2 (iN (b + 1))) 35 8 = 0 := by rw [gI_sI_ne (by decide), f8]
  have k7 : gR (sI s1 35 2 (iN (b + 1))) 35 7 = none := f7
  generalize sI s1 35 2 (iN (b + 1)) = s2 at *
  refine s_ltC (fun z => absurd z hnl) (fun _ => ⟨fun _ => s_dgC (fun z => absurd z hnd) (fun _ => ⟨fun _ => ⟨⟨by decide, by decide⟩, ?_⟩, fun z => absurd rfl z⟩), fun z => absurd rfl z⟩)
  rw [ec]
  refine s_ix hc (fun j hj mk => ⟨fun z => ?_, fun _ => ⟨rfl, rfl, ?_⟩⟩) (fun mk => ⟨fun _ => ⟨rfl, ?_⟩, fun z => absurd (by decide) z⟩)
  · rw [lt0, iN_toInt (by omega)] at z; omega
  · rw [← ec] at mk
    rcases hm with ⟨_, rfl, rfl⟩ | ⟨z, _⟩
    · refine h _ ((F2.tr (Fr35.si (by decide) _)).tr (Fr35.si (by decide) _)) ⟨?_, ?_, ?_, ?_, ?_, k7, ?_⟩
      · rw [gI_sI_ne (by decide), gI_sI_ne (by decide)]; exact k2
      · rw [gI_sI_ne (by decide), gI_sI]; rfl
      · rw [gI_sI_ne (by decide), gI_sI_ne (by decide)]; exact k4
      · rw [gI_sI_ne (by decide), gI_sI_ne (by decide)]; exact k5
      · rw [gI_sI_ne (by decide), gI_sI_ne (by decide)]; exact k6
      · rw [gI_sI, ← ec]; rfl
    · exact absurd mk z
  · rw [← ec] at mk
    rcases hm with ⟨z, _⟩ | ⟨_, rfl, rfl⟩
    · exact absurd z mk
    · refine h _ (F2.tr (Fr35.si (by decide) _)) ⟨?_, gI_sI _ _ _ _, ?_, ?_, ?_, k7, ?_⟩
      · rw [gI_sI_ne (by decide)]; exact k2
      · rw [gI_sI_ne (by decide)]; exact k4
      · rw [gI_sI_ne (by decide)]; exact k5
      · rw [gI_sI_ne (by decide)]; exact k6
      · rw [gI_sI_ne (by decide)]; exact k8
end A60
