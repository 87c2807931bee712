/-! PURE: see -/
def seE (b d x y m : Int32) (k : Nat) : Int32 := if k = 0 then b else if k = 1 then d else if k = 2 then x else if k = 3 then y else m
def seB (b : Bk) (e : Nat → Int32) : Bk := (b.1, b.2.1, (b.2.2.1.1 + 1, fun i => if i = b.2.2.1.1 then e else b.2.2.1.2 i), b.2.2.2)
def addS (st : St) (s n : Nat) (e : Nat → Int32) : St := sI (sA (sA (sA (sA (sA st (s + 1) n (e 0)) (s + 2) n (e 1)) (s + 3) n (e 2)) (s + 4) n (e 3)) (s + 5) n (e 4)) s 5 (iN (n + 1))
def Ise (s o k : Nat) : Prop := o = s ∧ k = 5
def Sse (s x : Nat) : Prop := s + 1 ≤ x ∧ x ≤ s + 5
theorem addS_fx (st : St) (s n : Nat) (e : Nat → Int32) : Fx (Ise s) (Sse s) st (addS st s n e) := by
  unfold addS
  exact (((((Fx.sa (x := s + 1) ⟨by omega, by omega⟩ _ _).tr (Fx.sa (x := s + 2) ⟨by omega, by omega⟩ _ _)).tr (Fx.sa (x := s + 3) ⟨by omega, by omega⟩ _ _)).tr (Fx.sa (x := s + 4) ⟨by omega, by omega⟩ _ _)).tr (Fx.sa (x := s + 5) ⟨by omega, by omega⟩ _ _)).tr (Fx.si (I := Ise s) ⟨rfl, rfl⟩ _)
theorem addS_A (st : St) (s n : Nat) (e : Nat → Int32) {k : Nat} (hk : k < 5) : gA (addS st s n e) (s + 1 + k) = upd (gA st (s + 1 + k)) n (e k) := by
  unfold addS
  rw [gA_sI]
  have h : k = 0 ∨ k = 1 ∨ k = 2 ∨ k = 3 ∨ k = 4 := by omega
  rcases h with rfl | rfl | rfl | rfl | rfl
  · rw [gA_sA_ne (by omega), gA_sA_ne (by omega), gA_sA_ne (by omega), gA_sA_ne (by omega)]
    exact gA_sA _ _ _ _
  · rw [gA_sA_ne (by omega), gA_sA_ne (by omega), gA_sA_ne (by omega)]
    refine (gA_sA _ _ _ _).trans ?_
    rw [gA_sA_ne (by omega)]
  · rw [gA_sA_ne (by omega), gA_sA_ne (by omega)]
    refine (gA_sA _ _ _ _).trans ?_
    rw [gA_sA_ne (by omega), gA_sA_ne (by omega)]
  · rw [gA_sA_ne (by omega)]
    refine (gA_sA _ _ _ _).trans ?_
    rw [gA_sA_ne (by omega), gA_sA_ne (by omega), gA_sA_ne (by omega)]
  · refine (gA_sA _ _ _ _).trans ?_
    rw [gA_sA_ne (by omega), gA_sA_ne (by omega), gA_sA_ne (by omega), gA_sA_ne (by omega)]
theorem addS_5 (st : St) (s n : Nat) (e : Nat → Int32) : gI (addS st s n e) s 5 = iN (n + 1) := gI_sI _ _ _ _
set_option maxHeartbeats 2000000 in
theorem s_add {st : St} {s n : Nat} (hs : s = 9 ∨ s = 23) (e : gI st s 5 = iN n) (hn : n < 8) {f : Nat → Int32} (h5 : f 4 = 0 ∨ f 4 = 1) {post : St → Prop} (h : post (addS st s n f)) : P_X7_add s (f 0) (f 1) (f 2) (f 3) (f 4) st post := by
  have e2 := iN_cl (n := n) (by omega)
  unfold addS at h
  unfold P_X7_add P_X7_add_71
  simp only [gI_sA, e, e2, iN_s]
  have v : vp_in (iN n) 8 := iN_vp hn (by decide)
  rcases hs with rfl | rfl
  · exact ⟨rfl, fun hz => absurd hz (nle (a := 8) (by decide) hn), fun _ => ⟨10, rfl, rfl, v, 11, rfl, rfl, v, 12, rfl, rfl, v, 13, rfl, rfl, v, 14, rfl, rfl, v, h5, rfl, rfl, h⟩⟩
  · exact ⟨rfl, fun hz => absurd hz (nle (a := 8) (by decide) hn), fun _ => ⟨24, rfl, rfl, v, 25, rfl, rfl, v, 26, rfl, rfl, v, 27, rfl, rfl, v, 28, rfl, rfl, v, h5, rfl, rfl, h⟩⟩
def addM (st : St) (n : Nat) (e : Nat → Int32) : St := sI (sA (sA (sA (sA (sA st 88 n (e 0)) 89 n (e 1)) 90 n (e 2)) 91 n (e 3)) 93 n (e 4)) 58 39 (iN (n + 1))
def Ism (o k : Nat) : Prop := o = 58 ∧ k = 39
def Ssm (x : Nat) : Prop := (88 ≤ x ∧ x ≤ 91) ∨ x = 93
theorem addM_fx (st : St) (n : Nat) (e : Nat → Int32) : Fx Ism Ssm st (addM st n e) := by
  unfold addM
  exact (((((Fx.sa (x := 88) (Or.inl ⟨by omega, by omega⟩) _ _).tr (Fx.sa (x := 89) (Or.inl ⟨by omega, by omega⟩) _ _)).tr (Fx.sa (x := 90) (Or.inl ⟨by omega, by omega⟩) _ _)).tr (Fx.sa (x := 91) (Or.inl ⟨by omega, by omega⟩) _ _)).tr (Fx.sa (x := 93) (Or.inr rfl) _ _)).tr (Fx.si (I := Ism) ⟨rfl, rfl⟩ _)
theorem addM_A (st : St) (n : Nat) (e : Nat → Int32) {k : Nat} (hk : k < 5) : gA (addM st n e) (mseN k) = upd (gA st (mseN k)) n (e k) := by
  unfold addM
  rw [gA_sI]
  have h : k = 0 ∨ k = 1 ∨ k = 2 ∨ k = 3 ∨ k = 4 := by omega
  rcases h with rfl | rfl | rfl | rfl | rfl
  · rw [gA_sA_ne (by decide), gA_sA_ne (by decide), gA_sA_ne (by decide), gA_sA_ne (by decide)]
    exact gA_sA _ 88 _ _
  · rw [gA_sA_ne (by decide), gA_sA_ne (by decide), gA_sA_ne (by decide)]
    refine (gA_sA _ 89 _ _).trans ?_
    rw [gA_sA_ne (by decide)]; rfl
  · rw [gA_sA_ne (by decide), gA_sA_ne (by decide)]
    refine (gA_sA _ 90 _ _).trans ?_
    rw [gA_sA_ne (by decide), gA_sA_ne (by decide)]; rfl
  · rw [gA_sA_ne (by decide)]
    refine (gA_sA _ 91 _ _).trans ?_
    rw [gA_sA_ne (by decide), gA_sA_ne (by decide), gA_sA_ne (by decide)]; rfl
  · refine (gA_sA _ 93 _ _).trans ?_
    rw [gA_sA_ne (by decide), gA_sA_ne (by decide), gA_sA_ne (by decide), gA_sA_ne (by decide)]; rfl
theorem seB_row {b : Bk} {e : Nat → Int32} {A A' : Nat → Nat → Int32} (h0 : ∀ i, i < b.2.2.1.1 → ∀ k, k < 5 → A k i = b.2.2.1.2 i k) (h1 : ∀ k, k < 5 → A' k = upd (A k) b.2.2.1.1 (e k)) : ∀ i, i < b.2.2.1.1 + 1 → ∀ k, k < 5 → A' k i = (seB b e).2.2.1.2 i k := by
  intro i hi k hk
  rw [h1 k hk]
  show _ = (if i = b.2.2.1.1 then e else b.2.2.1.2 i) k
  by_cases e9 : i = b.2.2.1.1
  · rw [if_pos e9, e9, upd_same]
  · rw [if_neg e9, upd_ne e9]; exact h0 i (by omega) k hk
theorem seC {st : St} {v : AV} (H : InvC st v) (e : Nat → Int32) : CFr st (addS st 9 v.2.1.2.2.1.1 e) ∧ InvC (addS st 9 v.2.1.2.2.1.1 e) (setb v (seB v.2.1 e)) := by
  obtain ⟨B1, B2, B3, B4, B5⟩ := H.B
  have hF := addS_fx st 9 v.2.1.2.2.1.1 e
  have nA : ∀ x, ¬ (10 ≤ x ∧ x ≤ 14) → gA (addS st 9 v.2.1.2.2.1.1 e) x = gA st x := fun x q => hF.eA q
  have nI : ∀ o k, o ≠ 9 → gI (addS st 9 v.2.1.2.2.1.1 e) o k = gI st o k := fun o k q => hF.eI (fun z => q z.1)
  refine H.book (w := seB v.2.1 e) hF (fun o k z => Or.inr z.1) (fun x z => Or.inl ⟨by have := z.1; omega, by have := z.2; omega⟩) ⟨by rw [nA _ (by decide)]; exact B1, ?_, addS_5 _ _ _ _, ?_, fun k hk => by rw [nA _ (by decide)]; exact B5 k hk⟩
  · obtain ⟨f, f1, f2, f3, f4⟩ := B2
    exact ⟨f, f1, by rw [nI _ _ (by decide)]; exact f2, by rw [nI _ _ (by decide)]; exact f3, fun k hk => by rw [nA _ (by decide)]; exact f4 k hk⟩
  · exact seB_row (A := fun k => gA st (9 + 1 + k)) (A' := fun k => gA (addS st 9 v.2.1.2.2.1.1 e) (9 + 1 + k)) B4 (fun k hk => addS_A st 9 _ e hk)
theorem seM {st : St} {v : AV} (H : InvM st v) {e : Nat → Int32} (h5 : e 4 = 0 ∨ e 4 = 1) : MFr st (addM st v.2.1.2.2.1.1 e) ∧ InvM (addM st v.2.1.2.2.1.1 e) (setb v (seB v.2.1 e)) := by
  obtain ⟨b1, b2, b3, b4, b5, b6⟩ := H.2.1
  have hF := addM_fx st v.2.1.2.2.1.1 e
  have nA : ∀ x, ¬ ((88 ≤ x ∧ x ≤ 91) ∨ x = 93) → gA (addM st v.2.1.2.2.1.1 e) x = gA st x := fun x q => hF.eA q
  have nI : ∀ k, k ≠ 39 → gI (addM st v.2.1.2.2.1.1 e) 58 k = gI st 58 k := fun k q => hF.eI (fun z => q z.2)
  have hB := H.2.2.2.2.2.2.2
  refine H.bk (w := seB v.2.1 e) hF (fun o k z => ⟨z.1, Or.inr z.2⟩) (fun x z => by rcases z with z | z <;> omega) ⟨(mC_fx hF (by unfold Ism; decide) (by unfold Ism; decide) (fun x z y => by unfold isM at y; rcases z with z | z <;> omega) _).trans b1, by rw [nI 38 (by decide)]; exact b2, fun k hk => by rw [nA 81 (by decide)]; exact b3 k hk, gI_sI _ _ _ _, ?_, fun k hk => by rw [nA 71 (by decide)]; exact b6 k hk⟩ (fun j hj => ⟨?_, ?_⟩)
  · exact seB_row (A := fun k => gA st (mseN k)) (A' := fun k => gA (addM st v.2.1.2.2.1.1 e) (mseN k)) b5 (fun k hk => addM_A st _ e hk)
  · have e93 : gA (addM st v.2.1.2.2.1.1 e) 93 = upd (gA st 93) v.2.1.2.2.1.1 (e 4) := addM_A st v.2.1.2.2.1.1 e (k := 4) (by decide)
    rw [e93]
    by_cases ej : j = v.2.1.2.2.1.1
    · rw [ej, upd_same]; exact h5
    · rw [upd_ne ej]; exact (hB j hj).1
  · rw [nA 105 (by decide)]; exact (hB j hj).2
theorem AvOk.se {v : AV} (h : AvOk v) {e : Nat → Int32} (hn : v.2.1.2.2.1.1 < 8) (he : SeOk v.1 e) : AvOk (setb v (seB v.2.1 e)) := by
  obtain ⟨h1, h2, ⟨b1, b2, b3, b4, b5⟩, h4⟩ := h
  refine ⟨h1, h2, ⟨b1, b2, b3, ?_, fun i hi => ?_⟩, h4⟩
  · show v.2.1.2.2.1.1 + 1 ≤ 8
    omega
  · have hi : i < v.2.1.2.2.1.1 + 1 := hi
    show SeOk v.1 (if i = v.2.1.2.2.1.1 then e else v.2.1.2.2.1.2 i)
    split
    · exact he
    · exact b5 i (by omega)
theorem t20 {a : Int32} (h : 0 ≤ a.toInt ∧ a.toInt ≤ 20) : (0 : Int64).toInt ≤ ((a : Int32).toInt64).toInt ∧ ((a : Int32).toInt64).toInt ≤ (20 : Int64).toInt := by
  rw [Int32.toInt_toInt64, z64, show (20 : Int64).toInt = 20 by decide]; exact h
theorem f20 {a : Int32} (h : ¬ (0 ≤ a.toInt ∧ a.toInt ≤ 20)) : ¬ ((0 : Int64).toInt ≤ ((a : Int32).toInt64).toInt ∧ ((a : Int32).toInt64).toInt ≤ (20 : Int64).toInt) := by
  rw [Int32.toInt_toInt64, z64, show (20 : Int64).toInt = 20 by decide]; exact h
theorem lt20 {a : Int32} : (20 : Int32) < a ↔ 20 < a.toInt := by rw [Int32.lt_iff_toInt_lt]; rfl
set_option maxHeartbeats 4000000 in
theorem c_see {a1 a2 a3 a4 a5 : Int32} {st : St} (h5 : a5 = 0 ∨ a5 = 1) (hI : Inv st) : P_L_see a1 a2 a3 a4 a5 st (fun k st1 => Bth (P_X12_see 58 a1 a2 a3 a4 a5) k st1) := by
  obtain ⟨v, H, HM, HO⟩ := hI
  obtain ⟨p, D⟩ := H.D
  have q1 := HO.1.1
  have q2 := HO.1.2.1
  have n8 := HO.2.2.1.2.2.2.1
  have B3 : gI st 9 5 = iN v.2.1.2.2.1.1 := H.B.2.2.1
  by_cases hb : isI v.1.2.1 a1
  · obtain ⟨b, hb, rfl⟩ := hb
    by_cases hx : isI v.1.1 a3
    · obtain ⟨x, hx, rfl⟩ := hx
      by_cases hy : isI v.1.1 a4
      · obtain ⟨y, hy, rfl⟩ := hy
        have exy : iN x = iN y ↔ x = y := iN_eq (by omega) (by omega)
        by_cases hk : v.2.1.2.2.1.1 < 8 ∧ (0 ≤ a2.toInt ∧ a2.toInt ≤ 20) ∧ x ≠ y
        · obtain ⟨hn, hd, hne⟩ := hk
          obtain ⟨d, _, hd2, ed⟩ := (inR (lo := 0) (hi := 20) (by decide)).mp hd
          refine h_ok (PC := fun post pex => P_X11_see 0 (iN b) a2 (iN x) (iN y) a5 st post pex) (PM := P_X12_see 58 (iN b) a2 (iN x) (iN y) a5) (v2 := setb v (seB v.2.1 (seE (iN b) a2 (iN x) (iN y) a5))) (r := iN (v.2.1.2.2.1.1 + 1)) HM (HO.se hn ⟨⟨b, hb, rfl⟩, ⟨d, hd2, ed⟩, ⟨x, hx, rfl⟩, ⟨y, hy, rfl⟩, h5⟩) (fun post h => ?_) (fun s1 post I0 h => ?_)
          · refine ⟨tb_out, s_needB D hb ⟨tb_out, s_needP D hx ⟨tb_out, s_needP D hy ⟨2, rfl, 9, rfl, rfl, fun hz => ?_, fun _ => ⟨fun hz => ?_, fun _ => ⟨fun hz => ?_, fun _ => ⟨fun _ => ⟨2, rfl, 9, rfl, ⟨_, rfl⟩, s_add (f := seE (iN b) a2 (iN x) (iN y) a5) (Or.inl rfl) B3 hn h5 ⟨2, rfl, 9, rfl, rfl, ?_⟩⟩, fun hz => absurd (exy.mp hz) hne⟩⟩⟩⟩⟩⟩⟩
            · rw [B3] at hz; exact absurd hz (nle (a := 8) (by decide) hn)
            · rw [lt0] at hz; omega
            · rw [lt20] at hz; omega
            · rw [addS_5]
              obtain ⟨c1, c2⟩ := seC H (seE (iN b) a2 (iN x) (iN y) a5)
              exact h _ c1 c2
          · obtain ⟨I1, F1, k1⟩ := m_beg I0
            have e39 : gI (sI s1 58 4 0) 58 39 = iN v.2.1.2.2.1.1 := I1.2.1.2.2.2.1
            have e2 := iN_cl (n := v.2.1.2.2.1.1) (by omega)
            refine ⟨rfl, ⟨_, rfl⟩, s_isB I1.1 hb ⟨fun hz => absurd hz (by decide), fun _ => ⟨⟨_, rfl⟩, s_isP I1.1 hx ⟨fun hz => absurd hz (by decide), fun _ => ⟨⟨_, rfl⟩, s_isP I1.1 hy ⟨fun _ => ⟨rfl, fun hz => ?_, fun _ => s_isIn1 (t20 hd).1 (t20 hd).2 ⟨fun hz => absurd hz (by decide), fun _ => ⟨fun _ => ?_, fun hz => absurd (exy.mp hz) hne⟩⟩⟩, fun hz => absurd hz (by decide)⟩⟩⟩⟩⟩⟩
            · rw [e39] at hz
              have := (iN_eq (b := 8) (by omega) (by decide)).mp hz
              omega
            · simp only [gI_sA, gI_sI, e39, e2, iN_s]
              have v8 : vp_in (iN v.2.1.2.2.1.1) 8 := iN_vp hn (by decide)
              obtain ⟨c1, c2⟩ := seM I1 (e := seE (iN b) a2 (iN x) (iN y) a5) h5
              have K := h _ (F1.tr c1) c2 ((addM_fx (sI s1 58 4 0) v.2.1.2.2.1.1 (seE (iN b) a2 (iN x) (iN y) a5)).eI (by unfold Ism; decide) |>.trans k1)
              exact ⟨88, rfl, rfl, v8, 89, rfl, rfl, v8, 90, rfl, rfl, v8, 91, rfl, rfl, v8, 93, rfl, rfl, v8, h5, rfl, rfl, rfl, K⟩
        · refine h_ok (PC := fun post pex => P_X11_see 0 (iN b) a2 (iN x) (iN y) a5 st post pex) (PM := P_X12_see 58 (iN b) a2 (iN x) (iN y) a5) (v2 := setb v (rfB v.2.1 2)) (r := -1) HM (HO.rf 2) (fun post h => ?_) (fun s1 post I0 h => ?_)
          · have R : P_X11_see_47 0 (iN b) a2 (iN x) (iN y) a5 post (fun X st1 => X = NSE ∧ Bth (P_X12_see 58 (iN b) a2 (iN x) (iN y) a5) 1 st1) st := ⟨tb_out, refuseC H (k := 2) (by decide) h⟩
            refine ⟨tb_out, s_needB D hb ⟨tb_out, s_needP D hx ⟨tb_out, s_needP D hy ⟨2, rfl, 9, rfl, rfl, fun _ => R, fun z1 => ⟨fun _ => R, fun z2 => ⟨fun _ => R, fun z3 => ⟨fun z4 => absurd ⟨?_, ?_, fun e => z4 (by rw [e])⟩ hk, fun _ => R⟩⟩⟩⟩⟩⟩⟩
            · rw [B3] at z1
              have z1 : ¬ iN 8 ≤ iN v.2.1.2.2.1.1 := z1
              rw [iN_le (by omega) (by omega)] at z1
              omega
            · rw [lt0] at z2
              rw [lt20] at z3
              omega
          · obtain ⟨I1, F1, k1⟩ := m_beg I0
            have e39 : gI (sI s1 58 4 0) 58 39 = iN v.2.1.2.2.1.1 := I1.2.1.2.2.2.1
            have R : P_X12_see_63 58 (iN b) a2 (iN x) (iN y) a5 post (sI s1 58 4 0) := ⟨⟨_, rfl⟩, refuseM I1 (k := 2) (by decide) (fun s2 F2 I2 k2 => h _ (F1.tr F2) I2 (k2.trans k1))⟩
            refine ⟨rfl, ⟨_, rfl⟩, s_isB I1.1 hb ⟨fun hz => absurd hz (by decide), fun _ => ⟨⟨_, rfl⟩, s_isP I1.1 hx ⟨fun hz => absurd hz (by decide), fun _ => ⟨⟨_, rfl⟩, s_isP I1.1 hy ⟨fun _ => ⟨rfl, fun _ => R, fun z1 => ?_⟩, fun hz => absurd hz (by decide)⟩⟩⟩⟩⟩⟩
            by_cases hd : 0 ≤ a2.toInt ∧ a2.toInt ≤ 20
            · refine s_isIn1 (t20 hd).1 (t20 hd).2 ⟨fun _ => R, fun _ => ⟨fun z4 => absurd ⟨?_, hd, fun e => z4 (by rw [e])⟩ hk, fun _ => R⟩⟩
              have z1 : ¬ iN v.2.1.2.2.1.1 = iN 8 := by rw [← e39]; exact z1
              rw [iN_eq (by omega) (by omega)] at z1
              omega
            · exact s_isIn0 (f20 hd) ⟨fun _ => R, fun hz => absurd rfl hz⟩
      · refine h_thr (PC := fun post pex => P_X11_see 0 (iN b) a2 (iN x) a4 a5 st post pex) (PM := P_X12_see 58 (iN b) a2 (iN x) a4 a5) (X := NSE) (k := 1) (by decide) H HM HO (fun pex h => ⟨tb_out, s_needB D hb ⟨tb_out, s_needP D hx ⟨tb_out, s_needP0 D hy h⟩⟩⟩) (fun s1 post I0 h => ?_) (fun h => ⟨rfl, h⟩)
        exact ⟨rfl, ⟨_, rfl⟩, s_isB (m_beg I0).1.1 hb ⟨fun hz => absurd hz (by decide), fun _ => ⟨⟨_, rfl⟩, s_isP (m_beg I0).1.1 hx ⟨fun hz => absurd hz (by decide), fun _ => ⟨⟨_, rfl⟩, s_isP0 (m_beg I0).1.1 hy ⟨fun hz => absurd rfl hz, fun _ => ⟨⟨_, rfl⟩, m_fail I0 h⟩⟩⟩⟩⟩⟩⟩
    · refine h_thr (PC := fun post pex => P_X11_see 0 (iN b) a2 a3 a4 a5 st post pex) (PM := P_X12_see 58 (iN b) a2 a3 a4 a5) (X := NSE) (k := 1) (by decide) H HM HO (fun pex h => ⟨tb_out, s_needB D hb ⟨tb_out, s_needP0 D hx h⟩⟩) (fun s1 post I0 h => ?_) (fun h => ⟨rfl, h⟩)
      exact ⟨rfl, ⟨_, rfl⟩, s_isB (m_beg I0).1.1 hb ⟨fun hz => absurd hz (by decide), fun _ => ⟨⟨_, rfl⟩, s_isP0 (m_beg I0).1.1 hx ⟨fun _ => ⟨⟨_, rfl⟩, m_fail I0 h⟩, fun hz => absurd rfl hz⟩⟩⟩⟩
  · refine h_thr (PC := fun post pex => P_X11_see 0 a1 a2 a3 a4 a5 st post pex) (PM := P_X12_see 58 a1 a2 a3 a4 a5) (X := NSE) (k := 1) (by decide) H HM HO (fun pex h => ⟨tb_out, s_needB0 D hb h⟩) (fun s1 post I0 h => ?_) (fun h => ⟨rfl, h⟩)
    exact ⟨rfl, ⟨_, rfl⟩, s_isB0 (m_beg I0).1.1 hb ⟨fun _ => ⟨⟨_, rfl⟩, m_fail I0 h⟩, fun hz => absurd rfl hz⟩⟩
