/-! PURE: forget, common, unloved, crowd -/
theorem MPl.e0 {st : St} {q : PD} (M : MPl st q) : gA st 62 (0 : Int32).toNatClampNeg = iN q.1 := M.1
theorem MPl.e1 {st : St} {q : PD} (M : MPl st q) : gA st 62 (1 : Int32).toNatClampNeg = iN q.2.1 := M.2.1
theorem MPl.np {st : St} {q : PD} (M : MPl st q) : q.1 ≤ 9 := M.2.2.2.2.2.1.1
theorem MPl.nb {st : St} {q : PD} (M : MPl st q) : q.2.1 ≤ 6 := M.2.2.2.2.2.1.2.1
theorem MPl.ok {st : St} {q : PD} (M : MPl st q) : PDok q := M.2.2.2.2.2.1
theorem nle {a b : Nat} (ha : a < 2147483648) (h : b < a) : ¬ iN a ≤ iN b := by rw [iN_le ha (by omega)]; omega
theorem v1_10 : vp_in 1 (al 0 62) := iN_vp (j := 1) (by decide) (by decide)
theorem v0_10 : vp_in 0 (al 0 62) := vp0 _ (by decide) (by decide)
theorem c_forget {st : St} (hI : Inv st) : P_X11_forget 0 st (fun st1 => P_X12_forget 58 st1 (fun st2 => Inv st2)) := by
  obtain ⟨v, H, HM, HO⟩ := hI
  obtain ⟨B1, B2, B3, B4, B5⟩ := H.B
  have F1 : Fx (fun o k => o = 9 ∧ k = 5) (fun _ => False) st (sI st 9 5 0) := Fx.si ⟨rfl, rfl⟩ _
  obtain ⟨c1, c2⟩ := H.book (w := (v.2.1.1, v.2.1.2.1, (0, v.2.1.2.2.1.2), v.2.1.2.2.2)) F1 (fun o k z => Or.inr z.1) (fun x z => z.elim) ⟨B1, by obtain ⟨f, f1, f2, f3, f4⟩ := B2; exact ⟨f, f1, f2, f3, f4⟩, gI_sI _ _ _ _, fun i hi => absurd hi (Nat.not_lt_zero _), B5⟩
  refine ⟨2, rfl, 9, rfl, ⟨_, rfl⟩, rfl, rfl, rfl, ?_⟩
  obtain ⟨I1, G1, k1⟩ := m_beg (HM.cfr c1)
  obtain ⟨b1, b2, b3, b4, b5, b6⟩ := I1.2.1
  have F2 : Fx (fun o k => o = 58 ∧ k = 39) (fun _ => False) (sI (sI st 9 5 0) 58 4 0) (sI (sI (sI st 9 5 0) 58 4 0) 58 39 0) := Fx.si ⟨rfl, rfl⟩ _
  obtain ⟨d1, d2⟩ := I1.bk (w := (v.2.1.1, v.2.1.2.1, (0, v.2.1.2.2.1.2), v.2.1.2.2.2)) F2 (fun o k z => ⟨z.1, Or.inr z.2⟩) (fun x z => z.elim) ⟨b1, b2, b3, gI_sI _ _ _ _, fun i hi => absurd hi (Nat.not_lt_zero _), b6⟩ (I1.2.2.2.2.2.2.2.cg rfl rfl)
  refine ⟨_, c2.mfr (G1.tr d1), d2, ?_⟩
  obtain ⟨o1, o2, ⟨b1, b2, b3, b4, b5⟩, o4⟩ := HO
  exact ⟨o1, o2, ⟨b1, b2, b3, Nat.zero_le _, fun i hi => absurd hi (Nat.not_lt_zero _)⟩, o4⟩
theorem c_common {a b : Int32} {st : St} (hI : Inv st) : P_L_common a b st (fun k st1 => Bth (P_X12_common 58 a b) k st1) := by
  obtain ⟨v, H, HM, HO⟩ := hI
  obtain ⟨p, D⟩ := H.D
  have q1 := HO.1.1
  have q2 := HO.1.2.1
  have hc := H.c
  by_cases ha : isI v.1.1 a
  · obtain ⟨x, hx, rfl⟩ := ha
    by_cases hb : isI v.1.1 b
    · obtain ⟨y, hy, rfl⟩ := hb
      refine h_ok (PC := fun post pex => P_X11_common 0 (iN x) (iN y) st post pex) (PM := P_X12_common 58 (iN x) (iN y)) (v2 := v) (r := tiedB v.1.2.1 v.2.1.1 x &&& tiedB v.1.2.1 v.2.1.1 y) HM HO (fun post h => ?_) (fun s1 post I0 h => ?_)
      · exact ⟨tb_out, s_needP D hx ⟨tb_out, s_needP D hy ⟨3, rfl, da_o D.hd, s_bridesTiedTo D (by omega) ⟨3, rfl, da_o D.hd, s_bridesTiedTo D (by omega) (by rw [ch31, hc]; exact h st CFr.rf H)⟩⟩⟩⟩
      · obtain ⟨I1, F1, k1⟩ := m_beg I0
        have M1 := I1.1
        have eC := I1.c
        exact ⟨rfl, ⟨_, rfl⟩, s_isP M1 hx ⟨fun hz => absurd hz (by decide), fun _ => ⟨⟨_, rfl⟩, s_isP M1 hy ⟨fun hz => absurd hz (by decide), fun _ => ⟨⟨_, rfl⟩, s_tiesOf (nb := v.1.2.1) M1 (by omega) ⟨⟨_, rfl⟩, s_tiesOf (nb := v.1.2.1) M1 (by omega) (by rw [eC]; exact h _ F1 I1 k1)⟩⟩⟩⟩⟩⟩
    · refine h_thr (PC := fun post pex => P_X11_common 0 (iN x) b st post pex) (PM := P_X12_common 58 (iN x) b) (X := NSE) (k := 1) (by decide) H HM HO (fun pex h => ⟨tb_out, s_needP D hx ⟨tb_out, s_needP0 D hb h⟩⟩) (fun s1 post I0 h => ?_) (fun h => ⟨rfl, h⟩)
      exact ⟨rfl, ⟨_, rfl⟩, s_isP (m_beg I0).1.1 hx ⟨fun hz => absurd hz (by decide), fun _ => ⟨⟨_, rfl⟩, s_isP0 (m_beg I0).1.1 hb ⟨fun _ => ⟨⟨_, rfl⟩, m_fail I0 h⟩, fun hz => absurd rfl hz⟩⟩⟩⟩
  · refine h_thr (PC := fun post pex => P_X11_common 0 a b st post pex) (PM := P_X12_common 58 a b) (X := NSE) (k := 1) (by decide) H HM HO (fun pex h => ⟨tb_out, s_needP0 D ha h⟩) (fun s1 post I0 h => ?_) (fun h => ⟨rfl, h⟩)
    exact ⟨rfl, ⟨_, rfl⟩, s_isP0 (m_beg I0).1.1 ha ⟨fun _ => ⟨⟨_, rfl⟩, m_fail I0 h⟩, fun hz => absurd rfl hz⟩⟩
/-! unloved -/
def unlF (q : PD) (c : Nat → Int32) (n : Nat) : Int32 := lp (fun b s => if c (38 + 3 * b + 1) = 1 ∧ tiedS q.1 c b = 0 then s ||| bit b else s) 0 n
theorem unl_s (q : PD) (c : Nat → Int32) (n : Nat) : unlF q c (n + 1) = if c (38 + 3 * n + 1) = 1 ∧ tiedS q.1 c n = 0 then unlF q c n ||| bit n else unlF q c n := rfl
theorem ite1 {P : Prop} [Decidable P] (h : (if P then (1 : Int32) else 0) = 0) : ¬ P := fun e => by rw [if_pos e] at h; exact absurd h (by decide)
theorem ite2 {P : Prop} [Decidable P] (h : ¬ (if P then (1 : Int32) else 0) = 0) : P := by
  by_cases e : P
  · exact e
  · rw [if_neg e] at h; exact absurd rfl h
theorem s_unlC {st : St} {v : AV} (H : InvC st v) {post : Int32 → St → Prop} (h : post (unlF v.1 v.2.1.1 v.1.2.1) st) : P_X11_unloved 0 st post := by
  obtain ⟨p, D⟩ := H.D
  have q2 := D.ok.2.1
  have hc := H.c
  refine ⟨v.1.2.1 + 1, loop_up (P := fun n i a st => P_X11_unloved_4 0 post n a i st) (N := v.1.2.1) (fun i a st' => st' = st ∧ a = unlF v.1 v.2.1.1 i) ?_ ?_ v.1.2.1 0 0 st (by omega) ⟨rfl, rfl⟩⟩
  · rintro i hi a st' n ⟨rfl, rfl⟩ ih
    have hs := unl_s v.1 v.2.1.1 i
    have skip : ¬ (v.2.1.1 (38 + 3 * i + 1) = 1 ∧ tiedS v.1.1 v.2.1.1 i = 0) → P_X11_unloved_4 0 post n (unlF v.1 v.2.1.1 i) (iN i + 1) st' := fun hn => by
      rw [iN_s]
      exact ih _ _ ⟨rfl, by rw [hs, if_neg hn]⟩
    show P_X11_unloved_4 0 post (n + 1) _ (iN i) st'
    unfold P_X11_unloved_4
    refine ⟨3, rfl, _, D.pl, pl_1 D.hp, fun hz => ?_, fun _ => ⟨3, rfl, da_o D.hd, s_isHome D.hd (by omega) ?_⟩⟩
    · rw [D.nb] at hz; exact absurd hz (nle (by omega) hi)
    rw [ch31, hc]
    refine ⟨fun hz => skip (fun e => ite1 hz e.1), fun hz => ⟨3, rfl, da_o D.hd, s_peopleTiedTo D (by omega) ?_⟩⟩
    rw [ch31, hc]
    refine ⟨fun h0 => skip (fun e => h0 e.2), fun h0 => ?_⟩
    show P_X11_unloved_4 0 post n (unlF v.1 v.2.1.1 i ||| bit i) (iN i + 1) st'
    rw [iN_s]
    exact ih _ _ ⟨rfl, by rw [hs, if_pos ⟨ite2 hz, h0⟩]⟩
  · rintro a st' n ⟨rfl, rfl⟩
    show P_X11_unloved_4 0 post (n + 1) _ (iN v.1.2.1) st'
    unfold P_X11_unloved_4
    exact ⟨3, rfl, _, D.pl, pl_1 D.hp, fun _ => h, fun hz => absurd (by rw [D.nb]; exact Int32.le_refl _) hz⟩
theorem s_unlM {st : St} {q : PD} (M : MPl st q) {c : Nat → Int32} (eC : mC q.2.1 st = c) {post : Int32 → St → Prop} (h : post (unlF q c q.2.1) st) : ∃ n8, P_X12_unloved_9 58 post n8 0 0 st := by
  have q2 := M.nb
  refine ⟨q.2.1 + 1, loop_up (P := fun n i a st => P_X12_unloved_9 58 post n a i st) (N := q.2.1) (fun i a st' => st' = st ∧ a = unlF q c i) ?_ ?_ q.2.1 0 0 st (by omega) ⟨rfl, rfl⟩⟩
  · rintro i hi a st' n ⟨rfl, rfl⟩ ih
    have hs := unl_s q c i
    have g78 : gA st' 78 i = c (38 + 3 * i + 1) := by rw [← eC]; exact (rC_h (by omega)).symm
    have skip : ¬ (c (38 + 3 * i + 1) = 1 ∧ tiedS q.1 c i = 0) → P_X12_unloved_9 58 post n (unlF q c i ||| 0) (iN i + 1) st' := fun hn => by
      rw [iN_s, Int32.or_zero]
      exact ih _ _ ⟨rfl, by rw [hs, if_neg hn]⟩
    show P_X12_unloved_9 58 post (n + 1) _ (iN i) st'
    unfold P_X12_unloved_9
    rw [iN_cl (by omega)]
    refine ⟨62, rfl, v1_10, fun hz => ?_, fun _ => ⟨78, rfl, (show vp_in (iN i) 6 from iN_vp (by omega) (by decide)), fun hz => skip (fun e => hz (g78.trans e.1)), fun hz => ⟨⟨_, rfl⟩, s_tiedTo (nb := q.2.1) M (by omega) ?_⟩⟩⟩
    · rw [M.e1] at hz; exact absurd hz (nle (by omega) hi)
    rw [eC]
    refine ⟨fun h0 => skip (fun e => h0 e.2), fun h0 => ?_⟩
    show P_X12_unloved_9 58 post n (unlF q c i ||| bit i) (iN i + 1) st'
    rw [iN_s]
    exact ih _ _ ⟨rfl, by rw [hs, if_pos ⟨g78.symm.trans hz, h0⟩]⟩
  · rintro a st' n ⟨rfl, rfl⟩
    show P_X12_unloved_9 58 post (n + 1) _ (iN q.2.1) st'
    unfold P_X12_unloved_9
    exact ⟨62, rfl, v1_10, fun _ => h, fun hz => absurd (by rw [M.e1]; exact Int32.le_refl _) hz⟩
theorem c_unloved {st : St} (hI : Inv st) : P_X11_unloved 0 st (fun r1 st1 => P_X12_unloved 58 st1 (fun r2 st2 => r1 = r2 ∧ Inv st2)) := by
  obtain ⟨v, H, HM, HO⟩ := hI
  refine s_unlC H ?_
  obtain ⟨I1, F1, k1⟩ := m_beg HM
  exact ⟨rfl, s_unlM I1.1 I1.c ⟨rfl, v, H.mfr F1, I1, HO⟩⟩
/-! crowd -/
def nWd (nb : Nat) (c : Nat → Int32) (d : Int32) : Int32 := lp (fun k s => if c (38 + 3 * k + 1) = 1 ∧ c (38 + 3 * k) = d then s + 1 else s) 0 nb
theorem nWd_s (n : Nat) (c : Nat → Int32) (d : Int32) : nWd (n + 1) c d = if c (38 + 3 * n + 1) = 1 ∧ c (38 + 3 * n) = d then nWd n c d + 1 else nWd n c d := rfl
theorem nWd_n (c : Nat → Int32) (d : Int32) : ∀ n, ∃ m, m ≤ n ∧ nWd n c d = iN m ∧ ((∃ k, k < n ∧ c (38 + 3 * k + 1) = 1 ∧ c (38 + 3 * k) = d) → 0 < m) := by
  intro n
  induction n with
  | zero => exact ⟨0, Nat.le_refl _, rfl, fun ⟨k, hk, _⟩ => by omega⟩
  | succ n ih =>
    obtain ⟨m, h1, h2, h3⟩ := ih
    rw [nWd_s]
    by_cases e : c (38 + 3 * n + 1) = 1 ∧ c (38 + 3 * n) = d
    · rw [if_pos e, h2, iN_s]; exact ⟨m + 1, by omega, rfl, fun _ => by omega⟩
    · rw [if_neg e]
      refine ⟨m, by omega, h2, fun ⟨k, hk, hk2⟩ => h3 ⟨k, ?_, hk2⟩⟩
      rcases Nat.lt_or_ge k n with hlt | hge
      · exact hlt
      · exact absurd (by rw [show n = k by omega]; exact hk2) e
def manyW (nb : Nat) (c : Nat → Int32) (b : Nat) : Int32 := if c (38 + 3 * b + 1) = 1 then nWd nb c (c (38 + 3 * b)) else 0
def crF (nb : Nat) (c : Nat → Int32) (n : Nat) : Int32 × Int32 := lp (fun b s => if s.2 < manyW nb c b ∨ (manyW nb c b = s.2 ∧ c (38 + 3 * b) < s.1) then (c (38 + 3 * b), manyW nb c b) else s) ((-1 : Int32), (0 : Int32)) n
theorem cr_s (nb : Nat) (c : Nat → Int32) (n : Nat) : crF nb c (n + 1) = if (crF nb c n).2 < manyW nb c n ∨ (manyW nb c n = (crF nb c n).2 ∧ c (38 + 3 * n) < (crF nb c n).1) then (c (38 + 3 * n), manyW nb c n) else crF nb c n := rfl
theorem manyW_n (nb : Nat) (c : Nat → Int32) (b : Nat) : ∃ m, m ≤ nb ∧ manyW nb c b = iN m := by
  unfold manyW
  split
  · obtain ⟨m, h1, h2, _⟩ := nWd_n c (c (38 + 3 * b)) nb; exact ⟨m, h1, h2⟩
  · exact ⟨0, Nat.zero_le _, rfl⟩
theorem cr_inv {nb : Nat} {c : Nat → Int32} (hnb : nb ≤ 6) (hw : ∀ b, b < nb → 0 ≤ c (38 + 3 * b)) : ∀ n, n ≤ nb → (∃ m, m ≤ 6 ∧ (crF nb c n).2 = iN m) ∧ ((crF nb c n).2 = 0 → (crF nb c n).1 = -1) := by
  intro n
  induction n with
  | zero => intro _; exact ⟨⟨0, by decide, rfl⟩, fun _ => rfl⟩
  | succ n ih =>
    intro hn
    obtain ⟨⟨m, h1, h2⟩, h3⟩ := ih (by omega)
    obtain ⟨k, k1, k2⟩ := manyW_n nb c n
    rw [cr_s]
    split
    · rename_i hh
      refine ⟨⟨k, by omega, k2⟩, fun e => ?_⟩
      exfalso
      have e : manyW nb c n = 0 := e
      rw [e, h2] at hh
      rcases hh with hh | ⟨h4, h5⟩
      · have hh : iN m < iN 0 := hh
        rw [iN_lt (by omega) (by omega)] at hh; omega
      · have h4 : (crF nb c n).2 = 0 := h2.trans h4.symm
        rw [h3 h4] at h5
        have := hw n (by omega)
        rw [Int32.lt_iff_toInt_lt, show (-1 : Int32).toInt = -1 by decide] at h5
        rw [Int32.le_iff_toInt_le, show (0 : Int32).toInt = 0 by decide] at this
        omega
    · exact ⟨⟨m, h1, h2⟩, h3⟩
theorem s_weddingsOn {st : St} {d p : Nat} {q : PD} (D : DSt st d p q) {w : Int32} {post : Int32 → St → Prop} (h : post (nWd q.2.1 (gA st (ch d 1)) w) st) : P_X2_weddingsOn d w st post := by
  have q2 := D.ok.2.1
  refine ⟨q.2.1 + 1, loop_up (P := fun n i a st => P_X2_weddingsOn_4 d w post n a i st) (N := q.2.1) (fun i a st' => st' = st ∧ a = nWd i (gA st (ch d 1)) w) ?_ ?_ q.2.1 0 0 st (by omega) ⟨rfl, rfl⟩⟩
  · rintro i hi a st' n ⟨rfl, rfl⟩ ih
    have hs := nWd_s i (gA st' (ch d 1)) w
    have skip : ¬ (gA st' (ch d 1) (38 + 3 * i + 1) = 1 ∧ gA st' (ch d 1) (38 + 3 * i) = w) → P_X2_weddingsOn_4 d w post n (nWd i (gA st' (ch d 1)) w) (iN i + 1) st' := fun hn => by
      rw [iN_s]
      exact ih _ _ ⟨rfl, by rw [hs, if_neg hn]⟩
    show P_X2_weddingsOn_4 d w post (n + 1) _ (iN i) st'
    unfold P_X2_weddingsOn_4
    refine ⟨_, D.pl, pl_1 D.hp, fun hz => ?_, fun _ => ⟨da_o D.hd, s_isHome D.hd (by omega) ⟨fun hz => skip (fun e => ite1 hz e.1), fun hz => ⟨da_o D.hd, s_weddingOf D.hd (by omega) ⟨fun h0 => skip (fun e => h0 e.2), fun h0 => ?_⟩⟩⟩⟩⟩
    · rw [D.nb] at hz; exact absurd hz (nle (by omega) hi)
    show P_X2_weddingsOn_4 d w post n (nWd i (gA st' (ch d 1)) w + 1) (iN i + 1) st'
    rw [iN_s]
    exact ih _ _ ⟨rfl, by rw [hs, if_pos ⟨ite2 hz, h0⟩]⟩
  · rintro a st' n ⟨rfl, rfl⟩
    show P_X2_weddingsOn_4 d w post (n + 1) _ (iN q.2.1) st'
    unfold P_X2_weddingsOn_4
    exact ⟨_, D.pl, pl_1 D.hp, fun _ => h, fun hz => absurd (by rw [D.nb]; exact Int32.le_refl _) hz⟩
theorem s_crC {st : St} {v : AV} (H : InvC st v) {a : Int32} {post : Int32 → St → Prop} {pex : String → St → Prop} (h : post (if a = 0 then (crF v.1.2.1 v.2.1.1 v.1.2.1).1 else (crF v.1.2.1 v.2.1.1 v.1.2.1).2) st) : ∃ n8, P_X11_crowd_13 0 a post pex n8 (-1) 0 0 st := by
  obtain ⟨p, D⟩ := H.D
  have q2 := D.ok.2.1
  have hc := H.c
  refine ⟨v.1.2.1 + 1, loop_up (α := Int32 × Int32) (P := fun n i s st => P_X11_crowd_13 0 a post pex n s.1 s.2 i st) (N := v.1.2.1) (fun i s st' => st' = st ∧ s = crF v.1.2.1 v.2.1.1 i) ?_ ?_ v.1.2.1 0 (-1, 0) st (by omega) ⟨rfl, rfl⟩⟩
  · rintro i hi s st' n ⟨rfl, rfl⟩ ih
    have hs := cr_s v.1.2.1 v.2.1.1 i
    have fin : P_X11_crowd_64 0 a (fun x2 x3 x4 st => P_X11_crowd_13 0 a post pex n x2 x3 x4 st) post pex (crF v.1.2.1 v.2.1.1 i).1 (crF v.1.2.1 v.2.1.1 i).2 (iN i) (v.2.1.1 (38 + 3 * i)) (manyW v.1.2.1 v.2.1.1 i) st' := by
      have skip : ¬ ((crF v.1.2.1 v.2.1.1 i).2 < manyW v.1.2.1 v.2.1.1 i ∨ (manyW v.1.2.1 v.2.1.1 i = (crF v.1.2.1 v.2.1.1 i).2 ∧ v.2.1.1 (38 + 3 * i) < (crF v.1.2.1 v.2.1.1 i).1)) → P_X11_crowd_13 0 a post pex n (crF v.1.2.1 v.2.1.1 i).1 (crF v.1.2.1 v.2.1.1 i).2 (iN i + 1) st' := fun hn => by
        rw [iN_s]
        exact ih _ _ ⟨rfl, by rw [hs, if_neg hn]⟩
      have take : ((crF v.1.2.1 v.2.1.1 i).2 < manyW v.1.2.1 v.2.1.1 i ∨ (manyW v.1.2.1 v.2.1.1 i = (crF v.1.2.1 v.2.1.1 i).2 ∧ v.2.1.1 (38 + 3 * i) < (crF v.1.2.1 v.2.1.1 i).1)) → P_X11_crowd_13 0 a post pex n (v.2.1.1 (38 + 3 * i)) (manyW v.1.2.1 v.2.1.1 i) (iN i + 1) st' := fun hn => by
        rw [iN_s]
        exact ih (v.2.1.1 (38 + 3 * i), manyW v.1.2.1 v.2.1.1 i) _ ⟨rfl, by rw [hs, if_pos hn]⟩
      refine ⟨fun h1 => take (Or.inl h1), fun h1 => ⟨fun h2 => skip (fun z => z.elim h1 (fun y => h2 y.1)), fun h2 => ⟨fun h3 => skip (fun z => z.elim h1 (fun y => absurd y.2 (Int32.not_lt.mpr h3))), fun h3 => take (Or.inr ⟨h2, Int32.not_le.mp h3⟩)⟩⟩⟩
    show P_X11_crowd_13 0 a post pex (n + 1) _ _ (iN i) st'
    unfold P_X11_crowd_13
    refine ⟨3, rfl, _, D.pl, pl_1 D.hp, fun hz => ?_, fun _ => ⟨3, rfl, da_o D.hd, s_weddingOf D.hd (by omega) ⟨3, rfl, da_o D.hd, s_isHome D.hd (by omega) ?_⟩⟩⟩
    · rw [D.nb] at hz; exact absurd hz (nle (by omega) hi)
    rw [ch31, hc]
    refine ⟨fun hz => ?_, fun hz => ⟨3, rfl, da_o D.hd, s_weddingsOn D ?_⟩⟩
    · have := fin
      unfold manyW at this
      rw [if_neg (ite1 hz)] at this
      exact this
    · rw [ch31, hc]
      have := fin
      unfold manyW at this
      rw [if_pos (ite2 hz)] at this
      exact this
  · rintro s st' n ⟨rfl, rfl⟩
    show P_X11_crowd_13 0 a post pex (n + 1) _ _ (iN v.1.2.1) st'
    unfold P_X11_crowd_13
    refine ⟨3, rfl, _, D.pl, pl_1 D.hp, fun _ => ⟨fun h0 => ?_, fun h0 => ?_⟩, fun hz => absurd (by rw [D.nb]; exact Int32.le_refl _) hz⟩
    · rw [if_neg h0] at h; exact h
    · rw [if_pos h0] at h; exact h
set_option maxHeartbeats 1000000 in
theorem s_crM {st : St} {q : PD} (M : MPl st q) {c : Nat → Int32} (eC : mC q.2.1 st = c) (hw : ∀ b, b < q.2.1 → 0 ≤ c (38 + 3 * b)) {a : Int32} {post : Int32 → St → Prop} (h : post (if a = 0 then (crF q.2.1 c q.2.1).1 else (crF q.2.1 c q.2.1).2) st) : ∃ n8, P_X12_crowd_27 58 a post n8 (-1) 0 0 st := by
  have q2 := M.nb
  have g78 : ∀ i, i < 6 → gA st 78 i = c (38 + 3 * i + 1) := fun i hi => by rw [← eC]; exact (rC_h hi).symm
  have g77 : ∀ i, i < 6 → gA st 77 i = c (38 + 3 * i) := fun i hi => by rw [← eC]; exact (rC_w hi).symm
  have v6 : ∀ i x, i < 6 → al 0 x = 6 → vp_in (iN i) (al 0 x) := fun i x hi e => by rw [e]; exact iN_vp hi (by decide)
  refine ⟨q.2.1 + 1, loop_up (α := Int32 × Int32) (P := fun n i s st => P_X12_crowd_27 58 a post n s.1 s.2 i st) (N := q.2.1) (fun i s st' => st' = st ∧ s = crF q.2.1 c i) ?_ ?_ q.2.1 0 (-1, 0) st (by omega) ⟨rfl, rfl⟩⟩
  · rintro i hi s st' n ⟨rfl, rfl⟩ ih
    have hs := cr_s q.2.1 c i
    obtain ⟨⟨m, m1, m2⟩, m3⟩ := cr_inv q2 hw i (by omega)
    obtain ⟨k, k1, k2⟩ := manyW_n q.2.1 c i
    show P_X12_crowd_27 58 a post (n + 1) _ _ (iN i) st'
    unfold P_X12_crowd_27
    refine ⟨62, rfl, v1_10, fun hz => ?_, fun _ => ⟨q.2.1 + 1, ?_⟩⟩
    · rw [M.e1] at hz; exact absurd hz (nle (by omega) hi)
    refine loop_up (P := fun n2 j x st => P_X12_crowd_44 58 a (fun x2 x3 x4 st => P_X12_crowd_27 58 a post n x2 x3 x4 st) post n2 (crF q.2.1 c i).1 (crF q.2.1 c i).2 (iN i) x j st) (N := q.2.1) (fun j x st'' => st'' = st' ∧ x = if c (38 + 3 * i + 1) = 1 then nWd j c (c (38 + 3 * i)) else 0) ?_ ?_ q.2.1 0 0 st' (by omega) ⟨rfl, by split <;> rfl⟩
    · rintro j hj x st'' n2 ⟨rfl, rfl⟩ ih2
      have hsj := nWd_s j c (c (38 + 3 * i))
      show P_X12_crowd_44 58 a _ post (n2 + 1) _ _ (iN i) _ (iN j) st''
      unfold P_X12_crowd_44
      rw [iN_cl (by omega), iN_cl (by omega)]
      have skip : ¬ (c (38 + 3 * i + 1) = 1 ∧ c (38 + 3 * j + 1) = 1 ∧ c (38 + 3 * j) = c (38 + 3 * i)) → P_X12_crowd_44 58 a (fun x2 x3 x4 st => P_X12_crowd_27 58 a post n x2 x3 x4 st) post n2 (crF q.2.1 c i).1 (crF q.2.1 c i).2 (iN i) ((if c (38 + 3 * i + 1) = 1 then nWd j c (c (38 + 3 * i)) else 0) + 0) (iN j + 1) st'' := fun hn => by
        rw [iN_s, Int32.add_zero]
        refine ih2 _ _ ⟨rfl, ?_⟩
        by_cases e : c (38 + 3 * i + 1) = 1
        · rw [if_pos e, if_pos e, hsj, if_neg (fun z => hn ⟨e, z.1, z.2⟩)]
        · rw [if_neg e, if_neg e]
      refine ⟨62, rfl, v1_10, fun hz => ?_, fun _ => ⟨78, rfl, v6 i 78 (by omega) rfl, fun h1 => skip (fun z => h1 ((g78 i (by omega)).trans z.1)), fun h1 => ⟨78, rfl, v6 j 78 (by omega) rfl, fun h2 => skip (fun z => h2 ((g78 j (by omega)).trans z.2.1)), fun h2 => ⟨77, rfl, v6 j 77 (by omega) rfl, 77, rfl, v6 i 77 (by omega) rfl, fun h3 => skip (fun z => h3 (by rw [g77 j (by omega), g77 i (by omega)]; exact z.2.2)), fun h3 => ?_⟩⟩⟩⟩
      · rw [M.e1] at hz; exact absurd hz (nle (by omega) hj)
      rw [g78 i (by omega)] at h1
      rw [g78 j (by omega)] at h2
      rw [g77 j (by omega), g77 i (by omega)] at h3
      show P_X12_crowd_44 58 a (fun x2 x3 x4 st => P_X12_crowd_27 58 a post n x2 x3 x4 st) post n2 (crF q.2.1 c i).1 (crF q.2.1 c i).2 (iN i) ((if c (38 + 3 * i + 1) = 1 then nWd j c (c (38 + 3 * i)) else 0) + 1) (iN j + 1) st''
      rw [iN_s]
      refine ih2 _ _ ⟨rfl, ?_⟩
      rw [if_pos h1, if_pos h1, hsj, if_pos ⟨h2, h3⟩]
    · rintro x st'' n2 ⟨rfl, rfl⟩
      show P_X12_crowd_44 58 a _ post (n2 + 1) _ _ (iN i) (manyW q.2.1 c i) (iN q.2.1) st''
      unfold P_X12_crowd_44
      rw [iN_cl (n := i) (by omega)]
      have skip : ¬ ((crF q.2.1 c i).2 < manyW q.2.1 c i ∨ (manyW q.2.1 c i = (crF q.2.1 c i).2 ∧ c (38 + 3 * i) < (crF q.2.1 c i).1)) → P_X12_crowd_27 58 a post n (crF q.2.1 c i).1 (crF q.2.1 c i).2 (iN i + 1) st'' := fun hn => by
        rw [iN_s]
        exact ih _ _ ⟨rfl, by rw [hs, if_neg hn]⟩
      have take : ((crF q.2.1 c i).2 < manyW q.2.1 c i ∨ (manyW q.2.1 c i = (crF q.2.1 c i).2 ∧ c (38 + 3 * i) < (crF q.2.1 c i).1)) → P_X12_crowd_141 58 a (fun x2 x3 x4 st => P_X12_crowd_27 58 a post n x2 x3 x4 st) post (iN i) (manyW q.2.1 c i) st'' := fun hn => by
        refine ⟨77, rfl, v6 i 77 (by omega) rfl, ?_⟩
        show P_X12_crowd_27 58 a post n (gA st'' 77 (iN i).toNatClampNeg) (manyW q.2.1 c i) (iN i + 1) st''
        rw [iN_cl (by omega), g77 i (by omega), iN_s]
        exact ih (c (38 + 3 * i), manyW q.2.1 c i) _ ⟨rfl, by rw [hs, if_pos hn]⟩
      refine ⟨62, rfl, v1_10, fun _ => ⟨fun h1 => skip (fun z => ?_), fun h1 => ⟨fun h2 => skip (fun z => ?_), fun h2 => ⟨fun h3 => take (Or.inl ?_), fun h3 => ⟨77, rfl, v6 i 77 (by omega) rfl, fun h4 => take (Or.inr ⟨h3, by rw [← g77 i (by omega)]; exact h4⟩), fun h4 => skip (fun z => ?_)⟩⟩⟩⟩, fun hz => absurd (by rw [M.e1]; exact Int32.le_refl _) hz⟩
      · rcases z with z | z
        · exact Int32.lt_irrefl (Int32.lt_trans h1 z)
        · rw [z.1] at h1; exact Int32.lt_irrefl h1
      · rw [h2] at z
        rcases z with z | z
        · rw [m2] at z
          have z : iN m < iN 0 := z
          rw [iN_lt (by omega) (by omega)] at z; omega
        · have z2 := z.2
          rw [m3 z.1.symm] at z2
          have := hw i hi
          rw [Int32.lt_iff_toInt_lt, show (-1 : Int32).toInt = -1 by decide] at z2
          rw [Int32.le_iff_toInt_le, show (0 : Int32).toInt = 0 by decide] at this
          omega
      · rw [k2, m2] at h1 h3 ⊢
        rw [iN_lt (by omega) (by omega)] at h1 ⊢
        rw [iN_eq (by omega) (by omega)] at h3
        omega
      · rcases z with z | z
        · rw [h3] at z; exact Int32.lt_irrefl z
        · exact h4 (by rw [g77 i (by omega)]; exact z.2)
  · rintro s st' n ⟨rfl, rfl⟩
    show P_X12_crowd_27 58 a post (n + 1) _ _ (iN q.2.1) st'
    unfold P_X12_crowd_27
    refine ⟨62, rfl, v1_10, fun _ => ⟨fun h0 => ?_, fun h0 => ?_⟩, fun hz => absurd (by rw [M.e1]; exact Int32.le_refl _) hz⟩
    · rw [if_neg h0] at h; exact h
    · rw [if_pos h0] at h; exact h
theorem c_crowd {a : Int32} {st : St} (hI : Inv st) : P_L_crowd a st (fun k st1 => Bth (P_X12_crowd 58 a) k st1) := by
  obtain ⟨v, H, HM, HO⟩ := hI
  obtain ⟨p, D⟩ := H.D
  have q2 := HO.1.2.1
  by_cases ha : isI 2 a
  · obtain ⟨x, hx, rfl⟩ := ha
    refine h_ok (PC := fun post pex => P_X11_crowd 0 (iN x) st post pex) (PM := P_X12_crowd 58 (iN x)) (v2 := v) (r := if iN x = 0 then (crF v.1.2.1 v.2.1.1 v.1.2.1).1 else (crF v.1.2.1 v.2.1.1 v.1.2.1).2) HM HO (fun post h => ?_) (fun s1 post I0 h => ?_)
    · exact ⟨tb_out, s_needW (l := 1) (by decide) hx (s_crC H (h st CFr.rf H))⟩
    · obtain ⟨I1, F1, k1⟩ := m_beg I0
      refine ⟨rfl, fun hz => ?_, fun _ => ⟨fun _ => s_crM I1.1 I1.c HO.2.2.1.1.2.2.2.1 (h _ F1 I1 k1), fun hz => absurd ((iN_le (b := 1) (by omega) (by decide)).mpr (by omega)) hz⟩⟩
      rw [lt0, iN_toInt (by omega)] at hz; omega
  · refine h_thr (PC := fun post pex => P_X11_crowd 0 a st post pex) (PM := P_X12_crowd 58 a) (X := NSE) (k := 1) (by decide) H HM HO (fun pex h => ⟨tb_out, s_needW0 (l := 1) (by decide) ha h⟩) (fun s1 post I0 h => ?_) (fun h => ⟨rfl, h⟩)
    refine ⟨rfl, fun _ => ⟨⟨_, rfl⟩, m_fail I0 h⟩, fun h0 => ⟨fun h1 => absurd ?_ ha, fun _ => ⟨⟨_, rfl⟩, m_fail I0 h⟩⟩⟩
    rw [isI_iff (by omega)]
    rw [lt0] at h0
    have h1 := (le_iN (n := 1) (by decide)).mp h1
    omega
