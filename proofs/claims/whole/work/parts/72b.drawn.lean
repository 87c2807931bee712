/-! PURE: drawn, the reference; both together -/
def IDr (o k : Nat) : Prop := o = 58 ∧ (k = 36 ∨ k = 37 ∨ k = 57)
theorem idr_iw : ∀ o k, IDr o k → IW o k := by
  rintro o k ⟨rfl, h | h | h⟩
  · exact Or.inl ⟨rfl, Or.inl h⟩
  · exact Or.inl ⟨rfl, Or.inr h⟩
  · exact Or.inr ⟨rfl, by omega⟩
theorem imd_idr : ∀ o k, IMd o k → IDr o k := by
  rintro o k ⟨rfl, h | h⟩
  · exact ⟨rfl, Or.inl h⟩
  · exact ⟨rfl, Or.inr (Or.inl h)⟩
theorem ism_smd : ∀ x, isM x → SMd x := fun _ z => Or.inl z
theorem mC_57 (nb : Nat) (st : St) (x : Int32) : mC nb (sI st 58 57 x) = mC nb st := mC_fx (I := fun o k => o = 58 ∧ k = 57) (S := fun _ => False) (Fx.si ⟨rfl, rfl⟩ x) (fun z => absurd z.2 (by decide)) (fun z => absurd z.2 (by decide)) (fun _ z => z.elim) nb
theorem fx57 {S : Nat → Prop} (st : St) (x : Int32) : Fx IDr S st (sI st 58 57 x) := Fx.si ⟨rfl, Or.inr (Or.inr rfl)⟩ x
set_option maxHeartbeats 1000000 in
theorem s_something {nx : Int32 → Int32} {rd : Int32 → Nat} (DR : DrM nx rd) {st : St} {q : PD} (M : MPl st q) {s : Int32 × (Nat → Int32)} (hm : mC q.2.1 st = s.2) (hs : gI st 58 57 = s.1) {post : St → Prop} (h : ∀ st1, Fx IDr isM st st1 → mC q.2.1 st1 = (tcF nx rd q s).2 → gI st1 58 57 = (tcF nx rd q s).1 → post st1) : P_X12_something 58 st post := by
  have q1 := M.np
  have q2 := M.nb
  unfold tcF at h
  refine ⟨⟨_, rfl⟩, DR _ 6 _ (by decide) (by decide) ?_⟩
  rw [hs]
  have hm6 := Nat.mod_lt (rd (nx s.1)) (show 0 < 6 by decide)
  have F1 : Fx IDr isM st (sI st 58 57 (nx s.1)) := fx57 st _
  have M1 : MPl (sI st 58 57 (nx s.1)) q := M
  have e1 : mC q.2.1 (sI st 58 57 (nx s.1)) = s.2 := (mC_57 _ _ _).trans hm
  have g1 : gI (sI st 58 57 (nx s.1)) 58 57 = nx s.1 := gI_sI _ _ _ _
  generalize sI st 58 57 (nx s.1) = st1 at *
  have R : ¬ (rd (nx s.1) % 6 = 0 ∧ 0 < q.1) → P_X12_something_51 58 post (iN (rd (nx s.1) % 6)) st1 := by
    intro hn0
    rw [if_neg hn0] at h
    have E : ¬ (rd (nx s.1) % 6 = 1 ∧ 0 < q.2.1) → post st1 := fun hn1 => by
      rw [if_neg hn1] at h
      exact h st1 F1 e1 g1
    refine ⟨fun hz => E (fun e => hz (by rw [e.1]; rfl)), fun hz => ⟨62, rfl, v1_10, fun hb => E (fun e => ?_), fun hb => ?_⟩⟩
    · rw [M1.e1] at hb
      have hb : iN q.2.1 ≤ iN 0 := hb
      rw [iN_le (by omega) (by omega)] at hb; omega
    · rw [M1.e1] at hb
      have hb : ¬ iN q.2.1 ≤ iN 0 := hb
      rw [iN_le (by omega) (by omega)] at hb
      have e1' : rd (nx s.1) % 6 = 1 := (iN_eq (b := 1) (by omega) (by decide)).mp hz
      rw [if_pos ⟨e1', by omega⟩] at h
      refine ⟨62, rfl, v1_10, ⟨_, rfl⟩, ?_⟩
      rw [M1.e1]
      refine DR _ _ _ (by omega) (by omega) ?_
      rw [g1]
      have hbl := Nat.mod_lt (rd (nx (nx s.1))) (show 0 < q.2.1 by omega)
      generalize rd (nx (nx s.1)) % q.2.1 = b at *
      have F2 : Fx IDr isM st (sI st1 58 57 (nx (nx s.1))) := F1.tr (fx57 st1 _)
      have e2 : mC q.2.1 (sI st1 58 57 (nx (nx s.1))) = s.2 := (mC_57 _ _ _).trans e1
      have g2 : gI (sI st1 58 57 (nx (nx s.1))) 58 57 = nx (nx s.1) := gI_sI _ _ _ _
      generalize sI st1 58 57 (nx (nx s.1)) = st2 at *
      have vb : ∀ y, al 0 y = 6 → vp_in (iN b) (al 0 y) := fun y e => vi6 hbl q2 e
      have e78 : gA st2 78 (iN b).toNatClampNeg = s.2 (38 + 3 * b + 1) := by rw [iN_cl (by omega), ← e2]; exact (rC_h (by omega)).symm
      have e77 : gA st2 77 (iN b).toNatClampNeg = s.2 (38 + 3 * b) := by rw [iN_cl (by omega), ← e2]; exact (rC_w (by omega)).symm
      have e36 : gI st2 58 36 = s.2 0 := by rw [← e2]; rfl
      have E2 : ¬ (s.2 (38 + 3 * b + 1) = 1 ∧ ¬ s.2 (38 + 3 * b) < s.2 0) → post st2 := fun hn => by
        rw [if_neg hn] at h
        exact h st2 F2 e2 g2
      refine ⟨78, rfl, vb 78 rfl, fun hz => E2 (fun e => hz (e78.trans e.1)), fun hz => ⟨77, rfl, vb 77 rfl, rfl, fun h1 => E2 (fun e => e.2 ?_), fun h1 => ⟨77, rfl, vb 77 rfl, vb 77 rfl, ?_⟩⟩⟩
      · rw [e77, e36] at h1; exact h1
      · rw [e77, e36] at h1
        rw [if_pos ⟨e78.symm.trans hz, h1⟩] at h
        rw [e77, iN_cl (by omega)]
        exact h _ (F2.tr (Fx.sa ⟨by decide, by decide⟩ _ _)) (by rw [mC_sw (by omega), e2]) g2
  refine ⟨fun hz => R (fun e => hz (by rw [e.1]; rfl)), fun hz => ⟨62, rfl, v0_10, fun hp => R (fun e => ?_), fun hp => ?_⟩⟩
  · rw [M1.e0] at hp
    have hp : iN q.1 ≤ iN 0 := hp
    rw [iN_le (by omega) (by omega)] at hp; omega
  · rw [M1.e0] at hp
    have hp : ¬ iN q.1 ≤ iN 0 := hp
    rw [iN_le (by omega) (by omega)] at hp
    have e0 : rd (nx s.1) % 6 = 0 := (iN_eq (b := 0) (by omega) (by decide)).mp hz
    rw [if_pos ⟨e0, by omega⟩] at h
    refine ⟨62, rfl, v0_10, ⟨_, rfl⟩, ?_⟩
    rw [M1.e0]
    refine DR _ _ _ (by omega) (by omega) ?_
    rw [g1]
    have hbl := Nat.mod_lt (rd (nx (nx s.1))) (show 0 < q.1 by omega)
    generalize rd (nx (nx s.1)) % q.1 = b at *
    have F2 : Fx IDr isM st (sI st1 58 57 (nx (nx s.1))) := F1.tr (fx57 st1 _)
    have e2 : mC q.2.1 (sI st1 58 57 (nx (nx s.1))) = s.2 := (mC_57 _ _ _).trans e1
    have g2 : gI (sI st1 58 57 (nx (nx s.1))) 58 57 = nx (nx s.1) := gI_sI _ _ _ _
    generalize sI st1 58 57 (nx (nx s.1)) = st2 at *
    have vb : ∀ y, al 0 y = 9 → vp_in (iN b) (al 0 y) := fun y e => vi9 hbl q1 e
    have e73 : gA st2 73 (iN b).toNatClampNeg = s.2 (2 + 4 * b) := by rw [iN_cl (by omega), ← e2]; exact (rC_g (by omega)).symm
    refine ⟨73, rfl, 73, rfl, vb 73 rfl, vb 73 rfl, fun _ => ?_, fun hz1 => absurd (hz.symm.trans hz1) (by decide)⟩
    rw [e73, iN_cl (by omega)]
    exact h _ (F2.tr (Fx.sa ⟨by decide, by decide⟩ _ _)) (by rw [mC_sg (by omega), e2]; rfl) g2
theorem s_drM {nx : Int32 → Int32} {rd : Int32 → Nat} (DR : DrM nx rd) {st : St} {q : PD} (M : MPl st q) {c : Nat → Int32} (hm : mC q.2.1 st = c) (hC : CI q c) {sd : Int32} (hs : gI st 58 57 = sd) {N : Nat} (hN : N < 1000) {a1 a3 x4 : Int32} {post : Int32 → St → Prop} (h : ∀ st1 n, Fx IDr SMd st st1 → mC q.2.1 st1 = (dwF nx rd q sd c N).2 → P_X12_drawn_64 58 a1 (iN N) a3 post (n + 1) x4 (iN N) st1) : ∃ n8, P_X12_drawn_64 58 a1 (iN N) a3 post n8 x4 0 st := by
  refine ⟨N + 1, loop_up (α := Unit) (P := fun n i _ st => P_X12_drawn_64 58 a1 (iN N) a3 post n x4 i st) (N := N) (fun i _ st' => Fx IDr SMd st st' ∧ mC q.2.1 st' = (dwF nx rd q sd c i).2 ∧ gI st' 58 57 = (dwF nx rd q sd c i).1) ?_ ?_ N 0 () st (by omega) ⟨Fx.rf, by rw [dw_0]; exact hm, by rw [dw_0]; exact hs⟩⟩
  · rintro i hi _ st' n ⟨F2, e2, g2⟩ ih
    have M2 := M.fx F2 smd_p
    show P_X12_drawn_64 58 a1 (iN N) a3 post (n + 1) x4 (iN i) st'
    unfold P_X12_drawn_64
    refine ⟨fun hz => absurd hz (nle (by omega) hi), fun _ => ⟨⟨_, rfl⟩, s_something DR M2 e2 g2 (fun s3 F3 e3 g3 => ⟨⟨_, rfl⟩, ?_⟩)⟩⟩
    have F23 : Fx IDr SMd st s3 := F2.tr (F3.wk (fun _ _ z => z) ism_smd)
    refine s_aDay (M.fx F23 smd_p) (by rw [e3]; exact CI_tc nx rd M.ok (CI_dw nx rd M.ok hC i)) (fun s4 F4 h1 _ => ?_)
    rw [iN_s]
    refine ih () s4 ⟨F23.tr (F4.wk imd_idr (fun _ z => z)), ?_, ?_⟩
    · rw [h1, e3, dw_2]
      exact itC_eq (q := q) (c := (tcF nx rd q (dwF nx rd q sd c i)).2) (w := gA s3 84) 1
    · rw [F4.eI (by unfold IMd; decide), g3, dw_1]
  · rintro _ st' n ⟨F2, e2, g2⟩
    exact h st' n F2 e2
theorem lp_cg {α : Type} {f g : Nat → α → α} {a : α} : ∀ n, (∀ i s, i < n → f i s = g i s) → lp f a n = lp g a n := by
  intro n
  induction n with
  | zero => intro _; rfl
  | succ n ih => intro h; rw [lp_s, lp_s, ih (fun i s hi => h i s (by omega)), h n _ (by omega)]
theorem homeB_ag {nb : Nat} {c c2 : Nat → Int32} (h : ∀ j, j < 56 → c j = c2 j) (hn : nb ≤ 6) : homeB nb c = homeB nb c2 := by
  unfold homeB
  exact lp_cg nb (fun i s hi => by rw [h _ (by omega)])
theorem griefA_ag {np : Nat} {c c2 : Nat → Int32} (h : ∀ j, j < 56 → c j = c2 j) (hn : np ≤ 9) : griefA np c = griefA np c2 := by
  unfold griefA
  exact lp_cg np (fun i s hi => by rw [h _ (by omega)])
theorem homeB_sm {nb : Nat} (h : nb ≤ 6) (c : Nat → Int32) : sm9 (homeB nb c) := by
  obtain ⟨k, h1, h2, _⟩ := homeB_set (nb := nb) (by omega) c
  exact ⟨k, pow9 (by omega) h1, h2⟩
def drF (q : PD) (c c2 : Nat → Int32) (w : Int32) : Int32 := if w = 0 then iN q.2.1 - bc (homeB q.2.1 c2) else if w = 1 then c2 1 - c 1 else griefA q.1 c2
theorem t2 {b : Nat} (h : b < 3) : (0 : Int64).toInt ≤ ((iN b : Int32).toInt64).toInt ∧ ((iN b : Int32).toInt64).toInt ≤ (2 : Int64).toInt := by
  rw [Int32.toInt_toInt64, iN_toInt (by omega), z64, show (2 : Int64).toInt = 2 by decide]; omega
theorem f2 {b : Int32} (h : ¬ isI 3 b) : ¬ ((0 : Int64).toInt ≤ ((b : Int32).toInt64).toInt ∧ ((b : Int32).toInt64).toInt ≤ (2 : Int64).toInt) := by
  rw [isI_iff (by decide)] at h
  rw [Int32.toInt_toInt64, z64, show (2 : Int64).toInt = 2 by decide]; omega
theorem m_qd {s1 s2 : St} {v : AV} {S : Nat → Prop} (I0 : InvM s1 v) (F : Fx IDr S (sI s1 58 4 0) s2) (hs : ∀ x, S x → SW x) (e : mC v.1.2.1 s2 = mC v.1.2.1 (sI s1 58 4 0)) : MFr s1 s2 ∧ InvM s2 v ∧ gI s2 58 4 = 0 := by
  obtain ⟨I1, F1, k1⟩ := m_beg I0
  obtain ⟨g1, g2⟩ := m_end I1 (fx_w F idr_iw hs) e
  exact ⟨F1.tr g1, g2, (F.eI (by unfold IDr; decide)).trans k1⟩
set_option maxHeartbeats 1000000 in
theorem c_drawn {a n0 b : Int32} {st : St} (hI : Inv st) : P_L_drawn a n0 b st (fun k st1 => Bth (P_X12_drawn 58 a n0 b) k st1) := by
  obtain ⟨nx, rd, DC, DM⟩ := dr_all
  obtain ⟨v, H, HM, HO⟩ := hI
  obtain ⟨p, D⟩ := H.D
  have q1 := HO.1.1
  have q2 := HO.1.2.1
  have hc := H.c
  by_cases hb : isI 3 b
  · obtain ⟨w, hw, rfl⟩ := hb
    by_cases hn : isI 61 n0
    · obtain ⟨n, hn, rfl⟩ := hn
      refine h_ok (PC := fun post pex => P_X11_drawn 0 a (iN n) (iN w) st post pex) (PM := P_X12_drawn 58 a (iN n) (iN w)) (v2 := v) (r := drF v.1 v.2.1.1 (dwF nx rd v.1 a v.2.1.1 n).2 (iN w)) HM HO (fun post h => ?_) (fun s1 post I0 h => ?_)
      · refine ⟨tb_out, s_needW (l := 2) (by decide) hw ⟨tb_out, s_needF hn ⟨36, rfl, ⟨_, rfl⟩, s_drawYears DC D H.tp HO.2.1 (by omega) hc (fun st1 Q1 D1 A1 => ?_)⟩⟩⟩
        have K := h st1 Q1.cfr (H.qfr Q1)
        unfold drF at K
        refine ⟨fun hz => ⟨3, rfl, p, (D.qfr Q1).pl, pl_1 D.hp, 30, rfl, ⟨_, rfl⟩, s_homeBits D1 (s_bitCount ?_)⟩, fun hz => ⟨30, rfl, ⟨_, rfl⟩, s_dogCount isDa30 ⟨3, rfl, ⟨_, rfl⟩, s_dogCount (Or.inl rfl) ?_⟩⟩, fun hz1 hz2 => ⟨30, rfl, ⟨_, rfl⟩, s_griefOfAll D1 ?_⟩⟩
        · rw [if_pos hz] at K
          rw [(D.qfr Q1).nb, ch301, homeB_ag (fun j hj => A1.lo hj) q2]
          exact K
        · rw [if_neg (by rw [hz]; decide), if_pos hz] at K
          rw [ch301, ch31, A1.lo (by decide), Q1.e4, hc]
          exact K
        · rw [if_neg hz1, if_neg hz2] at K
          rw [ch301, griefA_ag (fun j hj => A1.lo hj) q1]
          exact K
      · have I1 := (m_beg I0).1
        have eC := I1.c
        refine ⟨rfl, s_isIn1 (t2 hw).1 (t2 hw).2 ⟨fun _ => s_isIn1 (t60 hn).1 (t60 hn).2 ⟨fun _ => ⟨85, rfl, ⟨_, rfl⟩, s_packT rfl n85 (fun s2 E2 H2 => ⟨rfl, rfl, ?_⟩)⟩, fun hz => absurd hz (by decide)⟩, fun hz => absurd hz (by decide)⟩⟩
        have e2 : mC v.1.2.1 s2 = v.2.1.1 := (mC_pk n85 E2 _).trans eC
        have e3 : mC v.1.2.1 (sI s2 58 57 a) = v.2.1.1 := (mC_57 _ _ _).trans e2
        have e37 : gI (sI s2 58 57 a) 58 37 = v.2.1.1 1 := by rw [← e3]; rfl
        rw [e37]
        have M3 : MPl (sI s2 58 57 a) v.1 := M_pk (by decide) E2 I1.1
        refine s_drM (st := sI s2 58 57 a) (N := n) DM M3 e3 HO.2.2.1.1.1 (gI_sI _ _ _ _) (by omega) (fun s4 n4 F4 e4 => ?_)
        have M4 : MPl s4 v.1 := M3.fx F4 smd_p
        have fin : ∀ r, r = drF v.1 v.2.1.1 (dwF nx rd v.1 a v.2.1.1 n).2 (iN w) → P_X12_drawn_124 58 a (iN n) (iN w) post r s4 := by
          intro r er
          refine ⟨85, rfl, ⟨_, rfl⟩, s_unpackT rfl n85 (fun s5 F5 H5 => ?_)⟩
          have G : Fx IDr SWt (sI s1 58 4 0) s5 := (((E2.fw (fun x z => Or.inr z)).tr (fx57 s2 a)).tr (F4.wk (fun _ _ z => z) (fun _ z => Or.inl z))).tr (F5.wk imd_idr (fun _ z => Or.inl (Or.inl z)))
          have e5 : mC v.1.2.1 s5 = mC v.1.2.1 (sI s1 58 4 0) := by
            rw [← H5.row, F4.eA (by unfold SMd isM; decide)]
            exact H2.row _
          obtain ⟨g1, g2, g3⟩ := m_qd I0 G swt_sw e5
          rw [er]
          exact h s5 g1 g2 g3
        unfold P_X12_drawn_64
        refine ⟨fun _ => ⟨fun h0 => ⟨fun h1 => ⟨⟨_, rfl⟩, s_allGrief (nb := v.1.2.1) M4 (fin _ ?_)⟩, fun h1 => ⟨rfl, fin _ ?_⟩⟩, fun h0 => ⟨62, rfl, v1_10, ⟨_, rfl⟩, s_atHome (nb := v.1.2.1) M4 (s_bitsOf (homeB_sm q2 _) (fin _ ?_))⟩⟩, fun hz => absurd (Int32.le_refl _) hz⟩
        · unfold drF; rw [if_neg h0, if_neg h1, e4]
        · unfold drF; rw [if_neg h0, if_pos h1, ← e4]; rfl
        · unfold drF; rw [if_pos h0, M4.e1, e4]
    · refine h_thr (PC := fun post pex => P_X11_drawn 0 a n0 (iN w) st post pex) (PM := P_X12_drawn 58 a n0 (iN w)) (X := IAE) (k := 2) (by decide) H HM HO (fun pex h => ⟨tb_out, s_needW (l := 2) (by decide) hw ⟨tb_out, s_needF0 hn h⟩⟩) (fun s1 post I0 h => ?_) (fun h => Or.inr ⟨rfl, h⟩)
      exact ⟨rfl, s_isIn1 (t2 hw).1 (t2 hw).2 ⟨fun _ => s_isIn0 (f60 hn) ⟨fun hz => absurd rfl hz, fun _ => ⟨⟨_, rfl⟩, m_fail I0 h⟩⟩, fun hz => absurd hz (by decide)⟩⟩
  · refine h_thr (PC := fun post pex => P_X11_drawn 0 a n0 b st post pex) (PM := P_X12_drawn 58 a n0 b) (X := NSE) (k := 1) (by decide) H HM HO (fun pex h => ⟨tb_out, s_needW0 (l := 2) (by decide) hb h⟩) (fun s1 post I0 h => ?_) (fun h => Or.inl ⟨rfl, h⟩)
    exact ⟨rfl, s_isIn0 (f2 hb) ⟨fun hz => absurd rfl hz, fun _ => ⟨⟨_, rfl⟩, m_fail I0 h⟩⟩⟩
