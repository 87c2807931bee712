/-! PURE: hidden, the class and the reference -/
theorem InvC.se {st : St} {v : AV} (H : InvC st v) (HO : AvOk v) : SeC st v.1 v.2.1.2.2.1.1 v.2.1.2.2.1.2 := by
  obtain ⟨B1, B2, B3, B4, B5⟩ := H.B
  refine ⟨B3, HO.2.2.1.2.2.2.1, fun i hi => ⟨fun k hk => ?_, HO.2.2.1.2.2.2.2 i hi⟩⟩
  have := B4 i hi k hk
  exact this
theorem ten_np {st : St} {p : Nat} {q : PD} (D : DSt st 3 p q) : 10 * gI st p 0 = iN (10 * q.1) := by rw [D.np, iN_mul]; rfl
theorem s_hcC {st : St} {v : AV} (H : InvC st v) (HO : AvOk v) {post : Int32 → St → Prop} (h : ∀ st1, QFr st st1 → post (iN (ftF v.1 v.2.1.1 v.2.1.2.2.1.2 v.2.1.2.2.1.1 (10 * v.1.1)).1) st1) : P_X9_hiddenCount 36 st post := by
  obtain ⟨p, D⟩ := H.D
  have q1 := HO.1.1
  have hc := H.c
  have S := H.se HO
  generalize v.2.1.2.2.1.2 = E at *
  generalize v.2.1.2.2.1.1 = n at *
  refine ⟨10 * v.1.1 + 1, loop_up (P := fun m i a st => P_X9_hiddenCount_4 36 post m a i st) (N := 10 * v.1.1) (fun i a st' => QFr st st' ∧ a = iN (ftF v.1 v.2.1.1 E n i).1) ?_ ?_ (10 * v.1.1) 0 0 st (by omega) ⟨QFr.rf H.tp, by rw [ft_0]; rfl⟩⟩
  · rintro i hi a st' m ⟨Q1, rfl⟩ ih
    have D1 := D.qfr Q1
    show P_X9_hiddenCount_4 36 post (m + 1) _ (iN i) st'
    unfold P_X9_hiddenCount_4
    refine ⟨3, rfl, p, D1.pl, pl_0 D1.hp, fun hz => ?_, fun _ => ⟨⟨_, rfl⟩, s_suppose (c := v.2.1.1) Q1 D1 (by rw [Q1.e4]; exact hc) hi (fun hne st2 Q2 D2 A2 _ => ⟨fun hz => absurd hz (by decide), fun _ => ⟨⟨_, rfl⟩, s_isSeen Q2 D2 HO.2.1 (S.qfr Q2) A2 (fun st3 f _ Q3 _ _ _ hs => ⟨fun hz => absurd hz (by decide), fun _ => ?_⟩) (fun st3 Q3 _ _ hs => ⟨fun _ => ?_, fun hz => absurd rfl hz⟩)⟩⟩) (fun he st2 Q2 _ => ⟨fun _ => ?_, fun hz => absurd rfl hz⟩)⟩⟩
    · rw [ten_np D1] at hz; exact absurd hz (nle (by omega) hi)
    · show P_X9_hiddenCount_4 36 post m (iN _ + 1) (iN i + 1) st3
      rw [iN_s, iN_s]
      exact ih _ _ ⟨Q3, by rw [ft_p ⟨hne, hs⟩]⟩
    · show P_X9_hiddenCount_4 36 post m _ (iN i + 1) st3
      rw [iN_s]
      exact ih _ _ ⟨Q3, by rw [ft_n (fun z => hs z.2)]⟩
    · show P_X9_hiddenCount_4 36 post m _ (iN i + 1) st2
      rw [iN_s]
      exact ih _ _ ⟨Q2, by rw [ft_n (fun z => z.1 he)]⟩
  · rintro a st' m ⟨Q1, rfl⟩
    have D1 := D.qfr Q1
    show P_X9_hiddenCount_4 36 post (m + 1) _ (iN (10 * v.1.1)) st'
    unfold P_X9_hiddenCount_4
    exact ⟨3, rfl, p, D1.pl, pl_0 D1.hp, fun _ => h st' Q1, fun hz => absurd (by rw [ten_np D1]; exact Int32.le_refl _) hz⟩
noncomputable def fhF (s : Nat × (Nat → Nat)) : Int32 := if s.1 = 0 then -1 else iN (s.2 0)
theorem s_fhC {st : St} {v : AV} (H : InvC st v) (HO : AvOk v) {post : Int32 → St → Prop} (h : ∀ st1, QFr st st1 → post (fhF (ftF v.1 v.2.1.1 v.2.1.2.2.1.2 v.2.1.2.2.1.1 (10 * v.1.1))) st1) : P_X9_firstHidden 36 st post := by
  obtain ⟨p, D⟩ := H.D
  have q1 := HO.1.1
  have hc := H.c
  have S := H.se HO
  generalize v.2.1.2.2.1.2 = E at *
  generalize v.2.1.2.2.1.1 = n at *
  refine ⟨10 * v.1.1 + 1, loop_up (α := Unit) (P := fun m i _ st => P_X9_firstHidden_2 36 post m i st) (N := 10 * v.1.1) (fun i _ st' => QFr st st' ∧ (ftF v.1 v.2.1.1 E n i).1 = 0) ?_ ?_ (10 * v.1.1) 0 () st (by omega) ⟨QFr.rf H.tp, by rw [ft_0]⟩⟩
  · rintro i hi _ st' m ⟨Q1, e0⟩ ih
    have D1 := D.qfr Q1
    show P_X9_firstHidden_2 36 post (m + 1) (iN i) st'
    unfold P_X9_firstHidden_2
    refine ⟨3, rfl, p, D1.pl, pl_0 D1.hp, fun hz => ?_, fun _ => ⟨⟨_, rfl⟩, s_suppose (c := v.2.1.1) Q1 D1 (by rw [Q1.e4]; exact hc) hi (fun hne st2 Q2 D2 A2 _ => ⟨fun hz => absurd hz (by decide), fun _ => ⟨⟨_, rfl⟩, s_isSeen Q2 D2 HO.2.1 (S.qfr Q2) A2 (fun st3 f _ Q3 _ _ _ hs => ⟨fun hz => absurd hz (by decide), fun _ => ?_⟩) (fun st3 Q3 _ _ hs => ⟨fun _ => ?_, fun hz => absurd rfl hz⟩)⟩⟩) (fun he st2 Q2 _ => ⟨fun _ => ?_, fun hz => absurd rfl hz⟩)⟩⟩
    · rw [ten_np D1] at hz; exact absurd hz (nle (by omega) hi)
    · have e1 := ft_p (q := v.1) (c := v.2.1.1) (E := E) (n := n) (g := i) ⟨hne, hs⟩
      rw [e0] at e1
      have hp : 0 < (ftF v.1 v.2.1.1 E n (i + 1)).1 := by rw [e1]; exact Nat.zero_lt_one
      have e2 := ft_first hp (10 * v.1.1 - (i + 1))
      rw [show i + 1 + (10 * v.1.1 - (i + 1)) = 10 * v.1.1 by omega] at e2
      have e3 : (ftF v.1 v.2.1.1 E n (i + 1)).2 0 = i := by
        rw [e1]
        show (if (0 : Nat) = 0 then i else (ftF v.1 v.2.1.1 E n i).2 0) = i
        rw [if_pos rfl]
      have K := h st3 Q3
      unfold fhF at K
      rw [if_neg (by have := e2.1; omega), e2.2, e3] at K
      exact K
    · show P_X9_firstHidden_2 36 post m (iN i + 1) st3
      rw [iN_s]
      exact ih () _ ⟨Q3, by rw [ft_n (fun z => hs z.2)]; exact e0⟩
    · show P_X9_firstHidden_2 36 post m (iN i + 1) st2
      rw [iN_s]
      exact ih () _ ⟨Q2, by rw [ft_n (fun z => z.1 he)]; exact e0⟩
  · rintro _ st' m ⟨Q1, e0⟩
    have D1 := D.qfr Q1
    show P_X9_firstHidden_2 36 post (m + 1) (iN (10 * v.1.1)) st'
    unfold P_X9_firstHidden_2
    refine ⟨3, rfl, p, D1.pl, pl_0 D1.hp, fun _ => ?_, fun hz => absurd (by rw [ten_np D1]; exact Int32.le_refl _) hz⟩
    have K := h st' Q1
    unfold fhF at K
    rw [if_pos e0] at K
    exact K
/-! the reference -/
def SeM (st : St) (q : PD) (n : Nat) (E : Nat → Nat → Int32) : Prop := SeT (fun k => gA st (mseN k)) (gI st 58 39) q n E
theorem SeM.cg {a b : St} {q : PD} {n : Nat} {E : Nat → Nat → Int32} (h5 : gI b 58 39 = gI a 58 39) (hA : ∀ k, k < 5 → gA b (mseN k) = gA a (mseN k)) (S : SeM a q n E) : SeM b q n E := by
  obtain ⟨s1, s2, s3⟩ := S
  exact ⟨h5.trans s1, s2, fun i hi => ⟨fun k hk => (congrFun (hA k hk) i).trans ((s3 i hi).1 k hk), (s3 i hi).2⟩⟩
theorem SeM.fx {I : Nat → Nat → Prop} {T : Nat → Prop} {a b : St} {q : PD} {n : Nat} {E : Nat → Nat → Int32} (F : Fx I T a b) (hI : ¬ I 58 39) (hT : ∀ k, k < 5 → ¬ T (mseN k)) (S : SeM a q n E) : SeM b q n E := S.cg (F.eI hI) (fun k hk => F.eA (hT k hk))
theorem InvM.se {st : St} {v : AV} (H : InvM st v) (HO : AvOk v) : SeM st v.1 v.2.1.2.2.1.1 v.2.1.2.2.1.2 := ⟨H.2.1.2.2.2.1, HO.2.2.1.2.2.2.1, fun i hi => ⟨fun k hk => H.2.1.2.2.2.2.1 i hi k hk, HO.2.2.1.2.2.2.2 i hi⟩⟩
theorem smw_n : ∀ k, k < 5 → ¬ SMw (mseN k) := by unfold SMw; decide
theorem smd_n : ∀ k, k < 5 → ¬ SMd (mseN k) := by unfold SMd isM; decide
def SWs (x : Nat) : Prop := SMd x ∨ x = 92
theorem sws_n : ∀ k, k < 5 → ¬ SWs (mseN k) := by unfold SWs SMd isM; decide
theorem sws_p : nMP SWs := by unfold nMP SWs SMd isM; decide
theorem n92 : ¬ isM 92 := by unfold isM; decide
/-- one day of the reference's scales -/
theorem s_as25 {st : St} {q : PD} (M : MPl st q) {c : Nat → Int32} (hm : mC q.2.1 st = c) (hC : CI q c) {n : Nat} {E : Nat → Nat → Int32} (S : SeM st q n E) {d : Nat} (hd : d < 1000) {k13 : Int32 → Int32 → St → Prop} {post : Int32 → St → Prop} (h : ∀ st1 x, Ex SMw st st1 → (x = 1 ∧ hAll q c E n d) ∨ (x = 0 ∧ ¬ hAll q c E n d) → P_X12_aDay 58 st1 (fun st2 => k13 x (iN d + 1) st2)) : ∃ n8, P_X12_isAsSeen_25 58 k13 post n8 1 (iN d) 0 st := by
  have n8 := S.2.1
  have q1 := M.np
  have q2 := M.nb
  refine ⟨n + 1, loop_up (P := fun m i a st => P_X12_isAsSeen_25 58 k13 post m a (iN d) i st) (N := n) (fun i a st' => Ex SMw st st' ∧ ((a = 1 ∧ hAll q c E i d) ∨ (a = 0 ∧ ¬ hAll q c E i d))) ?_ ?_ n 0 1 st (by omega) ⟨Ex.rf, Or.inl ⟨rfl, fun i hi => absurd hi (Nat.not_lt_zero _)⟩⟩⟩
  · rintro i hi a st' m ⟨E1, J⟩ ih
    have S1 : SeM st' q n E := S.cg (E1.eI _ _) (fun k hk => E1.eA (smw_n k hk))
    have M1 := M.ex E1 smw_p
    have m1 : mC q.2.1 st' = c := (mC_ex E1 smw_m _).trans hm
    have v : vp_in (iN i) 8 := iN_vp (by omega) (by decide)
    obtain ⟨r1, r2⟩ := S1.2.2 i hi
    obtain ⟨⟨b, hb, e0⟩, _, ⟨x, hx, e2⟩, ⟨y, hy, e3⟩, _⟩ := r2
    have g0 : gA st' 88 i = iN b := (r1 0 (by decide)).trans e0
    have g1 : gA st' 89 i = E i 1 := r1 1 (by decide)
    have g2 : gA st' 90 i = iN x := (r1 2 (by decide)).trans e2
    have g3 : gA st' 91 i = iN y := (r1 3 (by decide)).trans e3
    have g4 : gA st' 93 i = E i 4 := r1 4 (by decide)
    have no : ∀ s2, Ex SMw st s2 → ¬ hAll q c E (i + 1) d → P_X12_isAsSeen_25 58 k13 post m 0 (iN d) (iN i + 1) s2 := fun s2 E2 hn => by
      rw [iN_s]; exact ih _ _ ⟨E2, Or.inr ⟨rfl, hn⟩⟩
    have yes : ∀ s2, Ex SMw st s2 → hAll q c E (i + 1) d → P_X12_isAsSeen_25 58 k13 post m 1 (iN d) (iN i + 1) s2 := fun s2 E2 hn => by
      rw [iN_s]; exact ih _ _ ⟨E2, Or.inl ⟨rfl, hn⟩⟩
    show P_X12_isAsSeen_25 58 k13 post (m + 1) a (iN d) (iN i) st'
    unfold P_X12_isAsSeen_25
    refine ⟨rfl, fun hz => ?_, fun _ => ⟨fun ha => ?_, fun ha => ⟨89, rfl, v, ?_⟩⟩⟩
    · have e39 : gI st' 58 39 = iN n := S1.1
      rw [e39] at hz; exact absurd hz (nle (by omega) hi)
    · rcases J with ⟨rfl, _⟩ | ⟨_, hn⟩
      · exact absurd ha (by decide)
      · exact no st' E1 (fun z => hn (fun j hj e => z j (by omega) e))
    · have hA : hAll q c E i d := by
        rcases J with ⟨_, hA⟩ | ⟨rfl, _⟩
        · exact hA
        · exact absurd rfl ha
      have nxt : (E i 1 = iN d → mr q c (E i) = E i 4) → hAll q c E (i + 1) d := fun z j hj e => by
        by_cases ej : j = i
        · rw [ej] at e ⊢; exact z e
        · exact hA j (by omega) e
      rw [iN_cl (by omega), g1]
      refine ⟨fun hz => yes st' E1 (nxt (fun e => absurd e hz)), fun hz => ⟨90, rfl, v, 88, rfl, v, ⟨_, rfl⟩, ?_⟩⟩
      rw [g0, g2]
      refine s_weightOf (nb := q.2.1) M1 hx hb (by rw [m1]; exact hC) (fun s2 E2 => ⟨91, rfl, v, 88, rfl, v, ⟨_, rfl⟩, ?_⟩)
      rw [E2.eA (show ¬ SMw 91 by unfold SMw; decide), E2.eA (show ¬ SMw 88 by unfold SMw; decide), g0, g3]
      have M2 := M1.ex E2 smw_p
      have m2 : mC q.2.1 s2 = c := (mC_ex E2 smw_m _).trans m1
      refine s_weightOf (nb := q.2.1) M2 hy hb (by rw [m2]; exact hC) (fun s3 E3 => ?_)
      have E13 := (E1.tr E2).tr E3
      have g43 : gA s3 93 (iN i).toNatClampNeg = E i 4 := by rw [iN_cl (by omega), E3.eA (show ¬ SMw 93 by unfold SMw; decide), E2.eA (show ¬ SMw 93 by unfold SMw; decide)]; exact g4
      have em : mr q c (E i) = if weighF q c y b < weighF q c x b then 1 else 0 := by
        unfold mr
        rw [e0, e2, e3, iN_cl (by omega), iN_cl (by omega), iN_cl (by omega)]
      have fin : ∀ s : Int32, mr q c (E i) = s → P_X12_isAsSeen_87 58 (fun x1 x2 x3 st => P_X12_isAsSeen_25 58 k13 post m x1 x2 x3 st) post (iN d) (iN i) s s3 := fun s es => by
        refine ⟨93, rfl, v, fun hz2 => no s3 E13 (fun z => hz2 ?_), fun hz2 => yes s3 E13 (nxt (fun _ => ?_))⟩
        · rw [g43, ← z i (by omega) hz, es]
        · rw [es, hz2, g43]
      rw [m1, m2]
      refine ⟨fun hz2 => fin 0 ?_, fun hz2 => fin 1 ?_⟩
      · rw [em, if_neg (Int32.not_lt.mpr hz2)]
      · rw [em, if_pos (Int32.not_le.mp hz2)]
  · rintro a st' m ⟨E1, J⟩
    have e39 : gI st' 58 39 = iN n := (E1.eI _ _).trans S.1
    show P_X12_isAsSeen_25 58 k13 post (m + 1) a (iN d) (iN n) st'
    unfold P_X12_isAsSeen_25
    exact ⟨rfl, fun _ => ⟨⟨_, rfl⟩, h st' a E1 J⟩, fun hz => absurd (by rw [e39]; exact Int32.le_refl _) hz⟩
set_option maxHeartbeats 1000000 in
theorem s_isAsSeen {st : St} {q : PD} (M : MPl st q) {c : Nat → Int32} (hm : mC q.2.1 st = c) (hC : CI q c) {n : Nat} {E : Nat → Nat → Int32} (S : SeM st q n E) {post : Int32 → St → Prop} (h1 : ∀ st2, Fx IMd SWs st st2 → (∀ nb, mC nb st2 = mC nb st) → SeenA q c E n → post 1 st2) (h0 : ∀ st2, Fx IMd SWs st st2 → (∀ nb, mC nb st2 = mC nb st) → ¬ SeenA q c E n → post 0 st2) : P_X12_isAsSeen 58 st post := by
  refine ⟨92, rfl, ⟨_, rfl⟩, s_packT rfl n92 (fun s1 E1 H1 => ?_)⟩
  have m1 : mC q.2.1 s1 = c := (mC_pk n92 E1 _).trans hm
  have F1 : Fx IMd SWs st s1 := E1.fw (fun x z => Or.inr z)
  have fin : ∀ (s2 : St) (x : Int32), Fx IMd SMd s1 s2 → ((x = 1 ∧ SeenA q c E n) ∨ (x = 0 ∧ ¬ SeenA q c E n)) → P_X12_isAsSeen_118 58 post x s2 := by
    intro s2 x F2 hx
    refine ⟨92, rfl, ⟨_, rfl⟩, s_unpackT rfl n92 (fun s3 F3 H3 => ?_)⟩
    have G : Fx IMd SWs st s3 := (F1.tr (F2.wk (fun _ _ z => z) (fun _ z => Or.inl z))).tr (F3.wk (fun _ _ z => z) (fun _ z => Or.inl (Or.inl z)))
    have e3 : ∀ nb, mC nb s3 = mC nb st := fun nb => by rw [← H3.row, F2.eA (by unfold SMd isM; decide), H1.row]
    rcases hx with ⟨rfl, hs⟩ | ⟨rfl, hs⟩
    · exact ⟨Or.inr rfl, h1 s3 G e3 hs⟩
    · exact ⟨Or.inl rfl, h0 s3 G e3 hs⟩
  refine ⟨22, loop_up (P := fun m i a st => P_X12_isAsSeen_13 58 post m a i st) (N := 21) (fun i a st' => Fx IMd SMd s1 st' ∧ mC q.2.1 st' = itC q c i ∧ ((a = 1 ∧ ∀ d, d < i → hAll q (itC q c d) E n d) ∨ (a = 0 ∧ ¬ SeenA q c E n))) ?_ ?_ 21 0 1 s1 (by omega) ⟨Fx.rf, m1, Or.inl ⟨rfl, fun d hd => absurd hd (Nat.not_lt_zero _)⟩⟩⟩
  · rintro i hi a st' m ⟨F2, e2, J⟩ ih
    have F12 : Fx IMd SWs st st' := F1.tr (F2.wk (fun _ _ z => z) (fun _ z => Or.inl z))
    have M2 := M.fx F12 sws_p
    have S2 : SeM st' q n E := S.fx F12 (by unfold IMd; decide) sws_n
    have hCi : CI q (itC q c i) := CI_itC M.ok hC i
    show P_X12_isAsSeen_13 58 post (m + 1) a (iN i) st'
    unfold P_X12_isAsSeen_13
    refine ⟨fun hz => ?_, fun _ => ⟨fun ha => ?_, fun ha => ?_⟩⟩
    · have hz : iN 20 < iN i := hz
      rw [iN_lt (by omega) (by omega)] at hz; omega
    · rcases J with ⟨rfl, _⟩ | ⟨rfl, hn⟩
      · exact absurd ha (by decide)
      · exact fin st' 0 F2 (Or.inr ⟨rfl, hn⟩)
    · have hA : a = 1 ∧ ∀ d, d < i → hAll q (itC q c d) E n d := by
        rcases J with hA | ⟨rfl, _⟩
        · exact hA
        · exact absurd rfl ha
      obtain ⟨rfl, hA⟩ := hA
      refine s_as25 M2 e2 hCi S2 (by omega) (fun s3 x E3 hx => ?_)
      have M3 := M2.ex E3 smw_p
      have m3 : mC q.2.1 s3 = itC q c i := (mC_ex E3 smw_m _).trans e2
      refine s_aDay M3 (by rw [m3]; exact hCi) (fun s4 F4 k1 _ => ?_)
      rw [iN_s]
      refine ih _ _ ⟨(F2.tr (E3.fw smw_d)).tr F4, ?_, ?_⟩
      · rw [k1, m3]
        exact (itC_eq (q := q) (c := itC q c i) (w := gA s3 84) 1).trans (itC_add i 1)
      · rcases hx with ⟨hx, hh⟩ | ⟨hx, hh⟩
        · refine Or.inl ⟨hx, fun d hd => ?_⟩
          by_cases ed : d = i
          · rw [ed]; exact hh
          · exact hA d (by omega)
        · exact Or.inr ⟨hx, fun z => hh (z i (by omega))⟩
  · rintro a st' m ⟨F2, e2, J⟩
    show P_X12_isAsSeen_13 58 post (m + 1) a (iN 21) st'
    unfold P_X12_isAsSeen_13
    refine ⟨fun _ => fin st' a F2 ?_, fun hz => absurd (by decide) hz⟩
    rcases J with ⟨ha, hA⟩ | ⟨ha, hn⟩
    · exact Or.inl ⟨ha, fun d hd => hA d (by omega)⟩
    · exact Or.inr ⟨ha, hn⟩
def IFt (o k : Nat) : Prop := o = 58 ∧ (k = 36 ∨ k = 37 ∨ k = 54)
def SFt (x : Nat) : Prop := SWs x ∨ x = 94
theorem ift_iw : ∀ o k, IFt o k → IW o k := by
  rintro o k ⟨rfl, h | h | h⟩
  · exact Or.inl ⟨rfl, Or.inl h⟩
  · exact Or.inl ⟨rfl, Or.inr h⟩
  · exact Or.inr ⟨rfl, by omega⟩
theorem imd_ift : ∀ o k, IMd o k → IFt o k := by
  rintro o k ⟨rfl, h | h⟩
  · exact ⟨rfl, Or.inl h⟩
  · exact ⟨rfl, Or.inr (Or.inl h)⟩
theorem sws_sw : ∀ x, SWs x → SW x := by
  rintro x (z | rfl)
  · exact smd_ms2 x z
  · exact Or.inr (by unfold ScM; decide)
theorem sft_sw : ∀ x, SFt x → SW x := by
  rintro x (z | rfl)
  · exact sws_sw x z
  · exact Or.inr (by unfold ScM; decide)
theorem sft_p : nMP SFt := by unfold nMP SFt SWs SMd isM; decide
theorem sft_n : ∀ k, k < 5 → ¬ SFt (mseN k) := by unfold SFt SWs SMd isM; decide
theorem al94 : al 0 94 = 90 := rfl
/-- the guesses that the reference has found -/
def FtM (st : St) (s : Nat × (Nat → Nat)) : Prop := gI st 58 54 = iN s.1 ∧ ∀ j, j < s.1 → gA st 94 j = iN (s.2 j)
theorem FtM.cg {a b : St} {s : Nat × (Nat → Nat)} (h1 : gI b 58 54 = gI a 58 54) (h2 : gA b 94 = gA a 94) (H : FtM a s) : FtM b s := ⟨h1.trans H.1, fun j hj => by rw [h2]; exact H.2 j hj⟩
set_option maxHeartbeats 2000000 in
theorem s_tellFits {st : St} {q : PD} (M : MPl st q) {C : Nat → Int32} (hm : mC q.2.1 st = C) (hC : CI q C) {n : Nat} {E : Nat → Nat → Int32} (S : SeM st q n E) {post : St → Prop} (h : ∀ st2, Fx IFt SFt st st2 → mC q.2.1 st2 = C → FtM st2 (ftF q C E n (10 * q.1)) → post st2) : P_X12_tellFits 58 st post := by
  have q1 := M.np
  have s75 : SFt 75 := Or.inl (Or.inl (Or.inl ⟨by decide, by decide⟩))
  refine ⟨rfl, q.1 + 1, loop_up (α := Unit) (P := fun m i _ st => P_X12_tellFits_7 58 post m i st) (N := q.1) (fun i _ st' => Fx IFt SFt st st' ∧ mC q.2.1 st' = C ∧ FtM st' (ftF q C E n (10 * i))) ?_ ?_ q.1 0 () _ (by omega) ⟨Fx.si ⟨rfl, Or.inr (Or.inr rfl)⟩ _, ?_, ?_⟩⟩
  · rintro i hi _ st' m ⟨F1, e1, T1⟩ ih
    have M1 := M.fx F1 sft_p
    have v75 : vp_in (iN i) (al 0 75) := vi9 hi q1 rfl
    have g75 : gA st' 75 (iN i).toNatClampNeg = C (2 + 4 * i + 2) := by rw [iN_cl (by omega), ← e1]; exact (rC_o (by omega)).symm
    show P_X12_tellFits_7 58 post (m + 1) (iN i) st'
    unfold P_X12_tellFits_7
    refine ⟨62, rfl, v0_10, fun hz => ?_, fun _ => ⟨75, rfl, v75, ?_⟩⟩
    · rw [M1.e0] at hz; exact absurd hz (nle (by omega) hi)
    rw [g75]
    refine ⟨11, loop_up (α := Unit) (P := fun m2 w _ st => P_X12_tellFits_26 58 (fun x1 st => P_X12_tellFits_7 58 post m x1 st) post m2 (iN i) (C (2 + 4 * i + 2)) w st) (N := 10) (fun w _ st2 => Fx IFt SFt st st2 ∧ (∃ y, mC q.2.1 st2 = upd C (2 + 4 * i + 2) y) ∧ FtM st2 (ftF q C E n (10 * i + w))) ?_ ?_ 10 0 () st' (by omega) ⟨F1, ⟨_, by rw [upd_id rfl]; exact e1⟩, T1⟩⟩
    · rintro w hw _ st2 m2 ⟨F2, ⟨y, e2⟩, T2⟩ ih2
      have eg : gsC C (10 * i + w) = upd C (2 + 4 * i + 2) (iN w) := by
        unfold gsC
        rw [show (10 * i + w) / 10 = i by omega, show (10 * i + w) % 10 = w by omega]
      have fit : Fit q C E n (10 * i + w) ↔ (C (2 + 4 * i + 2) ≠ iN w ∧ SeenA q (upd C (2 + 4 * i + 2) (iN w)) E n) := by
        unfold Fit
        rw [eg, show (10 * i + w) / 10 = i by omega, show (10 * i + w) % 10 = w by omega]
      have F3 : Fx IFt SFt st (sA st2 75 i (iN w)) := F2.tr (Fx.sa s75 _ _)
      have e3 : mC q.2.1 (sA st2 75 i (iN w)) = upd C (2 + 4 * i + 2) (iN w) := by rw [mC_so (by omega), e2, upd_upd]
      have T3 : FtM (sA st2 75 i (iN w)) (ftF q C E n (10 * i + w)) := T2.cg rfl (gA_sA_ne (by decide))
      have hle := (ft_le q C E n (10 * i + w)).1
      show P_X12_tellFits_26 58 (fun x1 st => P_X12_tellFits_7 58 post m x1 st) post (m2 + 1) (iN i) (C (2 + 4 * i + 2)) (iN w) st2
      unfold P_X12_tellFits_26
      refine ⟨fun hz => absurd hz (nle (a := 10) (by decide) hw), fun _ => ⟨75, rfl, v75, ?_⟩⟩
      rw [iN_cl (by omega)]
      refine ⟨fun hz => ?_, fun hz => ⟨⟨_, rfl⟩, s_isAsSeen (M.fx F3 sft_p) e3 (CI_irr M.ok ⟨by omega, by omega⟩ hC) (S.fx F3 (by unfold IFt; decide) sft_n) (fun s4 F4 e4 hs => ⟨fun _ => ⟨94, rfl, rfl, ?_, rfl, rfl, ?_⟩, fun hz => absurd hz (by decide)⟩) (fun s4 F4 e4 hs => ⟨fun hz => absurd rfl hz, fun _ => ?_⟩)⟩⟩
      · show P_X12_tellFits_26 58 (fun x1 st => P_X12_tellFits_7 58 post m x1 st) post m2 (iN i) (C (2 + 4 * i + 2)) (iN w + 1) (sA st2 75 i (iN w))
        rw [iN_s]
        refine ih2 () _ ⟨F3, ⟨_, e3⟩, ?_⟩
        rw [show 10 * i + (w + 1) = (10 * i + w) + 1 by omega, ft_n (fun z => (fit.mp z).1 hz.symm)]
        exact T3
      · have T4 : FtM s4 (ftF q C E n (10 * i + w)) := T3.cg (F4.eI (by unfold IMd; decide)) (F4.eA (by unfold SWs SMd isM; decide))
        rw [T4.1, al94]; exact iN_vp (by omega) (by decide)
      · have T4 : FtM s4 (ftF q C E n (10 * i + w)) := T3.cg (F4.eI (by unfold IMd; decide)) (F4.eA (by unfold SWs SMd isM; decide))
        have eg2 : (10 * iN i) + iN w = iN (10 * i + w) := by rw [iN_add, iN_mul]; rfl
        rw [gI_sA, T4.1, iN_cl (by omega), eg2, iN_s]
        show P_X12_tellFits_26 58 (fun x1 st => P_X12_tellFits_7 58 post m x1 st) post m2 (iN i) (C (2 + 4 * i + 2)) (iN w + 1) _
        rw [iN_s]
        have F5 : Fx IFt SFt st (sI (sA s4 94 (ftF q C E n (10 * i + w)).1 (iN (10 * i + w))) 58 54 (iN ((ftF q C E n (10 * i + w)).1 + 1))) := ((F3.tr (F4.wk imd_ift (fun _ z => Or.inl z))).tr (Fx.sa (Or.inr rfl) _ _)).tr (Fx.si ⟨rfl, Or.inr (Or.inr rfl)⟩ _)
        have m5 : mC q.2.1 (sI (sA s4 94 (ftF q C E n (10 * i + w)).1 (iN (10 * i + w))) 58 54 (iN ((ftF q C E n (10 * i + w)).1 + 1))) = upd C (2 + 4 * i + 2) (iN w) := by
          have FF : Fx (fun o k => o = 58 ∧ k = 54) (fun x => x = 94) s4 (sI (sA s4 94 (ftF q C E n (10 * i + w)).1 (iN (10 * i + w))) 58 54 (iN ((ftF q C E n (10 * i + w)).1 + 1))) := (Fx.sa (I := fun o k => o = 58 ∧ k = 54) (S := fun x => x = 94) (x := 94) rfl _ _).tr (Fx.si (I := fun o k => o = 58 ∧ k = 54) (S := fun x => x = 94) (o := 58) (k := 54) ⟨rfl, rfl⟩ _)
          refine (mC_fx FF (fun z => absurd z.2 (by decide)) (fun z => absurd z.2 (by decide)) (fun x z y => by rw [z] at y; unfold isM at y; omega) q.2.1).trans ?_
          rw [e4, e3]
        refine ih2 () _ ⟨F5, ⟨_, m5⟩, ?_⟩
        rw [show 10 * i + (w + 1) = (10 * i + w) + 1 by omega, ft_p (fit.mpr ⟨fun z => hz z.symm, hs⟩)]
        refine ⟨gI_sI _ _ _ _, fun j hj => ?_⟩
        have hj : j < (ftF q C E n (10 * i + w)).1 + 1 := hj
        rw [gA_sI, gA_sA]
        show _ = iN (if j = (ftF q C E n (10 * i + w)).1 then 10 * i + w else (ftF q C E n (10 * i + w)).2 j)
        by_cases ej : j = (ftF q C E n (10 * i + w)).1
        · rw [ej, upd_same, if_pos rfl]
        · rw [upd_ne ej, if_neg ej]; exact T4.2 j (by omega)
      · have T4 : FtM s4 (ftF q C E n (10 * i + w)) := T3.cg (F4.eI (by unfold IMd; decide)) (F4.eA (by unfold SWs SMd isM; decide))
        show P_X12_tellFits_26 58 (fun x1 st => P_X12_tellFits_7 58 post m x1 st) post m2 (iN i) (C (2 + 4 * i + 2)) (iN w + 1) s4
        rw [iN_s]
        refine ih2 () _ ⟨F3.tr (F4.wk imd_ift (fun _ z => Or.inl z)), ⟨_, (e4 _).trans e3⟩, ?_⟩
        rw [show 10 * i + (w + 1) = (10 * i + w) + 1 by omega, ft_n (fun z => hs (fit.mp z).2)]
        exact T4
    · rintro _ st2 m2 ⟨F2, ⟨y, e2⟩, T2⟩
      show P_X12_tellFits_26 58 (fun x1 st => P_X12_tellFits_7 58 post m x1 st) post (m2 + 1) (iN i) (C (2 + 4 * i + 2)) (iN 10) st2
      unfold P_X12_tellFits_26
      refine ⟨fun _ => ⟨75, rfl, v75, ?_⟩, fun hz => absurd (Int32.le_refl _) hz⟩
      rw [iN_cl (by omega), iN_s]
      refine ih () _ ⟨F2.tr (Fx.sa s75 _ _), ?_, T2.cg rfl (gA_sA_ne (by decide))⟩
      rw [mC_so (by omega), e2, upd_upd]
      exact upd_id rfl
  · rintro _ st' m ⟨F1, e1, T1⟩
    have M1 := M.fx F1 sft_p
    show P_X12_tellFits_7 58 post (m + 1) (iN q.1) st'
    unfold P_X12_tellFits_7
    refine ⟨62, rfl, v0_10, fun _ => h st' F1 e1 T1, fun hz => absurd ?_ hz⟩
    rw [M1.e0]; exact Int32.le_refl _
  · exact (mC_fx (I := fun o k => o = 58 ∧ k = 54) (S := fun _ => False) (Fx.si ⟨rfl, rfl⟩ _) (fun z => absurd z.2 (by decide)) (fun z => absurd z.2 (by decide)) (fun _ z => z.elim) _).trans hm
  · rw [Nat.mul_zero, ft_0]
    exact ⟨gI_sI _ _ _ _, fun j hj => absurd hj (Nat.not_lt_zero _)⟩
theorem m_qf {s1 s2 : St} {v : AV} {S : Nat → Prop} (I0 : InvM s1 v) (F : Fx IFt S (sI s1 58 4 0) s2) (hs : ∀ x, S x → SW x) (e : mC v.1.2.1 s2 = mC v.1.2.1 (sI s1 58 4 0)) : MFr s1 s2 ∧ InvM s2 v ∧ gI s2 58 4 = 0 := by
  obtain ⟨I1, F1, k1⟩ := m_beg I0
  obtain ⟨g1, g2⟩ := m_end I1 (fx_w F ift_iw hs) e
  exact ⟨F1.tr g1, g2, (F.eI (by unfold IFt; decide)).trans k1⟩
noncomputable def hdF (q : PD) (c : Nat → Int32) (E : Nat → Nat → Int32) (n w : Nat) : Int32 := if w = 0 then iN (ftF q c E n (10 * q.1)).1 else if w = 1 then fhF (ftF q c E n (10 * q.1)) else @ite _ (SeenA q c E n) (Classical.propDecidable _) 1 0
set_option maxHeartbeats 1000000 in
theorem c_hidden {a : Int32} {st : St} (hI : Inv st) : P_L_hidden a st (fun k st1 => Bth (P_X12_hidden 58 a) k st1) := by
  obtain ⟨v, H, HM, HO⟩ := hI
  obtain ⟨p, D⟩ := H.D
  have q1 := HO.1.1
  have hc := H.c
  by_cases ha : isI 3 a
  · obtain ⟨w, hw, rfl⟩ := ha
    have w0 : iN w = 0 ↔ w = 0 := iN_eq (b := 0) (by omega) (by decide)
    have w1 : iN w = 1 ↔ w = 1 := iN_eq (b := 1) (by omega) (by decide)
    have w2 : iN w = 2 ↔ w = 2 := iN_eq (b := 2) (by omega) (by decide)
    refine h_ok (PC := fun post pex => P_X11_hidden 0 (iN w) st post pex) (PM := P_X12_hidden 58 (iN w)) (v2 := v) (r := hdF v.1 v.2.1.1 v.2.1.2.2.1.2 v.2.1.2.2.1.1 w) HM HO (fun post h => ?_) (fun s1 post I0 h => ?_)
    · refine ⟨tb_out, s_needW (l := 2) (by decide) hw ⟨fun hz => ⟨36, rfl, ⟨_, rfl⟩, s_hcC H HO (fun st1 Q1 => ?_)⟩, fun hz => ⟨36, rfl, ⟨_, rfl⟩, s_fhC H HO (fun st1 Q1 => ?_)⟩, fun z0 z1 => ⟨36, rfl, ⟨_, rfl⟩, 30, rfl, 3, rfl, ⟨_, rfl⟩, s_copyT D (fun st1 Q1 D1 A1 _ => ⟨⟨_, rfl⟩, s_isSeen Q1 D1 HO.2.1 ((H.se HO).qfr Q1) (c := v.2.1.1) (by rw [← hc]; exact A1) (fun st2 f _ Q2 _ _ _ hs => ⟨Or.inr rfl, fun hz => absurd hz (by decide), fun _ => ?_⟩) (fun st2 Q2 _ _ hs => ⟨Or.inl rfl, fun _ => ?_, fun hz => absurd rfl hz⟩)⟩)⟩⟩⟩
      · have K := h st1 Q1.cfr (H.qfr Q1)
        unfold hdF at K
        rw [if_pos (w0.mp hz)] at K
        exact K
      · have K := h st1 Q1.cfr (H.qfr Q1)
        unfold hdF at K
        have := w1.mp hz
        rw [if_neg (by omega), if_pos this] at K
        exact K
      · have K := h st2 Q2.cfr (H.qfr Q2)
        unfold hdF at K
        rw [if_neg (fun e => z0 (w0.mpr e)), if_neg (fun e => z1 (w1.mpr e)), if_pos hs] at K
        exact K
      · have K := h st2 Q2.cfr (H.qfr Q2)
        unfold hdF at K
        rw [if_neg (fun e => z0 (w0.mpr e)), if_neg (fun e => z1 (w1.mpr e)), if_neg hs] at K
        exact K
    · have I1 := (m_beg I0).1
      have eC := I1.c
      refine ⟨rfl, s_isIn1 (t2 hw).1 (t2 hw).2 ⟨fun _ => ⟨fun z2 => ⟨⟨_, rfl⟩, s_tellFits I1.1 eC HO.2.2.1.1.1 (I1.se HO) (fun s2 F2 e2 T2 => ?_)⟩, fun z2 => ⟨⟨_, rfl⟩, s_isAsSeen I1.1 eC HO.2.2.1.1.1 (I1.se HO) (fun s2 F2 e2 hs => ⟨fun hz => absurd hz (by decide), fun _ => ?_⟩) (fun s2 F2 e2 hs => ⟨fun _ => ?_, fun hz => absurd rfl hz⟩)⟩⟩, fun hz => absurd hz (by decide)⟩⟩
      · obtain ⟨g1, g2, g3⟩ := m_qf I0 F2 sft_sw (e2.trans eC.symm)
        have K := h s2 g1 g2 g3
        have hle := (ft_le v.1 v.2.1.1 v.2.1.2.2.1.2 v.2.1.2.2.1.1 (10 * v.1.1)).1
        unfold hdF at K
        refine ⟨fun z0 => ⟨rfl, ?_⟩, fun z0 => ⟨rfl, ?_⟩⟩
        · have hw1 : w = 1 := by
            have : w ≠ 0 := fun e => z0 (w0.mpr e)
            have : w ≠ 2 := fun e => z2 (w2.mpr e)
            omega
          rw [if_neg (by omega), if_pos hw1] at K
          unfold fhF at K
          rw [T2.1]
          refine ⟨fun hz => ⟨94, rfl, by rw [al94]; exact vp0 _ (by decide) (by decide), ?_⟩, fun hz => ?_⟩
          · have hne : ¬ (ftF v.1 v.2.1.1 v.2.1.2.2.1.2 v.2.1.2.2.1.1 (10 * v.1.1)).1 = 0 := fun e => hz (by rw [e]; rfl)
            rw [if_neg hne] at K
            have e94 : gA s2 94 (0 : Int32).toNatClampNeg = iN ((ftF v.1 v.2.1.1 v.2.1.2.2.1.2 v.2.1.2.2.1.1 (10 * v.1.1)).2 0) := T2.2 0 (by omega)
            rw [e94]
            exact K
          · rw [if_pos ((iN_eq (b := 0) (by omega) (by decide)).mp hz)] at K
            exact K
        · rw [if_pos (w0.mp z0)] at K
          rw [T2.1]
          exact K
      · obtain ⟨g1, g2, g3⟩ := m_q I0 F2 sws_sw (e2 _)
        have K := h s2 g1 g2 g3
        have := w2.mp z2
        unfold hdF at K
        rw [if_neg (by omega), if_neg (by omega), if_pos hs] at K
        exact K
      · obtain ⟨g1, g2, g3⟩ := m_q I0 F2 sws_sw (e2 _)
        have K := h s2 g1 g2 g3
        have := w2.mp z2
        unfold hdF at K
        rw [if_neg (by omega), if_neg (by omega), if_neg hs] at K
        exact K
  · refine h_thr (PC := fun post pex => P_X11_hidden 0 a st post pex) (PM := P_X12_hidden 58 a) (X := NSE) (k := 1) (by decide) H HM HO (fun pex h => ⟨tb_out, s_needW0 (l := 2) (by decide) ha h⟩) (fun s1 post I0 h => ?_) (fun h => ⟨rfl, h⟩)
    exact ⟨rfl, s_isIn0 (f2 ha) ⟨fun hz => absurd rfl hz, fun _ => ⟨⟨_, rfl⟩, m_fail I0 h⟩⟩⟩
