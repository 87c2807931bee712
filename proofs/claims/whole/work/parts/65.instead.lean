/-! PURE: instead -/
def noT (c : Nat → Int32) (p n : Nat) : Nat → Int32 := lp (fun b c => upd c (56 + 6 * p + b) 0) c n
theorem noT_s (c : Nat → Int32) (p n : Nat) : noT c p (n + 1) = upd (noT c p n) (56 + 6 * p + n) 0 := rfl
theorem noT_v (c : Nat → Int32) (p : Nat) : ∀ n j, noT c p n j = if 56 + 6 * p ≤ j ∧ j < 56 + 6 * p + n then 0 else c j := by
  intro n
  induction n with
  | zero => intro j; rw [if_neg (by omega)]; rfl
  | succ n ih =>
    intro j
    rw [noT_s]
    by_cases e : j = 56 + 6 * p + n
    · subst e; rw [upd_same, if_pos (by omega)]
    · rw [upd_ne e, ih]
      by_cases h : 56 + 6 * p ≤ j ∧ j < 56 + 6 * p + n
      · rw [if_pos h, if_pos (by omega)]
      · rw [if_neg h, if_neg (by omega)]
theorem noT_lo {c : Nat → Int32} {p n j : Nat} (hj : j < 56) : noT c p n j = c j := by rw [noT_v, if_neg (by omega)]
theorem noT_ag {c : Nat → Int32} {p nb : Nat} (hnb : nb ≤ 6) : AgC nb (noT c p nb) (noT c p 6) := by
  intro j hj hn
  rw [noT_v, noT_v]
  by_cases h : 56 + 6 * p ≤ j ∧ j < 56 + 6 * p + nb
  · rw [if_pos h, if_pos (by omega)]
  · rw [if_neg h, if_neg (by omega)]
theorem CI_no {q : PD} (hq : PDok q) {c : Nat → Int32} {p n : Nat} (h : CI q c) : CI q (noT c p n) := by
  have q1 := hq.1
  have q2 := hq.2.1
  obtain ⟨a1, a2, a3⟩ := h
  refine ⟨fun p2 hp2 b hb => ?_, fun p2 hp2 => ?_, fun b hb => ?_⟩
  · rw [noT_v]
    split
    · exact Int32.le_refl _
    · exact a1 p2 hp2 b hb
  · rw [noT_lo (by omega)]; exact a2 p2 hp2
  · rw [noT_lo (by omega), noT_lo (by omega)]; exact a3 b hb
def insF (q : PD) (c : Nat → Int32) (p n : Nat) : Int32 := lp (fun b s => if c (38 + 3 * b + 1) = 1 ∧ ldF q c b ≠ ldF q (noT c p 6) b then s ||| bit b else s) 0 n
theorem ins_s (q : PD) (c : Nat → Int32) (p n : Nat) : insF q c p (n + 1) = if c (38 + 3 * n + 1) = 1 ∧ ldF q c n ≠ ldF q (noT c p 6) n then insF q c p n ||| bit n else insF q c p n := rfl
theorem ex37 {st : St} (ht : ∃ pt, isPl pt ∧ gR st 30 0 = some pt) (j : Nat) (x : Int32) : QFr st (sA st 37 j x) := QFr.ex (Ex.sa (S := fun y => y = 37) rfl j x) (fun y z => by rw [z]; unfold ScC; decide) ht
theorem InvC.tp {st : St} {v : AV} (H : InvC st v) : ∃ pt, isPl pt ∧ gR st 30 0 = some pt := by obtain ⟨_, _, _, _, _, _, ht, _⟩ := H; exact ht
theorem s_ins102 {st : St} {p : Nat} {q : PD} (D : DSt st 3 p q) {c : Nat → Int32} (hc : gA st 4 = c) {x : Nat} (h37 : ∀ b, b < q.2.1 → gA st 37 b = ldF q c b) (h31 : ∀ b, b < q.2.1 → gA st 31 (38 + 3 * b + 2) = ldF q (noT c x 6) b) {a : Int32} {post : Int32 → St → Prop} (h : post (insF q c x q.2.1) st) : ∃ n8, P_X9_otherwiseWithout_102 36 a post n8 0 0 st := by
  have q2 := D.ok.2.1
  refine ⟨q.2.1 + 1, loop_up (P := fun n i s st => P_X9_otherwiseWithout_102 36 a post n s i st) (N := q.2.1) (fun i s st' => st' = st ∧ s = insF q c x i) ?_ ?_ q.2.1 0 0 st (by omega) ⟨rfl, rfl⟩⟩
  · rintro i hi s st' n ⟨rfl, rfl⟩ ih
    have hs := ins_s q c x i
    have skip : ¬ (c (38 + 3 * i + 1) = 1 ∧ ldF q c i ≠ ldF q (noT c x 6) i) → P_X9_otherwiseWithout_102 36 a post n (insF q c x i) (iN i + 1) st' := fun hn => by
      rw [iN_s]
      exact ih _ _ ⟨rfl, by rw [hs, if_neg hn]⟩
    show P_X9_otherwiseWithout_102 36 a post (n + 1) _ (iN i) st'
    unfold P_X9_otherwiseWithout_102
    refine ⟨3, rfl, _, D.pl, pl_1 D.hp, fun hz => ?_, fun _ => ⟨3, rfl, ⟨_, rfl⟩, s_isHome D.hd (by omega) ?_⟩⟩
    · rw [D.nb] at hz; exact absurd hz (nle (by omega) hi)
    rw [ch31, hc]
    refine ⟨fun hz => skip (fun e => ite1 hz e.1), fun hz => ⟨37, rfl, vi6 hi q2 rfl, 30, rfl, ⟨_, rfl⟩, s_whoLedT (by omega) ?_⟩⟩
    rw [iN_cl (by omega), h37 i hi, h31 i hi]
    refine ⟨fun he => skip (fun e => e.2 he), fun he => ?_⟩
    show P_X9_otherwiseWithout_102 36 a post n (insF q c x i ||| bit i) (iN i + 1) st'
    rw [iN_s]
    exact ih _ _ ⟨rfl, by rw [hs, if_pos ⟨ite2 hz, he⟩]⟩
  · rintro s st' n ⟨rfl, rfl⟩
    show P_X9_otherwiseWithout_102 36 a post (n + 1) _ (iN q.2.1) st'
    unfold P_X9_otherwiseWithout_102
    exact ⟨3, rfl, _, D.pl, pl_1 D.hp, fun _ => h, fun hz => absurd (by rw [D.nb]; exact Int32.le_refl _) hz⟩
theorem s_ins64 {st : St} {p : Nat} {q : PD} (D : DSt st 3 p q) (D30 : DSt st 30 p q) (hM : okM q.2.2.2.2) {c : Nat → Int32} (hc : gA st 4 = c) {d : Nat} (hd : d ≤ 2000) (ed : c 0 = iN d) (hA : AgC q.2.1 (gA st 31) c) {x : Nat} (hx : x < 9) (h37 : ∀ b, b < q.2.1 → gA st 37 b = ldF q c b) {post : Int32 → St → Prop} (h : ∀ st1, QFr st st1 → post (insF q c x q.2.1) st1) : ∃ n8, P_X9_otherwiseWithout_64 36 (iN x) post n8 0 st := by
  have q2 := D.ok.2.1
  refine ⟨q.2.1 + 1, loop_up (α := Unit) (P := fun n i _ st => P_X9_otherwiseWithout_64 36 (iN x) post n i st) (N := q.2.1) (fun i _ st' => QFr st st' ∧ DSt st' 30 p q ∧ AgC q.2.1 (gA st' 31) (noT c x i) ∧ gA st' 37 = gA st 37) ?_ ?_ q.2.1 0 () st (by omega) ⟨QFr.rf D30.tp, D30, hA, rfl⟩⟩
  · rintro i hi _ st' n ⟨Q1, D1, A1, e1⟩ ih
    have D2 := D.qfr Q1
    show P_X9_otherwiseWithout_64 36 (iN x) post (n + 1) (iN i) st'
    unfold P_X9_otherwiseWithout_64
    refine ⟨3, rfl, _, D2.pl, pl_1 D.hp, fun hz => ?_, fun _ => ⟨30, rfl, ⟨_, rfl⟩, s_setYears isDa30 hx (by omega) ?_⟩⟩
    · rw [D2.nb] at hz; exact absurd hz (nle (by omega) hi)
    obtain ⟨Q3, D3, A3⟩ := tr_up Q1 D1 A1 (56 + 6 * x + i) 0
    rw [iN_s]
    exact ih () _ ⟨Q3, D3, A3, by rw [gA_sA_ne (by decide)]; exact e1⟩
  · rintro _ st' n ⟨Q1, D1, A1, e1⟩
    have D2 := D.qfr Q1
    show P_X9_otherwiseWithout_64 36 (iN x) post (n + 1) (iN q.2.1) st'
    unfold P_X9_otherwiseWithout_64
    refine ⟨3, rfl, _, D2.pl, pl_1 D.hp, fun _ => ⟨⟨_, rfl⟩, s_foresee D1 hM hd (by rw [Q1.e4, hc]; exact ed) (A1.tr (noT_ag q2)) (by rw [noT_lo (by decide)]; exact ed) (fun st3 E3 Q3 D3 e3 => ?_)⟩, fun hz => absurd (by rw [D2.nb]; exact Int32.le_refl _) hz⟩
    have Q := Q1.tr Q3
    refine s_ins102 (D.qfr Q) (Q.e4.trans hc) (fun b hb => ?_) e3 (h st3 Q)
    rw [E3.eA (by unfold SD ScV; decide), e1]; exact h37 b hb
theorem s_insC {st : St} {v : AV} (H : InvC st v) (HO : AvOk v) {x : Nat} (hx : x < v.1.1) {post : Int32 → St → Prop} (h : ∀ st1, QFr st st1 → post (insF v.1 v.2.1.1 x v.1.2.1) st1) : P_X9_otherwiseWithout 36 (iN x) st post := by
  obtain ⟨p, D⟩ := H.D
  have q1 := HO.1.1
  have q2 := HO.1.2.1
  have hc := H.c
  obtain ⟨dd, hdd, ed⟩ := HO.2.2.1.1.2.2.1
  refine ⟨30, rfl, 3, rfl, ⟨_, rfl⟩, s_copyT D (fun st1 Q1 D1 A1 _ => ⟨⟨_, rfl⟩, s_foresee D1 HO.2.1 (d := dd) (by omega) (by rw [Q1.e4, hc]; exact ed) (by rw [← hc]; exact A1) ed (fun st2 E2 Q2 D2 e2 => ?_)⟩)⟩
  have Q := Q1.tr Q2
  refine ⟨v.1.2.1 + 1, loop_up (α := Unit) (P := fun n i _ st => P_X9_otherwiseWithout_17 36 (iN x) post n i st) (N := v.1.2.1) (fun i _ st' => QFr st st' ∧ gA st' 31 = gA st2 31 ∧ ∀ b, b < i → gA st' 37 b = ldF v.1 v.2.1.1 b) ?_ ?_ v.1.2.1 0 () st2 (by omega) ⟨Q, rfl, fun b hb => absurd hb (Nat.not_lt_zero _)⟩⟩
  · rintro i hi _ st' n ⟨Q3, e3, e4⟩ ih
    have D3 := D.qfr Q3
    show P_X9_otherwiseWithout_17 36 (iN x) post (n + 1) (iN i) st'
    unfold P_X9_otherwiseWithout_17
    refine ⟨3, rfl, _, D3.pl, pl_1 D.hp, fun hz => ?_, fun _ => ⟨37, rfl, 30, rfl, ⟨_, rfl⟩, s_whoLedT (by omega) ⟨vi6 hi q2 rfl, ?_⟩⟩⟩
    · rw [D3.nb] at hz; exact absurd hz (nle (by omega) hi)
    rw [e3, e2 i hi, iN_s, iN_cl (by omega)]
    refine ih () _ ⟨Q3.tr (ex37 Q3.2.2.1 _ _), by rw [gA_sA_ne (by decide)]; exact e3, fun b hb => ?_⟩
    rw [gA_sA]
    by_cases e : b = i
    · subst e; rw [upd_same]
    · rw [upd_ne e]; exact e4 b (by omega)
  · rintro _ st' n ⟨Q3, e3, e4⟩
    have D3 := D.qfr Q3
    show P_X9_otherwiseWithout_17 36 (iN x) post (n + 1) (iN v.1.2.1) st'
    unfold P_X9_otherwiseWithout_17
    refine ⟨3, rfl, _, D3.pl, pl_1 D.hp, fun _ => ⟨30, rfl, 3, rfl, ⟨_, rfl⟩, s_copyT D3 (fun st4 Q4 D4 A4 n4 => ?_)⟩, fun hz => absurd (by rw [D3.nb]; exact Int32.le_refl _) hz⟩
    rw [Q3.e4, hc] at A4
    refine s_ins64 (D3.qfr Q4) D4 HO.2.1 ((Q3.tr Q4).e4.trans hc) (d := dd) (by omega) ed A4 (by omega) (fun b hb => ?_) (fun st5 Q5 => h st5 ((Q3.tr Q4).tr Q5))
    rw [n4 37 (by decide)]; exact e4 b hb
/-! the reference -/
def SWu (x : Nat) : Prop := SWt x ∨ x = 86
theorem swu_sw : ∀ x, SWu x → SW x := by
  rintro x (z | rfl)
  · exact swt_sw x z
  · exact Or.inr (by unfold ScM; decide)
theorem swu_p : nMP SWu := by unfold nMP SWu SWt SMd isM; decide
theorem s_tellLeaders {st : St} {q : PD} (M : MPl st q) (hC : CI q (mC q.2.1 st)) {post : St → Prop} (h : ∀ st2, Fx IMd SWu st st2 → (∀ nb, mC nb st2 = mC nb st) → (∀ b, b < q.2.1 → gA st2 86 b = ldF q (mC q.2.1 st) b) → post st2) : P_X12_tellLeaders 58 st post := by
  have q2 := M.nb
  refine ⟨85, rfl, ⟨_, rfl⟩, s_packT rfl n85 (fun s1 E1 H1 => ⟨⟨_, rfl⟩, s_goT (N := 60) M hC E1 (by decide) (fun s2 F2 m => ?_)⟩)⟩
  refine ⟨7, loop_up (α := Unit) (P := fun n i _ st => P_X12_tellLeaders_17 58 post n i st) (N := 6) (fun i _ st' => Ex (Sa 86) s2 st' ∧ ∀ b, b < i → gA st' 86 b = gA s2 79 b) ?_ ?_ 6 0 () s2 (by omega) ⟨Ex.rf, fun b hb => absurd hb (Nat.not_lt_zero _)⟩⟩
  · rintro i hi _ st' n ⟨E2, e2⟩ ih
    show P_X12_tellLeaders_17 58 post (n + 1) (iN i) st'
    unfold P_X12_tellLeaders_17
    refine ⟨fun hz => absurd hz (nle (a := 6) (by omega) hi), fun _ => ⟨86, rfl, 79, rfl, vi6 hi (Nat.le_refl _) rfl, vi6 hi (Nat.le_refl _) rfl, ?_⟩⟩
    rw [iN_s, iN_cl (by omega)]
    refine ih () _ ⟨E2.tr (Ex.sa (S := Sa 86) rfl _ _), fun b hb => ?_⟩
    rw [gA_sA, E2.eA (show ¬ Sa 86 79 by unfold Sa; decide)]
    by_cases e : b = i
    · subst e; rw [upd_same]
    · rw [upd_ne e]; exact e2 b (by omega)
  · rintro _ st' n ⟨E2, e2⟩
    show P_X12_tellLeaders_17 58 post (n + 1) (iN 6) st'
    unfold P_X12_tellLeaders_17
    refine ⟨fun _ => ⟨85, rfl, ⟨_, rfl⟩, s_unpackT rfl n85 (fun s3 F3 H3 => h s3 ?_ (fun nb => ?_) (fun b hb => ?_))⟩, fun hz => absurd (Int32.le_refl _) hz⟩
    · exact (((E1.fw (fun x z => Or.inl (Or.inr z))).tr (F2.wk (fun _ _ z => z) (fun _ z => Or.inl (Or.inl z)))).tr (E2.fw (fun x z => Or.inr z))).tr (F3.wk (fun _ _ z => z) (fun _ z => Or.inl (Or.inl (Or.inl z))))
    · rw [← H3.row, E2.eA (show ¬ Sa 86 85 by unfold Sa; decide), F2.eA (by unfold SMd isM; decide), H1.row]
    · rw [F3.eA (by unfold isM; decide), e2 b (by omega)]
      unfold ldF
      rw [← m]; exact (rC_le hb (by omega)).symm
set_option maxHeartbeats 1000000 in
theorem s_insM {st : St} {q : PD} (M : MPl st q) {C : Nat → Int32} (hm : mC q.2.1 st = C) (hC : CI q C) {x : Nat} (hx : x < q.1) (h86 : ∀ b, b < q.2.1 → gA st 86 b = ldF q C b) {post : Int32 → St → Prop} (h : ∀ st2, Fx IMd SWu st st2 → (∀ nb, mC nb st2 = mC nb st) → post (insF q C x q.2.1) st2) : P_X12_pack 58 85 0 st (fun st_7 => oC 58 12 ∧ P_X12_atHome 58 st_7 (fun z_8 st_9 => ∃ n8, P_X12_instead_39 58 (iN x) post n8 z_8 0 st_9)) := by
  have q1 := M.np
  have q2 := M.nb
  refine s_packT rfl n85 (fun s1 E1 H1 => ⟨⟨_, rfl⟩, s_atHome (nb := q.2.1) (M_pk (by decide) E1 M) ?_⟩)
  have M1 := M_pk (by decide) E1 M
  have e1 : mC q.2.1 s1 = C := (mC_pk n85 E1 _).trans hm
  rw [e1]
  obtain ⟨hk, hk1, hk2, hk3⟩ := homeB_set (nb := q.2.1) (by omega) C
  have hk9 := pow9 (n := q.2.1) (by omega) hk1
  rw [hk2]
  refine ⟨7, loop_up (α := Unit) (P := fun n i _ st => P_X12_instead_39 58 (iN x) post n (iN hk) i st) (N := 6) (fun i _ st' => Fx IMd isM s1 st' ∧ mC q.2.1 st' = noT C x i) ?_ ?_ 6 0 () s1 (by omega) ⟨Fx.rf, e1⟩⟩
  · rintro i hi _ st' n ⟨F2, e2⟩ ih
    show P_X12_instead_39 58 (iN x) post (n + 1) (iN hk) (iN i) st'
    unfold P_X12_instead_39
    rw [x_m, iN_cl (by omega)]
    refine ⟨fun hz => absurd hz (nle (a := 6) (by omega) hi), fun _ => ⟨80, rfl, by rw [al80]; exact iN_vp (by omega) (by decide), ?_⟩⟩
    rw [iN_s]
    refine ih () _ ⟨F2.tr (Fx.sa ⟨by decide, by decide⟩ _ _), ?_⟩
    rw [mC_sti (by omega), e2, noT_s, show 56 + (6 * x + i) = 56 + 6 * x + i by omega]
  · rintro _ st' n ⟨F2, e2⟩
    show P_X12_instead_39 58 (iN x) post (n + 1) (iN hk) (iN 6) st'
    unfold P_X12_instead_39
    refine ⟨fun _ => ⟨⟨_, rfl⟩, s_goOn (N := 60) (M1.fx F2 (by unfold nMP isM; decide)) (by rw [e2]; exact CI_no M.ok hC) (by decide) (fun s3 F3 m1 m2 => ?_)⟩, fun hz => absurd (Int32.le_refl _) hz⟩
    rw [e2, itC_eq] at m1
    have M3 := (M1.fx F2 (by unfold nMP isM; decide)).fx F3 smd_p
    have g79 : ∀ b, b < q.2.1 → gA s3 79 b = ldF q (noT C x 6) b := fun b hb => by
      unfold ldF
      rw [← m1]; exact (rC_le hb (by omega)).symm
    have g86 : ∀ b, b < q.2.1 → gA s3 86 b = ldF q C b := fun b hb => by
      rw [F3.eA (by unfold SMd isM; decide), F2.eA (by unfold isM; decide), E1.eA (show ¬ Sa 85 86 by unfold Sa; decide)]; exact h86 b hb
    refine ⟨q.2.1 + 1, loop_up (P := fun n i s st => P_X12_instead_74 58 (iN x) post n (iN hk) s i st) (N := q.2.1) (fun i s st'' => st'' = s3 ∧ s = insF q C x i) ?_ ?_ q.2.1 0 0 s3 (by omega) ⟨rfl, rfl⟩⟩
    · rintro i hi s st'' n ⟨rfl, rfl⟩ ih
      have hs := ins_s q C x i
      have skip : ¬ (C (38 + 3 * i + 1) = 1 ∧ ldF q C i ≠ ldF q (noT C x 6) i) → P_X12_instead_74 58 (iN x) post n (iN hk) (insF q C x i ||| 0) (iN i + 1) st'' := fun hn => by
        rw [iN_s, Int32.or_zero]
        exact ih _ _ ⟨rfl, by rw [hs, if_neg hn]⟩
      show P_X12_instead_74 58 (iN x) post (n + 1) (iN hk) _ (iN i) st''
      unfold P_X12_instead_74
      refine ⟨62, rfl, v1_10, fun hz => ?_, fun _ => s_isOf hk9 (by omega) ⟨fun hz => skip (fun e => ?_), fun hz => ⟨79, rfl, vi6 hi q2 rfl, 86, rfl, vi6 hi q2 rfl, ?_⟩⟩⟩
      · rw [M3.e1] at hz; exact absurd hz (nle (by omega) hi)
      · exact ite1 hz ((hk3 i (by omega)).mpr ⟨hi, e.1⟩)
      rw [iN_cl (by omega), g79 i hi, g86 i hi]
      refine ⟨fun he => skip (fun e => e.2 he.symm), fun he => ?_⟩
      show P_X12_instead_74 58 (iN x) post n (iN hk) (insF q C x i ||| bit i) (iN i + 1) st''
      rw [iN_s]
      exact ih _ _ ⟨rfl, by rw [hs, if_pos ⟨((hk3 i (by omega)).mp (ite2 hz)).2, fun z => he z.symm⟩]⟩
    · rintro s st'' n ⟨rfl, rfl⟩
      show P_X12_instead_74 58 (iN x) post (n + 1) (iN hk) _ (iN q.2.1) st''
      unfold P_X12_instead_74
      refine ⟨62, rfl, v1_10, fun _ => ⟨85, rfl, ⟨_, rfl⟩, s_unpackT rfl n85 (fun s4 F4 H4 => h s4 ?_ (fun nb => ?_))⟩, fun hz => absurd (by rw [M3.e1]; exact Int32.le_refl _) hz⟩
      · exact (((E1.fw (fun x z => Or.inl (Or.inr z))).tr (F2.wk (fun _ _ z => z) (fun _ z => Or.inl (Or.inl (Or.inl z))))).tr (F3.wk (fun _ _ z => z) (fun _ z => Or.inl (Or.inl z)))).tr (F4.wk (fun _ _ z => z) (fun _ z => Or.inl (Or.inl (Or.inl z))))
      · rw [← H4.row, F3.eA (by unfold SMd isM; decide), F2.eA (by unfold isM; decide), H1.row]
theorem c_instead {a : Int32} {st : St} (hI : Inv st) : P_L_instead a st (fun k st1 => Bth (P_X12_instead 58 a) k st1) := by
  obtain ⟨v, H, HM, HO⟩ := hI
  obtain ⟨p, D⟩ := H.D
  by_cases ha : isI v.1.1 a
  · obtain ⟨x, hx, rfl⟩ := ha
    refine h_ok (PC := fun post pex => P_X11_instead 0 (iN x) st post pex) (PM := P_X12_instead 58 (iN x)) (v2 := v) (r := insF v.1 v.2.1.1 x v.1.2.1) HM HO (fun post h => ?_) (fun s1 post I0 h => ?_)
    · exact ⟨tb_out, s_needP D hx ⟨36, rfl, ⟨_, rfl⟩, s_insC H HO hx (fun st1 Q1 => h st1 Q1.cfr (H.qfr Q1))⟩⟩
    · have I1 := (m_beg I0).1
      have eC := I1.c
      refine ⟨rfl, ⟨_, rfl⟩, s_isP I1.1 hx ⟨fun _ => ⟨⟨_, rfl⟩, s_tellLeaders I1.1 (by rw [eC]; exact HO.2.2.1.1.1) (fun s2 F2 e2 h86 => ⟨85, rfl, ⟨_, rfl⟩, ?_⟩)⟩, fun hz => absurd hz (by decide)⟩⟩
      rw [eC] at h86
      refine s_insM (I1.1.fx F2 swu_p) ((e2 _).trans eC) HO.2.2.1.1.1 hx h86 (fun s3 F3 e3 => ?_)
      obtain ⟨g1, g2, g3⟩ := m_q I0 (F2.tr F3) swu_sw ((e3 _).trans (e2 _))
      exact h s3 g1 g2 g3
  · refine h_thr (PC := fun post pex => P_X11_instead 0 a st post pex) (PM := P_X12_instead 58 a) (X := NSE) (k := 1) (by decide) H HM HO (fun pex h => ⟨tb_out, s_needP0 D ha h⟩) (fun s1 post I0 h => ?_) (fun h => ⟨rfl, h⟩)
    exact ⟨rfl, ⟨_, rfl⟩, s_isP0 (m_beg I0).1.1 ha ⟨fun hz => absurd rfl hz, fun _ => ⟨⟨_, rfl⟩, m_fail I0 h⟩⟩⟩
