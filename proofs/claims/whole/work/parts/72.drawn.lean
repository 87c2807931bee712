/-! PURE: drawn; and shifts alike -/
theorem bv_sh (x : BitVec 32) (s m : Nat) (hm : m < 2 ^ (32 - s)) : (x >>> s) &&& BitVec.ofNat 32 m = (x.sshiftRight s) &&& BitVec.ofNat 32 m := by
  apply BitVec.eq_of_getLsbD_eq
  intro i hi
  rw [BitVec.getLsbD_and, BitVec.getLsbD_and, BitVec.getLsbD_ushiftRight, BitVec.getLsbD_sshiftRight]
  by_cases h : s + i < 32
  · rw [if_pos h, decide_eq_false (by omega), Bool.not_false, Bool.true_and]
  · have hz : (BitVec.ofNat 32 m).getLsbD i = false := by
      rw [BitVec.getLsbD_ofNat, Nat.testBit_lt_two_pow (Nat.lt_of_lt_of_le hm (Nat.pow_le_pow_right (by decide) (by omega))), Bool.and_false]
    rw [hz, Bool.and_false, Bool.and_false]
theorem sh16 (x : Int32) : ((x : Int32).toUInt32 >>> ((16 : Int32).toUInt32 &&& Int32.toUInt32 31)).toInt32 &&& 32767 = (x >>> ((16 : Int32) &&& 31)) &&& 32767 := by
  apply Int32.toBitVec_inj.mp
  show (x.toBitVec >>> ((16#32 &&& 31#32) % 32#32)) &&& BitVec.ofNat 32 32767 = (x.toBitVec.sshiftRight' ((16#32 &&& 31#32).smod 32#32)) &&& BitVec.ofNat 32 32767
  rw [BitVec.ushiftRight_eq', BitVec.sshiftRight_eq', show ((16#32 &&& 31#32) % 32#32).toNat = 16 by decide, show ((16#32 &&& 31#32).smod 32#32).toNat = 16 by decide]
  exact bv_sh _ 16 32767 (by decide)
theorem i_iN (x : Int32) : x = iN x.toBitVec.toNat := by
  apply Int32.toBitVec_inj.mp
  show x.toBitVec = BitVec.ofNat 32 x.toBitVec.toNat
  simp
theorem and_rng (x : Int32) (m : Nat) : ∃ k, k ≤ m ∧ x &&& iN m = iN k := by
  refine ⟨x.toBitVec.toNat &&& m, Nat.and_le_right, ?_⟩
  rw [← iN_and, ← i_iN]
theorem iN_div {a b : Nat} (ha : a < 2147483648) (hb : b < 2147483648) : iN a / iN b = iN (a / b) := (Int32.ofNat_div ha hb).symm
theorem iN_mod {a b : Nat} (ha : a < 2147483648) (hb : b < 2147483648) : iN a - iN a / iN b * iN b = iN (a % b) := by
  rw [iN_div ha hb, ← iN_mul]
  have e : iN a = iN (a % b) + iN (a / b * b) := by
    rw [← iN_add]; congr 1
    have := Nat.div_add_mod a b
    rw [Nat.mul_comm] at this
    omega
  rw [e]
  exact Int32.add_sub_cancel _ _
/-! the chances -/
def nxS (s : Int32) : Int32 := (s * 1103515245) + 12345
def rnd (s : Int32) : Nat := ((s >>> ((16 : Int32) &&& 31)) &&& 32767).toNatClampNeg
theorem rnd_eq (s : Int32) : (s >>> ((16 : Int32) &&& 31)) &&& 32767 = iN (rnd s) ∧ rnd s ≤ 32767 := by
  obtain ⟨k, h1, h2⟩ := and_rng (s >>> ((16 : Int32) &&& 31)) 32767
  have h2 : (s >>> ((16 : Int32) &&& 31)) &&& 32767 = iN k := h2
  unfold rnd
  rw [h2, iN_cl (by omega)]
  exact ⟨rfl, h1⟩
section Drw
variable (nx : Int32 → Int32) (rd : Int32 → Nat)
def tcF (q : PD) (s : Int32 × (Nat → Int32)) : Int32 × (Nat → Int32) :=
  if rd (nx s.1) % 6 = 0 ∧ 0 < q.1 then (nx (nx s.1), upd s.2 (2 + 4 * (rd (nx (nx s.1)) % q.1)) (min99 (s.2 (2 + 4 * (rd (nx (nx s.1)) % q.1)) + 15)))
  else if rd (nx s.1) % 6 = 1 ∧ 0 < q.2.1 then (nx (nx s.1), if s.2 (38 + 3 * (rd (nx (nx s.1)) % q.2.1) + 1) = 1 ∧ ¬ s.2 (38 + 3 * (rd (nx (nx s.1)) % q.2.1)) < s.2 0 then upd s.2 (38 + 3 * (rd (nx (nx s.1)) % q.2.1)) (s.2 (38 + 3 * (rd (nx (nx s.1)) % q.2.1)) + 2) else s.2)
  else (nx s.1, s.2)
def dwF (q : PD) (sd : Int32) (c : Nat → Int32) (n : Nat) : Int32 × (Nat → Int32) := lp (fun _ s => ((tcF nx rd q s).1, itC q (tcF nx rd q s).2 1)) (sd, c) n
theorem dw_1 (q : PD) (sd : Int32) (c : Nat → Int32) (n : Nat) : (dwF nx rd q sd c (n + 1)).1 = (tcF nx rd q (dwF nx rd q sd c n)).1 := by unfold dwF; rw [lp_s]
theorem dw_2 (q : PD) (sd : Int32) (c : Nat → Int32) (n : Nat) : (dwF nx rd q sd c (n + 1)).2 = itC q (tcF nx rd q (dwF nx rd q sd c n)).2 1 := by unfold dwF; rw [lp_s]
theorem dw_0 (q : PD) (sd : Int32) (c : Nat → Int32) : dwF nx rd q sd c 0 = (sd, c) := by unfold dwF; rw [lp_0]
theorem CI_tc {q : PD} (hq : PDok q) {s : Int32 × (Nat → Int32)} (h : CI q s.2) : CI q (tcF nx rd q s).2 := by
  have q1 := hq.1
  have q2 := hq.2.1
  unfold tcF
  split
  · rename_i e
    have := Nat.mod_lt (rd (nx (nx s.1))) e.2
    exact CI_irr hq ⟨by omega, by omega⟩ h
  · split
    · rename_i _ e
      have := Nat.mod_lt (rd (nx (nx s.1))) e.2
      generalize rd (nx (nx s.1)) % q.2.1 = b at *
      show CI q (if _ then _ else _)
      split
      · obtain ⟨a1, a2, a3⟩ := h
        refine ⟨fun p hp b2 hb2 => ?_, fun p hp => ?_, fun b2 hb2 => ?_⟩
        · rw [upd_ne (by omega)]; exact a1 p hp b2 hb2
        · rw [upd_ne (by omega)]; exact a2 p hp
        · rw [upd_ne (by omega), upd_ne (by omega)]; exact a3 b2 hb2
      · exact h
    · exact h
theorem CI_itC {q : PD} (hq : PDok q) {c : Nat → Int32} (h : CI q c) (n : Nat) : CI q (itC q c n) := by
  unfold itC
  exact CI_it hq (s := (c, fun _ => 0)) h n
theorem CI_dw {q : PD} (hq : PDok q) {sd : Int32} {c : Nat → Int32} (h : CI q c) : ∀ n, CI q (dwF nx rd q sd c n).2 := by
  intro n
  induction n with
  | zero => rw [dw_0]; exact h
  | succ n ih => rw [dw_2]; exact CI_itC hq (CI_tc nx rd hq ih) 1
theorem pass_agC {q : PD} (hq : PDok q) {c c2 w : Nat → Int32} (h : AgC q.2.1 c c2) : AgC q.2.1 (passF q (c, w)).1 (itC q c2 1) := by
  have e := it_ag hq (w := w) h 1
  rw [it_s] at e
  exact e
theorem QFr.si36 {st : St} (ht : ∃ pt, isPl pt ∧ gR st 30 0 = some pt) (x : Int32) : QFr st (sI st 36 5 x) := ⟨fun o k _ _ h => gI_sI_ne (fun z => h z.1), fun _ _ _ _ _ => rfl, ht, fun _ _ => rfl⟩
/-- how a number is drawn -/
def DrC : Prop := ∀ (st : St) (n : Nat) (post : Int32 → St → Prop), 0 < n → n < 1000 → post (iN (rd (nx (gI st 36 5)) % n)) (sI st 36 5 (nx (gI st 36 5))) → P_X9_draw 36 (iN n) st post
def DrM : Prop := ∀ (st : St) (n : Nat) (post : Int32 → St → Prop), 0 < n → n < 1000 → post (iN (rd (nx (gI st 58 57)) % n)) (sI st 58 57 (nx (gI st 58 57))) → P_X12_drawOf 58 (iN n) st post
end Drw
theorem dr_all : ∃ nx rd, DrC nx rd ∧ DrM nx rd := by
  refine ⟨nxS, rnd, fun st n post hn hn2 h => ?_, fun st n post hn hn2 h => ?_⟩
  · refine ⟨rfl, rfl, fun _ => ⟨rfl, fun hz => ?_, ?_⟩, fun hz => absurd ?_ hz⟩
    · have := (iN_eq (b := 0) (by omega) (by decide)).mp hz
      omega
    · show post _ _
      rw [gI_sI, sh16]
      have e := rnd_eq (nxS (gI st 36 5))
      unfold nxS at e h
      rw [e.1, iN_mod (by omega) (by omega)]
      exact h
    · show iN 0 < iN n
      rw [iN_lt (by omega) (by omega)]; exact hn
  · refine ⟨rfl, rfl, rfl, fun hz => ?_, ?_⟩
    · have := (iN_eq (b := 0) (by omega) (by decide)).mp hz
      omega
    · rw [gI_sI]
      have e := rnd_eq (nxS (gI st 58 57))
      unfold nxS at e h
      rw [e.1, iN_mod (by omega) (by omega)]
      exact h
theorem s_copyI {st : St} {p : Nat} {q : PD} (D : DSt st 3 p q) {post : St → Prop} (h : ∀ st1, QFr st st1 → DSt st1 30 p q → AgC q.2.1 (gA st1 31) (gA st 4) → (∀ o k, gI st1 o k = gI st o k) → post st1) : P_X2_copyFrom 30 3 st post := by
  have P := s_copyT (post := fun st1 => QFr st st1 ∧ DSt st1 30 p q ∧ AgC q.2.1 (gA st1 31) (gA st 4)) D (fun st1 a b c _ => ⟨a, b, c⟩)
  obtain ⟨r1, e1, e2, r2, e3, r3, e4, e5, e6, e7, e8, e9, e10, e11, P1, P2, P3⟩ := P
  exact ⟨r1, e1, e2, r2, e3, r3, e4, e5, e6, e7, e8, e9, e10, e11, h _ P1 P2 P3 (fun _ _ => rfl)⟩
theorem tr_up2 {st st1 : St} {p : Nat} {q : PD} (Q : QFr st st1) (D : DSt st1 30 p q) {c : Nat → Int32} (A : AgC q.2.1 (gA st1 31) c) (j : Nat) (x : Int32) : QFr st (sA st1 (ch 30 1) j x) ∧ DSt (sA st1 (ch 30 1) j x) 30 p q ∧ AgC q.2.1 (gA (sA st1 (ch 30 1) j x) 31) (upd c j x) := tr_up Q D A j x
theorem DSt.si36 {st : St} {d p : Nat} {q : PD} (D : DSt st d p q) (x : Int32) : DSt (sI st 36 5 x) d p q := by
  obtain ⟨h1, h2, h3, h4, h5, h6, h7, h8, h9⟩ := D
  obtain ⟨⟨a1, a2, a3⟩, ⟨b1, b2, b3⟩, ⟨c1, c2, c3⟩, l2, l5, l6⟩ := pl_sc h2
  have n1 : ∀ o k, o ≠ 36 → gI (sI st 36 5 x) o k = gI st o k := fun o k h => gI_sI_ne (fun z => h z.1)
  have e : pdOf (sI st 36 5 x) p = pdOf st p := by
    unfold pdOf rlOf
    rw [n1 _ _ a3, n1 _ _ a3, n1 _ _ b3, n1 _ _ b3, n1 _ _ c3, n1 _ _ c3]; rfl
  exact ⟨h1, h2, h3, e.trans h4, by rw [n1 _ _ a3]; exact h5, by rw [n1 _ _ a3]; exact h6, by rw [n1 _ _ b3]; exact h7, by rw [n1 _ _ c3]; exact h8, h9⟩
set_option maxHeartbeats 1000000 in
theorem s_takeChance {nx : Int32 → Int32} {rd : Int32 → Nat} (DR : DrC nx rd) {st0 st : St} {p : Nat} {q : PD} (Q : QFr st0 st) (D3 : DSt st 3 p q) (D : DSt st 30 p q) {s : Int32 × (Nat → Int32)} (A : AgC q.2.1 (gA st 31) s.2) (hs : gI st 36 5 = s.1) {post : St → Prop} (h : ∀ st1, QFr st0 st1 → DSt st1 3 p q → DSt st1 30 p q → AgC q.2.1 (gA st1 31) (tcF nx rd q s).2 → gI st1 36 5 = (tcF nx rd q s).1 → post st1) : P_X9_takeChance 36 st post := by
  have q1 := D.ok.1
  have q2 := D.ok.2.1
  unfold tcF at h
  refine ⟨⟨_, rfl⟩, DR _ 6 _ (by decide) (by decide) ?_⟩
  rw [hs]
  have hm := Nat.mod_lt (rd (nx s.1)) (show 0 < 6 by decide)
  have Q1 : QFr st0 (sI st 36 5 (nx s.1)) := Q.tr (QFr.si36 D.tp _)
  have D1 := D3.si36 (nx s.1)
  have T1 := D.si36 (nx s.1)
  have A1 : AgC q.2.1 (gA (sI st 36 5 (nx s.1)) 31) s.2 := A
  have g1 : gI (sI st 36 5 (nx s.1)) 36 5 = nx s.1 := gI_sI _ _ _ _
  generalize sI st 36 5 (nx s.1) = st1 at *
  -- neither, or she is put off
  have R : ¬ (rd (nx s.1) % 6 = 0 ∧ 0 < q.1) → P_X9_takeChance_66 36 post (iN (rd (nx s.1) % 6)) st1 := by
    intro hn0
    rw [if_neg hn0] at h
    have E : ¬ (rd (nx s.1) % 6 = 1 ∧ 0 < q.2.1) → post st1 := fun hn1 => by
      rw [if_neg hn1] at h
      exact h st1 Q1 D1 T1 A1 g1
    refine ⟨fun hz => E (fun e => hz (by rw [e.1]; rfl)), fun hz => ⟨3, rfl, _, D1.pl, pl_1 D1.hp, fun hb => E (fun e => ?_), fun hb => ?_⟩⟩
    · rw [D1.nb] at hb
      have hb : iN q.2.1 ≤ iN 0 := hb
      rw [iN_le (by omega) (by omega)] at hb; omega
    · rw [D1.nb] at hb
      have hb : ¬ iN q.2.1 ≤ iN 0 := hb
      rw [iN_le (by omega) (by omega)] at hb
      have e1 : rd (nx s.1) % 6 = 1 := (iN_eq (b := 1) (by omega) (by decide)).mp hz
      rw [if_pos ⟨e1, by omega⟩] at h
      refine ⟨3, rfl, _, D1.pl, pl_1 D1.hp, ⟨_, rfl⟩, ?_⟩
      rw [D1.nb]
      refine DR _ _ _ (by omega) (by omega) ?_
      rw [g1]
      have hbl := Nat.mod_lt (rd (nx (nx s.1))) (show 0 < q.2.1 by omega)
      generalize rd (nx (nx s.1)) % q.2.1 = b at *
      have Q2 : QFr st0 (sI st1 36 5 (nx (nx s.1))) := Q1.tr (QFr.si36 T1.tp _)
      have D2 := D1.si36 (nx (nx s.1))
      have T2 := T1.si36 (nx (nx s.1))
      have A2 : AgC q.2.1 (gA (sI st1 36 5 (nx (nx s.1))) 31) s.2 := A1
      have g2 : gI (sI st1 36 5 (nx (nx s.1))) 36 5 = nx (nx s.1) := gI_sI _ _ _ _
      generalize sI st1 36 5 (nx (nx s.1)) = st2 at *
      have E2 : ¬ (s.2 (38 + 3 * b + 1) = 1 ∧ ¬ s.2 (38 + 3 * b) < s.2 0) → post st2 := fun hn => by
        rw [if_neg hn] at h
        exact h st2 Q2 D2 T2 A2 g2
      refine ⟨30, rfl, ⟨_, rfl⟩, s_isHome isDa30 (by omega) ?_⟩
      rw [ch301, A2.lo (by omega)]
      refine ⟨fun hz => E2 (fun e => ite1 hz e.1), fun hz => ⟨30, rfl, ⟨_, rfl⟩, s_weddingOf isDa30 (by omega) ⟨30, rfl, ⟨_, rfl⟩, s_today isDa30 ?_⟩⟩⟩
      rw [ch301, A2.lo (by omega), A2.lo (by decide)]
      refine ⟨fun h1 => E2 (fun e => e.2 h1), fun h1 => ⟨30, rfl, 30, rfl, ⟨_, rfl⟩, s_weddingOf isDa30 (by omega) ⟨⟨_, rfl⟩, s_setWedding isDa30 (by omega) ?_⟩⟩⟩
      rw [if_pos ⟨ite2 hz, h1⟩] at h
      rw [ch301, A2.lo (by omega)]
      obtain ⟨Q3, D3', A3⟩ := tr_up Q2 T2 A2 (38 + 3 * b) (s.2 (38 + 3 * b) + 2)
      exact h _ Q3 (D2.ex (npl_sd isDa30) (Ex.sa (S := SD 30) (Or.inl rfl) _ _)) D3' A3 g2
  refine ⟨fun hz => R (fun e => hz (by rw [e.1]; rfl)), fun hz => ⟨3, rfl, _, D1.pl, pl_0 D1.hp, fun hp => R (fun e => ?_), fun hp => ?_⟩⟩
  · rw [D1.np] at hp
    have hp : iN q.1 ≤ iN 0 := hp
    rw [iN_le (by omega) (by omega)] at hp; omega
  · rw [D1.np] at hp
    have hp : ¬ iN q.1 ≤ iN 0 := hp
    rw [iN_le (by omega) (by omega)] at hp
    have e0 : rd (nx s.1) % 6 = 0 := (iN_eq (b := 0) (by omega) (by decide)).mp hz
    rw [if_pos ⟨e0, by omega⟩] at h
    refine ⟨3, rfl, _, D1.pl, pl_0 D1.hp, ⟨_, rfl⟩, ?_⟩
    rw [D1.np]
    refine DR _ _ _ (by omega) (by omega) ?_
    rw [g1]
    have hbl := Nat.mod_lt (rd (nx (nx s.1))) (show 0 < q.1 by omega)
    generalize rd (nx (nx s.1)) % q.1 = b at *
    have Q2 : QFr st0 (sI st1 36 5 (nx (nx s.1))) := Q1.tr (QFr.si36 T1.tp _)
    have D2 := D1.si36 (nx (nx s.1))
    have T2 := T1.si36 (nx (nx s.1))
    have A2 : AgC q.2.1 (gA (sI st1 36 5 (nx (nx s.1))) 31) s.2 := A1
    have g2 : gI (sI st1 36 5 (nx (nx s.1))) 36 5 = nx (nx s.1) := gI_sI _ _ _ _
    generalize sI st1 36 5 (nx (nx s.1)) = st2 at *
    refine ⟨30, rfl, 30, rfl, ⟨_, rfl⟩, s_griefOf isDa30 (by omega) ⟨⟨_, rfl⟩, s_setGrief isDa30 (by omega) ?_⟩⟩
    rw [ch301, A2.lo (by omega)]
    obtain ⟨Q3, D3', A3⟩ := tr_up Q2 T2 A2 (2 + 4 * b) (min99 (s.2 (2 + 4 * b) + 15))
    exact h _ Q3 (D2.ex (npl_sd isDa30) (Ex.sa (S := SD 30) (Or.inl rfl) _ _)) D3' A3 g2
theorem s_drawYears {nx : Int32 → Int32} {rd : Int32 → Nat} (DR : DrC nx rd) {st : St} {p : Nat} {q : PD} (D : DSt st 3 p q) (ht : ∃ pt, isPl pt ∧ gR st 30 0 = some pt) (hM : okM q.2.2.2.2) {N : Nat} (hN : N < 1000) {c : Nat → Int32} (hc : gA st 4 = c) {sd : Int32} {post : St → Prop} (h : ∀ st1, QFr st st1 → DSt st1 30 p q → AgC q.2.1 (gA st1 31) (dwF nx rd q sd c N).2 → post st1) : P_X9_drawYears 36 sd (iN N) st post := by
  have Q0 := QFr.si36 ht sd
  refine ⟨rfl, 30, rfl, 3, rfl, ⟨_, rfl⟩, s_copyI (D.si36 sd) (fun st1 Q1 D1 A1 nI => ?_)⟩
  have A1 : AgC q.2.1 (gA st1 31) c := by rw [← hc]; exact A1
  have g1 : gI st1 36 5 = sd := (nI 36 5).trans (gI_sI _ _ _ _)
  refine ⟨N + 1, loop_up (α := Unit) (P := fun n i _ st => P_X9_drawYears_18 36 sd (iN N) post n i st) (N := N) (fun i _ st' => QFr st st' ∧ DSt st' 30 p q ∧ AgC q.2.1 (gA st' 31) (dwF nx rd q sd c i).2 ∧ gI st' 36 5 = (dwF nx rd q sd c i).1) ?_ ?_ N 0 () st1 (by omega) ⟨Q0.tr Q1, D1, by rw [dw_0]; exact A1, by rw [dw_0]; exact g1⟩⟩
  · rintro i hi _ st' n ⟨Q2, D2, A2, g2⟩ ih
    show P_X9_drawYears_18 36 sd (iN N) post (n + 1) (iN i) st'
    unfold P_X9_drawYears_18
    refine ⟨fun hz => absurd hz (nle (by omega) hi), fun _ => ⟨⟨_, rfl⟩, s_takeChance DR Q2 (D.qfr Q2) D2 A2 g2 (fun st3 Q3 T3 D3 A3 g3 => ⟨30, rfl, ⟨_, rfl⟩, s_passDay D3 hM (fun st4 E4 h1 h2 => ?_)⟩)⟩⟩
    have h1 : gA st4 31 = (passF q (gA st3 31, gA st3 33)).1 := h1
    rw [iN_s]
    refine ih () st4 ⟨Q3.tr (QFr.ex E4 sd30_sc D3.tp), D3.ex (npl_sd isDa30) E4, ?_, ?_⟩
    · rw [h1, dw_2]
      exact pass_agC D.ok A3
    · rw [E4.eI, g3, dw_1]
  · rintro _ st' n ⟨Q2, D2, A2, g2⟩
    show P_X9_drawYears_18 36 sd (iN N) post (n + 1) (iN N) st'
    unfold P_X9_drawYears_18
    exact ⟨fun _ => h st' Q2 D2 A2, fun hz => absurd (Int32.le_refl _) hz⟩
