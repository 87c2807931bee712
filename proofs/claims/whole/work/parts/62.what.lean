/-! PURE: the reference tries and takes back; leader, then, led, dog, busiest -/
def IW (o k : Nat) : Prop := IMd o k ∨ IcM o k
def SW (x : Nat) : Prop := isM x ∨ ScM x
theorem QMr.fw {nb : Nat} {a b : St} (h : Fx IW SW a b) (e : mC nb b = mC nb a) : QMr nb a b := ⟨fun o k q1 q2 => h.eI (fun z => z.elim q2 q1), fun o k _ => h.eR o k, fun x q1 q2 => h.eA (fun z => z.elim q2 q1), fun x => h.eL x, e⟩
theorem m_end {s s2 : St} {v : AV} (I : InvM s v) (F : Fx IW SW s s2) (e : mC v.1.2.1 s2 = mC v.1.2.1 s) : MFr s s2 ∧ InvM s2 v := ⟨(QMr.fw F e).mfr, I.qmr (QMr.fw F e)⟩
def SWt (x : Nat) : Prop := SMd x ∨ x = 85
theorem swt_sw : ∀ x, SWt x → SW x := by
  rintro x (z | rfl)
  · exact smd_ms2 x z
  · exact Or.inr (by unfold ScM; decide)
theorem swt_p : nMP SWt := by unfold nMP SWt SMd isM; decide
theorem imd_iw : ∀ o k, IMd o k → IW o k := fun _ _ z => Or.inl z
theorem s_packT {st : St} {a : Nat} (ha : al 0 a = 110) (hM : ¬ isM a) {post : St → Prop} (h : ∀ st2, Ex (Sa a) st st2 → Holds (gA st2 a) st → post st2) : P_X12_pack 58 a 0 st post := by
  refine s_pack (f := 0) ha (by decide) (by decide) hM (fun st2 hE hH _ => h st2 hE ?_)
  have e : (fun i => gA st2 a (0 + i)) = gA st2 a := funext (fun i => by rw [Nat.zero_add])
  rw [e] at hH
  exact hH
theorem s_unpackT {st : St} {a : Nat} (ha : al 0 a = 110) (hM : ¬ isM a) {post : St → Prop} (h : ∀ st2, Fx IMd isM st st2 → Holds (gA st a) st2 → post st2) : P_X12_unpack 58 a 0 st post := by
  refine s_unpack (f := 0) ha (by decide) (by decide) hM (fun st2 hF hH => h st2 hF ?_)
  have e : (fun i => gA st a (0 + i)) = gA st a := funext (fun i => by rw [Nat.zero_add])
  rw [e] at hH
  exact hH
theorem n85 : ¬ isM 85 := by unfold isM; decide
theorem mC_pk {s s1 : St} {a : Nat} (hM : ¬ isM a) (E : Ex (Sa a) s s1) (nb : Nat) : mC nb s1 = mC nb s := mC_ex E (fun x z => by rw [z]; exact hM) _
theorem M_pk {s s1 : St} {a : Nat} (hM : a ≠ 62 ∧ a ≠ 63 ∧ a ≠ 69 ∧ a ≠ 70) (E : Ex (Sa a) s s1) {q : PD} (M : MPl s q) : MPl s1 q := M.ex E ⟨fun z => hM.1 z.symm, fun z => hM.2.1 z.symm, fun z => hM.2.2.1 z.symm, fun z => hM.2.2.2 z.symm⟩
/-- the reference takes back what it tried -/
theorem s_unT {st s1 s2 : St} (E1 : Ex (Sa 85) st s1) (H1 : Holds (gA s1 85) st) (F2 : Fx IMd SMd s1 s2) {post : St → Prop} (h : ∀ s3, Fx IMd SWt st s3 → (∀ nb, mC nb s3 = mC nb st) → post s3) : P_X12_unpack 58 85 0 s2 post := by
  refine s_unpackT rfl n85 (fun s3 F3 H3 => h s3 ?_ (fun nb => ?_))
  · exact ((E1.fw (fun x z => Or.inr z)).tr (F2.wk (fun _ _ z => z) (fun _ z => Or.inl z))).tr (F3.wk (fun _ _ z => z) (fun _ z => Or.inl (Or.inl z)))
  · rw [← H3.row, F2.eA (by unfold SMd isM; decide), H1.row]
theorem s_goT {st s1 : St} {q : PD} (M : MPl st q) (hC : CI q (mC q.2.1 st)) (E1 : Ex (Sa 85) st s1) {N : Nat} (hN : N < 1000) {post : St → Prop} (h : ∀ s2, Fx IMd SMd s1 s2 → mC q.2.1 s2 = itC q (mC q.2.1 st) N → post s2) : P_X12_goOn 58 (iN N) s1 post := by
  have e1 : mC q.2.1 s1 = mC q.2.1 st := mC_pk n85 E1 _
  exact s_goOn (M_pk (by decide) E1 M) (by rw [e1]; exact hC) hN (fun s2 F2 m1 _ => h s2 F2 (by rw [m1, e1, itC_eq]))
theorem vi6 {b n : Nat} (hb : b < n) (hn : n ≤ 6) {x : Nat} (hx : al 0 x = 6) : vp_in (iN b) (al 0 x) := by rw [hx]; exact iN_vp (by omega) (by decide)
theorem vi9 {b n : Nat} (hb : b < n) (hn : n ≤ 9) {x : Nat} (hx : al 0 x = 9) : vp_in (iN b) (al 0 x) := by rw [hx]; exact iN_vp (by omega) (by decide)
theorem s_leaderOf {st : St} {q : PD} (M : MPl st q) (hC : CI q (mC q.2.1 st)) {b : Nat} (hb : b < q.2.1) {post : Int32 → St → Prop} (h : ∀ st2, Fx IMd SWt st st2 → (∀ nb, mC nb st2 = mC nb st) → post (ldF q (mC q.2.1 st) b) st2) : P_X12_leaderOf 58 (iN b) st post := by
  have q2 := M.nb
  refine ⟨85, rfl, ⟨_, rfl⟩, s_packT rfl n85 (fun s1 E1 H1 => ⟨⟨_, rfl⟩, s_goT (N := 60) M hC E1 (by decide) (fun s2 F2 m => ⟨79, rfl, vi6 hb q2 rfl, 85, rfl, ⟨_, rfl⟩, s_unT E1 H1 F2 (fun s3 F3 e3 => ?_)⟩)⟩)⟩
  have e9 : gA s2 79 (iN b).toNatClampNeg = ldF q (mC q.2.1 st) b := by
    rw [iN_cl (by omega)]
    unfold ldF
    rw [← m]; exact (rC_le hb (by omega)).symm
  rw [e9]
  exact h s3 F3 e3
theorem fx_w {I : Nat → Nat → Prop} {S : Nat → Prop} {a b : St} (F : Fx I S a b) (hi : ∀ o k, I o k → IW o k) (hs : ∀ x, S x → SW x) : Fx IW SW a b := F.wk hi hs
theorem c4 {S : Nat → Prop} {a b : St} (F : Fx IMd S a b) : gI b 58 4 = gI a 58 4 := F.eI (by unfold IMd; decide)
/-- what a question of the reference leaves -/
theorem m_q {s1 s2 : St} {v : AV} {S : Nat → Prop} (I0 : InvM s1 v) (F : Fx IMd S (sI s1 58 4 0) s2) (hs : ∀ x, S x → SW x) (e : mC v.1.2.1 s2 = mC v.1.2.1 (sI s1 58 4 0)) : MFr s1 s2 ∧ InvM s2 v ∧ gI s2 58 4 = 0 := by
  obtain ⟨I1, F1, k1⟩ := m_beg I0
  obtain ⟨g1, g2⟩ := m_end I1 (fx_w F imd_iw hs) e
  exact ⟨F1.tr g1, g2, (c4 F).trans k1⟩
theorem c_leader {a : Int32} {st : St} (hI : Inv st) : P_L_leader a st (fun k st1 => Bth (P_X12_leader 58 a) k st1) := by
  obtain ⟨v, H, HM, HO⟩ := hI
  obtain ⟨p, D⟩ := H.D
  have q2 := HO.1.2.1
  have hc := H.c
  obtain ⟨dd, hdd, ed⟩ := HO.2.2.1.1.2.2.1
  by_cases ha : isI v.1.2.1 a
  · obtain ⟨x, hx, rfl⟩ := ha
    refine h_ok (PC := fun post pex => P_X11_leader 0 (iN x) st post pex) (PM := P_X12_leader 58 (iN x)) (v2 := v) (r := ldF v.1 v.2.1.1 x) HM HO (fun post h => ?_) (fun s1 post I0 h => ?_)
    · refine ⟨tb_out, s_needB D hx ⟨36, rfl, ⟨_, rfl⟩, 30, rfl, 3, rfl, ⟨_, rfl⟩, s_copyT D (fun st1 Q1 D1 A1 _ => ⟨⟨_, rfl⟩, s_foresee D1 HO.2.1 (d := dd) (by omega) (by rw [Q1.e4, hc]; exact ed) (by rw [← hc]; exact A1) ed (fun st2 _ Q2 D2 e => ⟨30, rfl, ⟨_, rfl⟩, s_whoLedT (by omega) ?_⟩)⟩)⟩⟩
      rw [e x hx]
      exact h st2 (Q1.tr Q2).cfr (H.qfr (Q1.tr Q2))
    · have I1 := (m_beg I0).1
      refine ⟨rfl, ⟨_, rfl⟩, s_isB I1.1 hx ⟨fun hz => absurd hz (by decide), fun _ => ⟨⟨_, rfl⟩, s_leaderOf I1.1 (by rw [I1.c]; exact HO.2.2.1.1.1) hx (fun s2 F2 e2 => ?_)⟩⟩⟩
      obtain ⟨g1, g2, g3⟩ := m_q I0 F2 swt_sw (e2 _)
      rw [I1.c]
      exact h s2 g1 g2 g3
  · refine h_thr (PC := fun post pex => P_X11_leader 0 a st post pex) (PM := P_X12_leader 58 a) (X := NSE) (k := 1) (by decide) H HM HO (fun pex h => ⟨tb_out, s_needB0 D ha h⟩) (fun s1 post I0 h => ?_) (fun h => ⟨rfl, h⟩)
    exact ⟨rfl, ⟨_, rfl⟩, s_isB0 (m_beg I0).1.1 ha ⟨fun _ => ⟨⟨_, rfl⟩, m_fail I0 h⟩, fun hz => absurd rfl hz⟩⟩
theorem in60 {b : Int32} : isI 61 b ↔ 0 ≤ b.toInt ∧ b.toInt ≤ 60 := by rw [isI_iff (by decide)]; omega
theorem t60 {b : Nat} (h : b < 61) : (0 : Int64).toInt ≤ ((iN b : Int32).toInt64).toInt ∧ ((iN b : Int32).toInt64).toInt ≤ (60 : Int64).toInt := by
  rw [Int32.toInt_toInt64, iN_toInt (by omega), z64, show (60 : Int64).toInt = 60 by decide]; omega
theorem f60 {b : Int32} (h : ¬ isI 61 b) : ¬ ((0 : Int64).toInt ≤ ((b : Int32).toInt64).toInt ∧ ((b : Int32).toInt64).toInt ≤ (60 : Int64).toInt) := by
  rw [in60] at h
  rw [Int32.toInt_toInt64, z64, show (60 : Int64).toInt = 60 by decide]; exact h
theorem c_then {a b : Int32} {st : St} (hI : Inv st) : P_L_then a b st (fun k st1 => Bth (P_X12_then 58 a b) k st1) := by
  obtain ⟨v, H, HM, HO⟩ := hI
  obtain ⟨p, D⟩ := H.D
  have q1 := HO.1.1
  have hc := H.c
  by_cases ha : isI v.1.1 a
  · obtain ⟨x, hx, rfl⟩ := ha
    by_cases hb : isI 61 b
    · obtain ⟨n, hn, rfl⟩ := hb
      refine h_ok (PC := fun post pex => P_X11_then 0 (iN x) (iN n) st post pex) (PM := P_X12_then 58 (iN x) (iN n)) (v2 := v) (r := itC v.1 v.2.1.1 n (2 + 4 * x)) HM HO (fun post h => ?_) (fun s1 post I0 h => ?_)
      · refine ⟨tb_out, s_needP D hx ⟨tb_out, s_needF hn ⟨36, rfl, ⟨_, rfl⟩, s_letPass D HO.2.1 (by omega) hc (fun st1 Q1 D1 A1 => ⟨30, rfl, ⟨_, rfl⟩, s_griefOf isDa30 (by omega) ?_⟩)⟩⟩⟩
        rw [ch301, A1.lo (by omega)]
        exact h st1 Q1.cfr (H.qfr Q1)
      · have I1 := (m_beg I0).1
        refine ⟨rfl, ⟨_, rfl⟩, s_isP I1.1 hx ⟨fun _ => s_isIn1 (t60 hn).1 (t60 hn).2 ⟨fun _ => ⟨85, rfl, ⟨_, rfl⟩, s_packT rfl n85 (fun s1 E1 H1 => ⟨⟨_, rfl⟩, s_goT I1.1 (by rw [I1.c]; exact HO.2.2.1.1.1) E1 (by omega) (fun s2 F2 m => ⟨73, rfl, vi9 hx q1 rfl, 85, rfl, ⟨_, rfl⟩, s_unT E1 H1 F2 (fun s3 F3 e3 => ?_)⟩)⟩)⟩, fun hz => absurd hz (by decide)⟩, fun hz => absurd hz (by decide)⟩⟩
        obtain ⟨g1, g2, g3⟩ := m_q I0 F3 swt_sw (e3 _)
        have e9 : gA s2 73 (iN x).toNatClampNeg = itC v.1 v.2.1.1 n (2 + 4 * x) := by
          rw [iN_cl (by omega), ← I1.c, ← m]; exact (rC_g (by omega)).symm
        rw [e9]
        exact h s3 g1 g2 g3
    · refine h_thr (PC := fun post pex => P_X11_then 0 (iN x) b st post pex) (PM := P_X12_then 58 (iN x) b) (X := IAE) (k := 2) (by decide) H HM HO (fun pex h => ⟨tb_out, s_needP D hx ⟨tb_out, s_needF0 hb h⟩⟩) (fun s1 post I0 h => ?_) (fun h => Or.inr ⟨rfl, h⟩)
      exact ⟨rfl, ⟨_, rfl⟩, s_isP (m_beg I0).1.1 hx ⟨fun _ => s_isIn0 (f60 hb) ⟨fun hz => absurd rfl hz, fun _ => ⟨⟨_, rfl⟩, m_fail I0 h⟩⟩, fun hz => absurd hz (by decide)⟩⟩
  · refine h_thr (PC := fun post pex => P_X11_then 0 a b st post pex) (PM := P_X12_then 58 a b) (X := NSE) (k := 1) (by decide) H HM HO (fun pex h => ⟨tb_out, s_needP0 D ha h⟩) (fun s1 post I0 h => ?_) (fun h => Or.inl ⟨rfl, h⟩)
    exact ⟨rfl, ⟨_, rfl⟩, s_isP0 (m_beg I0).1.1 ha ⟨fun hz => absurd rfl hz, fun _ => ⟨⟨_, rfl⟩, m_fail I0 h⟩⟩⟩
/-! led -/
theorem led_sub : ∀ a, a < 64 → ∀ b, b < 64 → iN a ||| iN b = iN b → iN b &&& (iN a ^^^ (-1)) = iN (b - a) ∧ bc (iN (b - a)) = bc (iN b) - bc (iN a) := by decide +kernel
theorem or_sub {x y z : Int32} (h : x ||| y = y) : x ||| (y ||| z) = y ||| z := by rw [← Int32.or_assoc, h]
theorem weds_led {q : PD} (hq : PDok q) {s : CW} {x : Int32} {p : Nat} (hp : p < 9) (h : x ||| s.1 (2 + 4 * p + 3) = s.1 (2 + 4 * p + 3)) : ∀ n, n ≤ 6 → x ||| (weds q s n).1 (2 + 4 * p + 3) = (weds q s n).1 (2 + 4 * p + 3) := by
  intro n
  induction n with
  | zero => intro _; exact h
  | succ n ih =>
    intro hn
    have e := ih (by omega)
    show x ||| (wedF q n (weds q s n)).1 (2 + 4 * p + 3) = (wedF q n (weds q s n)).1 (2 + 4 * p + 3)
    generalize weds q s n = s1 at *
    unfold wedF
    split
    · have hw := who9 (heav_who hq.1 s1.1 n)
      generalize heavF q s1.1 n = who at *
      show x ||| giveC (upd s1.1 (38 + 3 * n + 1) 0) n who _ (2 + 4 * p + 3) = giveC (upd s1.1 (38 + 3 * n + 1) 0) n who _ (2 + 4 * p + 3)
      unfold giveC
      split
      · rw [upd_ne (by omega)]
        by_cases ep : p = who.toNatClampNeg
        · rw [← ep, upd_same, upd_ne (by omega)]
          exact or_sub e
        · rw [upd_ne (by omega), upd_ne (by omega), upd_ne (by omega)]; exact e
      · rw [upd_ne (by omega), upd_ne (by omega)]; exact e
    · exact e
theorem mors_led {q : PD} {c : Nat → Int32} {p : Nat} : ∀ n, mors q c n (2 + 4 * p + 3) = c (2 + 4 * p + 3) := by
  intro n
  induction n with
  | zero => rfl
  | succ n ih =>
    have hs : mors q c (n + 1) = morF q n (mors q c n) := rfl
    rw [hs]
    unfold morF
    rw [upd_ne (by omega), upd_ne (by omega)]
    exact ih
theorem pass_led {q : PD} {s : CW} {p : Nat} : (passF q s).1 (2 + 4 * p + 3) = (weds q s q.2.1).1 (2 + 4 * p + 3) := by
  show upd (mors q (weds q s q.2.1).1 q.1) 0 (mors q (weds q s q.2.1).1 q.1 0 + 1) (2 + 4 * p + 3) = _
  rw [upd_ne (by omega), mors_led]
theorem it_led {q : PD} (hq : PDok q) {s : CW} {p : Nat} (hp : p < 9) : ∀ n, s.1 (2 + 4 * p + 3) ||| (itP q s n).1 (2 + 4 * p + 3) = (itP q s n).1 (2 + 4 * p + 3) := by
  intro n
  induction n with
  | zero => exact Int32.or_self
  | succ n ih =>
    rw [it_s, pass_led]
    exact weds_led hq hp ih _ hq.2.1
/-- how many more one leads in so many days -/
def nlF (q : PD) (c : Nat → Int32) (n p : Nat) : Int32 := bc (itC q c n (2 + 4 * p + 3)) - bc (c (2 + 4 * p + 3))
theorem nl_bits {q : PD} (hq : PDok q) {c : Nat → Int32} (hC : CI q c) {n p : Nat} (hp : p < q.1) : ∃ k, k < 512 ∧ itC q c n (2 + 4 * p + 3) &&& (c (2 + 4 * p + 3) ^^^ (-1)) = iN k ∧ bc (iN k) = nlF q c n p := by
  have hq1 := hq.1
  obtain ⟨a, ha, e1⟩ := hC.2.1 p hp
  obtain ⟨b, hb, e2⟩ := (CI_it hq (s := (c, fun _ => 0)) hC n).2.1 p hp
  have e2 : itC q c n (2 + 4 * p + 3) = iN b := e2
  have e3 := it_led hq (s := (c, fun _ => 0)) (p := p) (by omega) n
  have e3 : c (2 + 4 * p + 3) ||| itC q c n (2 + 4 * p + 3) = itC q c n (2 + 4 * p + 3) := e3
  unfold nlF
  rw [e1, e2] at e3 ⊢
  obtain ⟨g1, g2⟩ := led_sub a ha b hb e3
  exact ⟨b - a, by omega, g1, g2⟩
theorem s_newlyLed {st : St} {p : Nat} {q : PD} (D3 : DSt st 3 p q) {c : Nat → Int32} (hc : gA st 4 = c) {n x : Nat} (hA : AgC q.2.1 (gA st 31) (itC q c n)) (hx : x < 9) {post : Int32 → St → Prop} (h : post (nlF q c n x) st) : P_X9_newlyLed 36 (iN x) st post := by
  refine ⟨30, rfl, ⟨_, rfl⟩, s_ledBits isDa30 hx (s_bitCount ⟨3, rfl, ⟨_, rfl⟩, s_ledBits (Or.inl rfl) hx (s_bitCount ?_)⟩)⟩
  rw [ch301, ch31, hA.lo (by omega), hc]
  exact h
theorem s_ledIn {st : St} {q : PD} (M : MPl st q) (hC : CI q (mC q.2.1 st)) {x n : Nat} (hx : x < q.1) (hn : n < 1000) {post : Int32 → St → Prop} (h : ∀ st2, Fx IMd SWt st st2 → (∀ nb, mC nb st2 = mC nb st) → post (nlF q (mC q.2.1 st) n x) st2) : P_X12_ledIn 58 (iN x) (iN n) st post := by
  have q1 := M.np
  obtain ⟨k, hk, g1, g2⟩ := nl_bits M.ok hC (n := n) hx
  refine ⟨85, rfl, ⟨_, rfl⟩, s_packT rfl n85 (fun s1 E1 H1 => ⟨76, rfl, vi9 hx q1 rfl, ⟨_, rfl⟩, s_goT M hC E1 hn (fun s2 F2 m => ⟨76, rfl, vi9 hx q1 rfl, ?_⟩)⟩)⟩
  have e9 : gA s2 76 (iN x).toNatClampNeg = itC q (mC q.2.1 st) n (2 + 4 * x + 3) := by
    rw [iN_cl (by omega), ← m]; exact (rC_l (by omega)).symm
  have e8 : gA s1 76 (iN x).toNatClampNeg = mC q.2.1 st (2 + 4 * x + 3) := by
    rw [iN_cl (by omega), ← mC_pk n85 E1]; exact (rC_l (by omega)).symm
  rw [e8, e9, g1]
  refine s_bitsOf ⟨k, hk, rfl⟩ ⟨85, rfl, ⟨_, rfl⟩, s_unT E1 H1 F2 (fun s3 F3 e3 => ?_)⟩
  rw [g2]
  exact h s3 F3 e3
theorem c_led {a b : Int32} {st : St} (hI : Inv st) : P_L_led a b st (fun k st1 => Bth (P_X12_led 58 a b) k st1) := by
  obtain ⟨v, H, HM, HO⟩ := hI
  obtain ⟨p, D⟩ := H.D
  have q1 := HO.1.1
  have hc := H.c
  by_cases ha : isI v.1.1 a
  · obtain ⟨x, hx, rfl⟩ := ha
    by_cases hb : isI 61 b
    · obtain ⟨n, hn, rfl⟩ := hb
      refine h_ok (PC := fun post pex => P_X11_led 0 (iN x) (iN n) st post pex) (PM := P_X12_led 58 (iN x) (iN n)) (v2 := v) (r := nlF v.1 v.2.1.1 n x) HM HO (fun post h => ?_) (fun s1 post I0 h => ?_)
      · exact ⟨tb_out, s_needP D hx ⟨tb_out, s_needF hn ⟨36, rfl, ⟨_, rfl⟩, s_letPass D HO.2.1 (by omega) hc (fun st1 Q1 D1 A1 => ⟨36, rfl, ⟨_, rfl⟩, s_newlyLed (D.qfr Q1) (Q1.e4.trans hc) A1 (by omega) (h st1 Q1.cfr (H.qfr Q1))⟩)⟩⟩⟩
      · have I1 := (m_beg I0).1
        refine ⟨rfl, ⟨_, rfl⟩, s_isP I1.1 hx ⟨fun _ => s_isIn1 (t60 hn).1 (t60 hn).2 ⟨fun hz => absurd hz (by decide), fun _ => ⟨⟨_, rfl⟩, s_ledIn I1.1 (by rw [I1.c]; exact HO.2.2.1.1.1) hx (by omega) (fun s3 F3 e3 => ?_)⟩⟩, fun hz => absurd hz (by decide)⟩⟩
        obtain ⟨g1, g2, g3⟩ := m_q I0 F3 swt_sw (e3 _)
        rw [I1.c]
        exact h s3 g1 g2 g3
    · refine h_thr (PC := fun post pex => P_X11_led 0 (iN x) b st post pex) (PM := P_X12_led 58 (iN x) b) (X := IAE) (k := 2) (by decide) H HM HO (fun pex h => ⟨tb_out, s_needP D hx ⟨tb_out, s_needF0 hb h⟩⟩) (fun s1 post I0 h => ?_) (fun h => Or.inr ⟨rfl, h⟩)
      exact ⟨rfl, ⟨_, rfl⟩, s_isP (m_beg I0).1.1 hx ⟨fun _ => s_isIn0 (f60 hb) ⟨fun _ => ⟨⟨_, rfl⟩, m_fail I0 h⟩, fun hz => absurd rfl hz⟩, fun hz => absurd hz (by decide)⟩⟩
  · refine h_thr (PC := fun post pex => P_X11_led 0 a b st post pex) (PM := P_X12_led 58 a b) (X := NSE) (k := 1) (by decide) H HM HO (fun pex h => ⟨tb_out, s_needP0 D ha h⟩) (fun s1 post I0 h => ?_) (fun h => Or.inl ⟨rfl, h⟩)
    exact ⟨rfl, ⟨_, rfl⟩, s_isP0 (m_beg I0).1.1 ha ⟨fun hz => absurd rfl hz, fun _ => ⟨⟨_, rfl⟩, m_fail I0 h⟩⟩⟩
theorem c_dog {st : St} (hI : Inv st) : P_X11_dog 0 st (fun r1 st1 => P_X12_dog 58 st1 (fun r2 st2 => r1 = r2 ∧ Inv st2)) := by
  obtain ⟨v, H, HM, HO⟩ := hI
  obtain ⟨p, D⟩ := H.D
  have hc := H.c
  refine ⟨36, rfl, ⟨_, rfl⟩, s_letPass (N := 60) D HO.2.1 (by decide) hc (fun st1 Q1 D1 A1 => ⟨30, rfl, ⟨_, rfl⟩, s_dogCount isDa30 ⟨3, rfl, ⟨_, rfl⟩, s_dogCount (Or.inl rfl) ?_⟩⟩)⟩
  rw [ch301, ch31, A1.lo (by decide), Q1.e4, hc]
  have I0 := HM.cfr Q1.cfr
  have I1 := (m_beg I0).1
  refine ⟨rfl, 85, rfl, ⟨_, rfl⟩, s_packT rfl n85 (fun s1 E1 H1 => ⟨rfl, ⟨_, rfl⟩, s_goT (N := 60) I1.1 (by rw [I1.c]; exact HO.2.2.1.1.1) E1 (by decide) (fun s2 F2 m => ⟨rfl, 85, rfl, ⟨_, rfl⟩, s_unT E1 H1 F2 (fun s3 F3 e3 => ⟨?_, ?_⟩)⟩)⟩)⟩
  · have e1 : gI s2 58 37 = itC v.1 v.2.1.1 60 1 := by rw [← I1.c, ← m]; rfl
    have e2 : gI s1 58 37 = v.2.1.1 1 := by rw [E1.eI, ← I1.c]; rfl
    rw [e1, e2]
  · obtain ⟨g1, g2, g3⟩ := m_q I0 F3 swt_sw (e3 _)
    exact ⟨v, (H.qfr Q1).mfr g1, g2, HO⟩
/-! busiest -/
def bsF (q : PD) (c : Nat → Int32) (n m : Nat) : Int32 × Int32 := lp (fun p s => if nlF q c n p ≤ s.2 then s else (iN p, nlF q c n p)) ((-1 : Int32), (0 : Int32)) m
theorem bs_s (q : PD) (c : Nat → Int32) (n m : Nat) : bsF q c n (m + 1) = if nlF q c n m ≤ (bsF q c n m).2 then bsF q c n m else (iN m, nlF q c n m) := rfl
theorem s_bsC {st : St} {p : Nat} {q : PD} (D3 : DSt st 3 p q) {c : Nat → Int32} (hc : gA st 4 = c) {n : Nat} (hA : AgC q.2.1 (gA st 31) (itC q c n)) {a : Int32} {post : Int32 → St → Prop} {pex : String → St → Prop} (h : post (bsF q c n q.1).1 st) : ∃ n8, P_X11_busiest_20 0 a post pex n8 (-1) 0 0 st := by
  have q1 := D3.ok.1
  refine ⟨q.1 + 1, loop_up (α := Int32 × Int32) (P := fun m i s st => P_X11_busiest_20 0 a post pex m s.1 s.2 i st) (N := q.1) (fun i s st' => st' = st ∧ s = bsF q c n i) ?_ ?_ q.1 0 (-1, 0) st (by omega) ⟨rfl, rfl⟩⟩
  · rintro i hi s st' m ⟨rfl, rfl⟩ ih
    have hs := bs_s q c n i
    show P_X11_busiest_20 0 a post pex (m + 1) _ _ (iN i) st'
    unfold P_X11_busiest_20
    refine ⟨3, rfl, _, D3.pl, pl_0 D3.hp, fun hz => ?_, fun _ => ⟨36, rfl, ⟨_, rfl⟩, s_newlyLed D3 hc hA (by omega) ⟨fun h1 => ?_, fun h1 => ?_⟩⟩⟩
    · rw [D3.np] at hz; exact absurd hz (nle (by omega) hi)
    · show P_X11_busiest_20 0 a post pex m (bsF q c n i).1 (bsF q c n i).2 (iN i + 1) st'
      rw [iN_s]
      exact ih _ _ ⟨rfl, by rw [hs, if_pos h1]⟩
    · show P_X11_busiest_20 0 a post pex m (iN i) (nlF q c n i) (iN i + 1) st'
      rw [iN_s]
      exact ih (iN i, nlF q c n i) _ ⟨rfl, by rw [hs, if_neg h1]⟩
  · rintro s st' m ⟨rfl, rfl⟩
    show P_X11_busiest_20 0 a post pex (m + 1) _ _ (iN q.1) st'
    unfold P_X11_busiest_20
    exact ⟨3, rfl, _, D3.pl, pl_0 D3.hp, fun _ => h, fun hz => absurd (by rw [D3.np]; exact Int32.le_refl _) hz⟩
theorem s_bsM {st : St} {q : PD} (M : MPl st q) (hC : CI q (mC q.2.1 st)) {n : Nat} (hn : n < 1000) {post : Int32 → St → Prop} (h : ∀ st2, Fx IMd SWt st st2 → (∀ nb, mC nb st2 = mC nb st) → post (bsF q (mC q.2.1 st) n q.1).1 st2) : ∃ n8, P_X12_busiest_30 58 (iN n) post n8 (-1) 0 0 st := by
  have q1 := M.np
  refine ⟨q.1 + 1, loop_up (α := Int32 × Int32) (P := fun m i s st => P_X12_busiest_30 58 (iN n) post m s.1 s.2 i st) (N := q.1) (fun i s st' => Fx IMd SWt st st' ∧ (∀ nb, mC nb st' = mC nb st) ∧ s = bsF q (mC q.2.1 st) n i) ?_ ?_ q.1 0 (-1, 0) st (by omega) ⟨Fx.rf, fun _ => rfl, rfl⟩⟩
  · rintro i hi s st' m ⟨F1, e1, rfl⟩ ih
    have hs := bs_s q (mC q.2.1 st) n i
    have M1 := M.fx F1 swt_p
    show P_X12_busiest_30 58 (iN n) post (m + 1) _ _ (iN i) st'
    unfold P_X12_busiest_30
    refine ⟨62, rfl, v0_10, fun hz => ?_, fun _ => ⟨⟨_, rfl⟩, s_ledIn M1 (by rw [e1]; exact hC) hi hn (fun s2 F2 e2 => ?_)⟩⟩
    · rw [M1.e0] at hz; exact absurd hz (nle (by omega) hi)
    rw [e1]
    refine ⟨fun h1 => ?_, fun h1 => ?_⟩
    · show P_X12_busiest_30 58 (iN n) post m (iN i) (nlF q (mC q.2.1 st) n i) (iN i + 1) s2
      rw [iN_s]
      exact ih (iN i, nlF q (mC q.2.1 st) n i) _ ⟨F1.tr F2, fun nb => (e2 nb).trans (e1 nb), by rw [hs, if_neg (Int32.not_le.mpr h1)]⟩
    · show P_X12_busiest_30 58 (iN n) post m (bsF q (mC q.2.1 st) n i).1 (bsF q (mC q.2.1 st) n i).2 (iN i + 1) s2
      rw [iN_s]
      exact ih _ _ ⟨F1.tr F2, fun nb => (e2 nb).trans (e1 nb), by rw [hs, if_pos (Int32.not_lt.mp h1)]⟩
  · rintro s st' m ⟨F1, e1, rfl⟩
    have M1 := M.fx F1 swt_p
    show P_X12_busiest_30 58 (iN n) post (m + 1) _ _ (iN q.1) st'
    unfold P_X12_busiest_30
    exact ⟨62, rfl, v0_10, fun _ => h st' F1 e1, fun hz => absurd (by rw [M1.e0]; exact Int32.le_refl _) hz⟩
theorem c_busiest {b : Int32} {st : St} (hI : Inv st) : P_L_busiest b st (fun k st1 => Bth (P_X12_busiest 58 b) k st1) := by
  obtain ⟨v, H, HM, HO⟩ := hI
  obtain ⟨p, D⟩ := H.D
  have q1 := HO.1.1
  have hc := H.c
  by_cases hb : isI 61 b
  · obtain ⟨n, hn, rfl⟩ := hb
    refine h_ok (PC := fun post pex => P_X11_busiest 0 (iN n) st post pex) (PM := P_X12_busiest 58 (iN n)) (v2 := v) (r := (bsF v.1 v.2.1.1 n v.1.1).1) HM HO (fun post h => ?_) (fun s1 post I0 h => ?_)
    · exact ⟨tb_out, s_needF hn ⟨36, rfl, ⟨_, rfl⟩, s_letPass D HO.2.1 (by omega) hc (fun st1 Q1 D1 A1 => s_bsC (D.qfr Q1) (Q1.e4.trans hc) A1 (h st1 Q1.cfr (H.qfr Q1)))⟩⟩
    · have I1 := (m_beg I0).1
      refine ⟨rfl, s_isIn1 (t60 hn).1 (t60 hn).2 ⟨fun _ => s_bsM I1.1 (by rw [I1.c]; exact HO.2.2.1.1.1) (by omega) (fun s3 F3 e3 => ?_), fun hz => absurd hz (by decide)⟩⟩
      obtain ⟨g1, g2, g3⟩ := m_q I0 F3 swt_sw (e3 _)
      rw [I1.c]
      exact h s3 g1 g2 g3
  · refine h_thr (PC := fun post pex => P_X11_busiest 0 b st post pex) (PM := P_X12_busiest 58 b) (X := IAE) (k := 1) (by decide) H HM HO (fun pex h => ⟨tb_out, s_needF0 hb h⟩) (fun s1 post I0 h => ?_) (fun h => ⟨rfl, h⟩)
    exact ⟨rfl, s_isIn0 (f60 hb) ⟨fun hz => absurd rfl hz, fun _ => ⟨⟨_, rfl⟩, m_fail I0 h⟩⟩⟩
