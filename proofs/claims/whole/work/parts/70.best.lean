/-! PURE: bestDay -/
theorem weds_hm {q : PD} (hq : PDok q) {s : CW} {b : Nat} (hb : b < 6) : ∀ n, n ≤ q.2.1 → (weds q s n).1 (38 + 3 * b + 1) = if b < n ∧ s.1 (38 + 3 * b + 1) = 1 ∧ s.1 (38 + 3 * b) = s.1 0 then 0 else s.1 (38 + 3 * b + 1) := by
  have q2 := hq.2.1
  intro n
  induction n with
  | zero => intro _; rw [if_neg (by omega)]; rfl
  | succ n ih =>
    intro hn
    have e := ih (by omega)
    have ew := weds_unt hq (s := s) (j := 38 + 3 * b) (Or.inl ⟨b, hb, rfl⟩) n (by omega)
    have e0 := weds_unt hq (s := s) (j := 0) (Or.inr (Or.inr rfl)) n (by omega)
    show (wedF q n (weds q s n)).1 (38 + 3 * b + 1) = _
    unfold wedF
    have hw := who9 (heav_who hq.1 (weds q s n).1 n)
    by_cases eb : b = n
    · subst eb
      rw [if_neg (by omega)] at e
      rw [e, ew, e0]
      by_cases h : s.1 (38 + 3 * b + 1) = 1 ∧ s.1 (38 + 3 * b) = s.1 0
      · rw [if_pos h, if_pos ⟨by omega, h⟩]
        show giveC (upd (weds q s b).1 (38 + 3 * b + 1) 0) b _ _ (38 + 3 * b + 1) = 0
        unfold giveC
        split
        · rw [upd_ne (by omega), upd_ne (by omega), upd_ne (by omega), upd_same]
        · rw [upd_ne (by omega), upd_same]
      · rw [if_neg h, if_neg (fun z => h z.2)]; exact e
    · have key : (if b < n + 1 ∧ s.1 (38 + 3 * b + 1) = 1 ∧ s.1 (38 + 3 * b) = s.1 0 then (0 : Int32) else s.1 (38 + 3 * b + 1)) = if b < n ∧ s.1 (38 + 3 * b + 1) = 1 ∧ s.1 (38 + 3 * b) = s.1 0 then 0 else s.1 (38 + 3 * b + 1) := by
        by_cases h : b < n ∧ s.1 (38 + 3 * b + 1) = 1 ∧ s.1 (38 + 3 * b) = s.1 0
        · rw [if_pos h, if_pos ⟨by omega, h.2⟩]
        · rw [if_neg h, if_neg (fun z => h ⟨by omega, z.2⟩)]
      rw [key, ← e]
      split
      · show giveC (upd (weds q s n).1 (38 + 3 * n + 1) 0) n _ _ (38 + 3 * b + 1) = _
        exact giveC_hm (fun z => eb z.symm) hw (by omega) hb
      · rfl
theorem pass_home {q : PD} (hq : PDok q) {s : CW} {b : Nat} (hb : b < q.2.1) : (passF q s).1 (38 + 3 * b + 1) = if s.1 (38 + 3 * b + 1) = 1 ∧ s.1 (38 + 3 * b) = s.1 0 then 0 else s.1 (38 + 3 * b + 1) := by
  have q2 := hq.2.1
  show upd (mors q (weds q s q.2.1).1 q.1) 0 (mors q (weds q s q.2.1).1 q.1 0 + 1) (38 + 3 * b + 1) = _
  rw [upd_ne (by omega), mors_hi (by omega) _ hq.1, weds_hm hq (by omega) _ (Nat.le_refl _)]
  by_cases h : s.1 (38 + 3 * b + 1) = 1 ∧ s.1 (38 + 3 * b) = s.1 0
  · rw [if_pos h, if_pos ⟨hb, h⟩]
  · rw [if_neg h, if_neg (fun z => h z.2)]
/-- she is at home until her day, and led on it -/
theorem it_home {q : PD} (hq : PDok q) {s : CW} {b dd d : Nat} (hb : b < q.2.1) (hd : dd ≤ d) (hd2 : d < 100000) (h0 : s.1 0 = iN dd) (hw : s.1 (38 + 3 * b) = iN d) (hh : s.1 (38 + 3 * b + 1) = 1) : (∀ n, n ≤ d - dd → (itP q s n).1 (38 + 3 * b + 1) = 1) ∧ (itP q s (d - dd + 1)).1 (38 + 3 * b + 1) = 0 := by
  have q2 := hq.2.1
  have k1 : ∀ n, n ≤ d - dd → (itP q s n).1 (38 + 3 * b + 1) = 1 := by
    intro n
    induction n with
    | zero => intro _; exact hh
    | succ n ih =>
      intro hn
      have e := ih (by omega)
      rw [it_s, pass_home hq hb, e, it_unt hq (Or.inl ⟨b, by omega, rfl⟩) (by omega), it_day hq h0, hw, if_neg]
      rintro ⟨_, z⟩
      have := (iN_eq (by omega) (by omega)).mp z
      omega
  refine ⟨k1, ?_⟩
  rw [it_s, pass_home hq hb, k1 _ (Nat.le_refl _), it_unt hq (Or.inl ⟨b, by omega, rfl⟩) (by omega), it_day hq h0, hw, if_pos]
  exact ⟨rfl, by congr 1; omega⟩
/-- what the one who would lead her on the day d would weigh -/
def wdF (q : PD) (c : Nat → Int32) (b dd d : Nat) : Int32 := (itP q (upd c (38 + 3 * b) (iN d), fun _ => 0) (d - dd + 1)).2 b
theorem wd_eq {q : PD} (hq : PDok q) {c : Nat → Int32} {b dd d : Nat} (hb : b < q.2.1) (hd : dd ≤ d) (hd2 : d < 100000) (h0 : c 0 = iN dd) (hh : c (38 + 3 * b + 1) = 1) {s : CW} (hA : AgC q.2.1 s.1 (upd c (38 + 3 * b) (iN d))) : (∀ n, n ≤ d - dd → (itP q s n).1 (38 + 3 * b + 1) = 1) ∧ (itP q s (d - dd + 1)).1 (38 + 3 * b + 1) = 0 ∧ (itP q s (d - dd + 1)).2 b = wdF q c b dd d := by
  have q2 := hq.2.1
  have e1 : s.1 0 = iN dd := by rw [hA.lo (by decide), upd_ne (by omega)]; exact h0
  have e2 : s.1 (38 + 3 * b) = iN d := by rw [hA.lo (by omega), upd_same]
  have e3 : s.1 (38 + 3 * b + 1) = 1 := by rw [hA.lo (by omega), upd_ne (by omega)]; exact hh
  obtain ⟨k1, k2⟩ := it_home hq hb hd hd2 e1 e2 e3
  refine ⟨k1, k2, ?_⟩
  have A := it_ags hq (b0 := b) (by omega) (s := s) (s2 := (upd c (38 + 3 * b) (iN d), fun _ => 0)) ⟨hA, fun z => absurd e3 z⟩ (d - dd + 1)
  exact A.2 (by rw [k2]; decide)
def bdF (q : PD) (c : Nat → Int32) (b dd n : Nat) : Int32 × Int32 := lp (fun i s => if s.2 < wdF q c b dd (dd + i) then (iN (dd + i), wdF q c b dd (dd + i)) else s) ((-1 : Int32), (0 : Int32)) n
theorem bd_s (q : PD) (c : Nat → Int32) (b dd n : Nat) : bdF q c b dd (n + 1) = if (bdF q c b dd n).2 < wdF q c b dd (dd + n) then (iN (dd + n), wdF q c b dd (dd + n)) else bdF q c b dd n := rfl
theorem bd_inv (q : PD) (c : Nat → Int32) (b dd : Nat) : ∀ n, dd + n < 100000 → (bdF q c b dd n = (-1, 0)) ∨ ((bdF q c b dd n).1 ≠ -1 ∧ 0 < (bdF q c b dd n).2) := by
  intro n
  induction n with
  | zero => intro _; exact Or.inl rfl
  | succ n ih =>
    intro hn
    rw [bd_s]
    by_cases e : (bdF q c b dd n).2 < wdF q c b dd (dd + n)
    · rw [if_pos e]
      refine Or.inr ⟨iN_ne_m1 (by omega), ?_⟩
      rcases ih (by omega) with h | h
      · rw [h] at e; exact e
      · exact Int32.lt_trans h.2 e
    · rw [if_neg e]; exact ih (by omega)
def bdC (s : Int32 × Int32) : Int32 := if s.1 = -1 then -1 else s.2
/-! the class -/
theorem s_wOn {st : St} {p : Nat} {q : PD} (D : DSt st 3 p q) (hM : okM q.2.2.2.2) {c : Nat → Int32} (hc : gA st 4 = c) {b dd d : Nat} (hb : b < q.2.1) (hd : dd ≤ d) (hd2 : d ≤ dd + 30) (hd3 : d ≤ 999) (h0 : c 0 = iN dd) (hh : c (38 + 3 * b + 1) = 1) {post : Int32 → St → Prop} (h : ∀ st1, QFr st st1 → post (wdF q c b dd d) st1) : P_X9_weightOfLeaderOn 36 (iN b) (iN d) st post := by
  have q2 := D.ok.2.1
  refine ⟨30, rfl, 3, rfl, ⟨_, rfl⟩, s_copyT D (fun st1 Q1 D1 A1 _ => ⟨30, rfl, ⟨_, rfl⟩, s_setWedding isDa30 (by omega) ?_⟩)⟩
  rw [hc] at A1
  obtain ⟨Q2, D2, A2⟩ := tr_up Q1 D1 A1 (38 + 3 * b) (iN d)
  have Q2 : QFr st (sA st1 (ch 30 1) (38 + 3 * b) (iN d)) := Q2
  have D2 : DSt (sA st1 (ch 30 1) (38 + 3 * b) (iN d)) 30 p q := D2
  have A2 : AgC q.2.1 (gA (sA st1 (ch 30 1) (38 + 3 * b) (iN d)) 31) (upd c (38 + 3 * b) (iN d)) := A2
  generalize sA st1 (ch 30 1) (38 + 3 * b) (iN d) = s2 at *
  obtain ⟨k1, k2, k3⟩ := wd_eq D.ok hb hd (by omega) h0 hh (s := (gA s2 31, gA s2 33)) A2
  refine ⟨d - dd + 1 + 1, loop_up (α := Unit) (P := fun n i _ st => P_X9_weightOfLeaderOn_22 36 (iN b) (iN d) post n i st) (N := d - dd + 1) (fun i _ st' => Ex (SD 30) s2 st' ∧ gA st' 31 = (itP q (gA s2 31, gA s2 33) i).1 ∧ gA st' 33 = (itP q (gA s2 31, gA s2 33) i).2) ?_ ?_ (d - dd + 1) 0 () s2 (by omega) ⟨Ex.rf, rfl, rfl⟩⟩
  · rintro i hi _ st' n ⟨E3, e1, e2⟩ ih
    have D3 := D2.ex (npl_sd isDa30) E3
    show P_X9_weightOfLeaderOn_22 36 (iN b) (iN d) post (n + 1) (iN i) st'
    unfold P_X9_weightOfLeaderOn_22
    refine ⟨fun hz => ?_, fun _ => ⟨30, rfl, ⟨_, rfl⟩, s_isHome isDa30 (by omega) ?_⟩⟩
    · have hz : iN 30 < iN i := hz
      rw [iN_lt (by omega) (by omega)] at hz; omega
    rw [ch301, e1, if_pos (k1 i (by omega))]
    refine ⟨fun hz => absurd hz (by decide), fun _ => ⟨30, rfl, ⟨_, rfl⟩, s_passDay D3 hM (fun st4 E4 h1 h2 => ?_)⟩⟩
    have h1 : gA st4 31 = (passF q (gA st' 31, gA st' 33)).1 := h1
    have h2 : gA st4 33 = (passF q (gA st' 31, gA st' 33)).2 := h2
    rw [e1, e2] at h1 h2
    rw [iN_s]
    exact ih () st4 ⟨E3.tr E4, h1, h2⟩
  · rintro _ st' n ⟨E3, e1, e2⟩
    have D3 := D2.ex (npl_sd isDa30) E3
    have K : P_X9_weightOfLeaderOn_52 36 (iN b) (iN d) post st' := by
      refine ⟨30, rfl, ⟨_, rfl⟩, s_leaderWeight isDa30 (by omega) ?_⟩
      rw [ch303, e2, k3]
      exact h st' (Q2.tr (QFr.ex E3 sd30_sc D2.tp))
    show P_X9_weightOfLeaderOn_22 36 (iN b) (iN d) post (n + 1) (iN (d - dd + 1)) st'
    unfold P_X9_weightOfLeaderOn_22
    refine ⟨fun _ => K, fun _ => ⟨30, rfl, ⟨_, rfl⟩, s_isHome isDa30 (by omega) ?_⟩⟩
    rw [ch301, e1, k2]
    exact ⟨fun _ => K, fun hz => absurd (if_neg (by decide)) hz⟩
theorem min999 {dd : Nat} (h : dd ≤ 999) : ∃ L, dd ≤ L ∧ L ≤ dd + 30 ∧ L ≤ 999 ∧ (if (iN dd + 30 : Int32) < 999 then iN dd + 30 else 999) = iN L := by
  have e : iN dd + 30 = iN (dd + 30) := by rw [iN_add]; rfl
  rw [e]
  by_cases h1 : dd + 30 < 999
  · refine ⟨dd + 30, by omega, by omega, by omega, ?_⟩
    rw [if_pos]
    show iN (dd + 30) < iN 999
    rw [iN_lt (by omega) (by omega)]; exact h1
  · refine ⟨999, h, by omega, by omega, ?_⟩
    rw [if_neg]
    · rfl
    · show ¬ iN (dd + 30) < iN 999
      rw [iN_lt (by omega) (by omega)]; exact h1
theorem s_bdC {st : St} {p : Nat} {q : PD} (D : DSt st 3 p q) (ht : ∃ pt, isPl pt ∧ gR st 30 0 = some pt) (hM : okM q.2.2.2.2) {c : Nat → Int32} (hc : gA st 4 = c) {b dd L : Nat} (hb : b < q.2.1) (hL : dd ≤ L) (hL2 : L ≤ dd + 30) (hL3 : L ≤ 999) (h0 : c 0 = iN dd) (hh : c (38 + 3 * b + 1) = 1) {f : Int32} {post : Int32 → St → Prop} (h : ∀ st1, QFr st st1 → post (if f = 0 then (bdF q c b dd (L + 1 - dd)).1 else bdC (bdF q c b dd (L + 1 - dd))) st1) : ∃ n8, P_X9_findBestDay_32 36 (iN b) f post n8 (-1) (-1) (iN L) (iN dd) st := by
  have q2 := D.ok.2.1
  refine ⟨L + 1 - dd + 1, loop_up (α := Int32 × Int32) (P := fun n i s st => P_X9_findBestDay_32 36 (iN b) f post n s.1 s.2 (iN L) i st) (N := L + 1) (fun i s st' => dd ≤ i ∧ QFr st st' ∧ s = ((bdF q c b dd (i - dd)).1, bdC (bdF q c b dd (i - dd)))) ?_ ?_ (L + 1 - dd) dd (-1, -1) st (by omega) ⟨Nat.le_refl _, QFr.rf ht, by rw [Nat.sub_self]; rfl⟩⟩
  · rintro i hi s st' n ⟨hi1, Q1, rfl⟩ ih
    have D1 := D.qfr Q1
    have hs := bd_s q c b dd (i - dd)
    rw [show dd + (i - dd) = i by omega, show i - dd + 1 = i + 1 - dd by omega] at hs
    have hinv := bd_inv q c b dd (i - dd) (by omega)
    have skip : ∀ st2, QFr st st2 → ¬ (bdF q c b dd (i - dd)).2 < wdF q c b dd i → P_X9_findBestDay_32 36 (iN b) f post n (bdF q c b dd (i - dd)).1 (bdC (bdF q c b dd (i - dd))) (iN L) (iN i + 1) st2 := fun st2 Q2 hn => by
      rw [iN_s]
      exact ih (_, _) _ ⟨by omega, Q2, by rw [hs, if_neg hn]⟩
    show P_X9_findBestDay_32 36 (iN b) f post (n + 1) _ _ (iN L) (iN i) st'
    unfold P_X9_findBestDay_32
    refine ⟨fun hz => ?_, fun _ => ⟨3, rfl, ⟨_, rfl⟩, s_isHome D1.hd (by omega) ?_⟩⟩
    · rw [iN_lt (by omega) (by omega)] at hz; omega
    rw [ch31, Q1.e4, hc, if_pos hh]
    refine ⟨fun hz => absurd hz (by decide), fun _ => ⟨⟨_, rfl⟩, s_wOn D1 hM (Q1.e4.trans hc) hb hi1 (by omega) (by omega) h0 hh (fun st2 Q2 => ⟨fun h1 => skip st2 (Q1.tr Q2) ?_, fun h1 => ⟨fun h2 => skip st2 (Q1.tr Q2) ?_, fun h2 => ?_⟩⟩)⟩⟩
    · rcases hinv with e | e
      · rw [e]; exact Int32.not_lt.mpr h1
      · exact fun z => absurd (Int32.lt_trans e.2 z) (Int32.not_lt.mpr h1)
    · rcases hinv with e | e
      · rw [e] at h2
        exact absurd (Int32.le_trans h2 (by decide)) h1
      · unfold bdC at h2
        rw [if_neg e.1] at h2
        exact Int32.not_lt.mpr h2
    · show P_X9_findBestDay_32 36 (iN b) f post n (iN i) (wdF q c b dd i) (iN L) (iN i + 1) st2
      rw [iN_s]
      have hlt : (bdF q c b dd (i - dd)).2 < wdF q c b dd i := by
        rcases hinv with e | e
        · rw [e]; exact Int32.not_le.mp h1
        · unfold bdC at h2
          rw [if_neg e.1] at h2
          exact Int32.not_le.mp h2
      rw [if_pos hlt] at hs
      refine ih (iN i, wdF q c b dd i) _ ⟨by omega, Q1.tr Q2, ?_⟩
      rw [hs]
      unfold bdC
      rw [if_neg (iN_ne_m1 (by omega))]
  · rintro s st' n ⟨hi1, Q1, rfl⟩
    show P_X9_findBestDay_32 36 (iN b) f post (n + 1) _ _ (iN L) (iN (L + 1)) st'
    unfold P_X9_findBestDay_32
    have K := h st' Q1
    refine ⟨fun _ => ⟨fun hf => ?_, fun hf => ?_⟩, fun hz => absurd ((iN_lt (by omega) (by omega)).mpr (by omega)) hz⟩
    · rw [if_pos hf] at K; exact K
    · rw [if_neg hf] at K; exact K
/-! the reference -/
theorem s_wOnM {st : St} {q : PD} (M : MPl st q) {C : Nat → Int32} (hm : mC q.2.1 st = C) (hC : CI q C) {b dd d : Nat} (hb : b < q.2.1) (hd : dd ≤ d) (hd3 : d ≤ 999) (h0 : C 0 = iN dd) (hh : C (38 + 3 * b + 1) = 1) {post : Int32 → St → Prop} (h : ∀ st1, Fx IMd SWt st st1 → (∀ nb, mC nb st1 = mC nb st) → post (wdF q C b dd d) st1) : P_X12_weightOn 58 (iN b) (iN d) st post := by
  have q1 := M.np
  have q2 := M.nb
  refine ⟨85, rfl, ⟨_, rfl⟩, s_packT rfl n85 (fun s1 E1 H1 => ⟨77, rfl, vi6 hb q2 rfl, ?_⟩)⟩
  rw [iN_cl (by omega)]
  have M1 := M_pk (by decide) E1 M
  have F2 : Fx IMd SMd s1 (sA s1 77 b (iN d)) := Fx.sa (Or.inl ⟨by decide, by decide⟩) _ _
  have e2 : mC q.2.1 (sA s1 77 b (iN d)) = upd C (38 + 3 * b) (iN d) := by rw [mC_sw (by omega), mC_pk n85 E1, hm]
  have M2 := M1.fx F2 smd_p
  generalize sA s1 77 b (iN d) = s2 at *
  obtain ⟨k1, k2, k3⟩ := wd_eq M.ok hb hd (by omega) h0 hh (s := (mC q.2.1 s2, gA s2 84)) (by rw [e2]; exact AgC.rf)
  have hC2 : CI q (mC q.2.1 s2) := by
    rw [e2]
    obtain ⟨a1, a2, a3⟩ := hC
    refine ⟨fun p hp b2 hb2 => ?_, fun p hp => ?_, fun b2 hb2 => ?_⟩
    · rw [upd_ne (by omega)]; exact a1 p hp b2 hb2
    · rw [upd_ne (by omega)]; exact a2 p hp
    · rw [upd_ne (by omega), upd_ne (by omega)]; exact a3 b2 hb2
  refine ⟨d - dd + 1 + 1, loop_up (α := Unit) (P := fun n _ _ st => P_X12_weightOn_16 58 (iN b) (iN d) post n st) (N := d - dd + 1) (fun i _ st' => Fx IMd SMd s1 st' ∧ MPl st' q ∧ mC q.2.1 st' = (itP q (mC q.2.1 s2, gA s2 84) i).1 ∧ gA st' 84 = (itP q (mC q.2.1 s2, gA s2 84) i).2) ?_ ?_ (d - dd + 1) 0 () s2 (by omega) ⟨F2, M2, rfl, rfl⟩⟩
  · rintro i hi _ st' n ⟨F3, M3, e3, e4⟩ ih
    have g78 : gA st' 78 (iN b).toNatClampNeg = 1 := by rw [iN_cl (by omega), ← k1 i (by omega), ← e3]; exact (rC_h (by omega)).symm
    show P_X12_weightOn_16 58 (iN b) (iN d) post (n + 1) st'
    unfold P_X12_weightOn_16
    refine ⟨78, rfl, vi6 hb q2 rfl, fun hz => absurd g78 hz, fun _ => ⟨⟨_, rfl⟩, s_aDay M3 (by rw [e3]; exact CI_it M.ok hC2 i) (fun s4 F4 h1 h2 => ?_)⟩⟩
    rw [e3, e4] at h1 h2
    exact ih () s4 ⟨F3.tr F4, M3.fx F4 smd_p, h1, h2⟩
  · rintro _ st' n ⟨F3, M3, e3, e4⟩
    have g78 : gA st' 78 (iN b).toNatClampNeg = 0 := by rw [iN_cl (by omega), ← k2, ← e3]; exact (rC_h (by omega)).symm
    show P_X12_weightOn_16 58 (iN b) (iN d) post (n + 1) st'
    unfold P_X12_weightOn_16
    refine ⟨78, rfl, vi6 hb q2 rfl, fun _ => ⟨84, rfl, vi6 hb q2 rfl, 85, rfl, ⟨_, rfl⟩, s_unT E1 H1 F3 (fun s5 F5 e5 => ?_)⟩, fun hz => absurd (g78.symm.trans hz) (by decide)⟩
    rw [iN_cl (by omega), e4, k3]
    exact h s5 F5 e5
theorem s_bdM {st : St} {q : PD} (M : MPl st q) {C : Nat → Int32} (hm : mC q.2.1 st = C) (hC : CI q C) {b dd L : Nat} (hb : b < q.2.1) (hL : dd ≤ L) (hL2 : L ≤ dd + 30) (hL3 : L ≤ 999) (hLe : (if (iN dd + 30 : Int32) < 999 then iN dd + 30 else 999) = iN L) (h0 : C 0 = iN dd) (hh : C (38 + 3 * b + 1) = 1) {a : Int32} {post : Int32 → St → Prop} (h : ∀ st1, Fx IMd SWt st st1 → (∀ nb, mC nb st1 = mC nb st) → post (if a = 0 then (bdF q C b dd (L + 1 - dd)).1 else bdC (bdF q C b dd (L + 1 - dd))) st1) : ∃ n8, P_X12_bestDay_50 58 (iN b) a post n8 (-1) 0 (iN dd) st := by
  have q2 := M.nb
  refine ⟨L + 1 - dd + 1, loop_up (α := Int32 × Int32) (P := fun n i s st => P_X12_bestDay_50 58 (iN b) a post n s.1 s.2 i st) (N := L + 1) (fun i s st' => dd ≤ i ∧ Fx IMd SWt st st' ∧ (∀ nb, mC nb st' = mC nb st) ∧ s = bdF q C b dd (i - dd)) ?_ ?_ (L + 1 - dd) dd (-1, 0) st (by omega) ⟨Nat.le_refl _, Fx.rf, fun _ => rfl, by rw [Nat.sub_self]; rfl⟩⟩
  · rintro i hi s st' n ⟨hi1, F1, e1, rfl⟩ ih
    have M1 := M.fx F1 swt_p
    have eC : mC q.2.1 st' = C := (e1 _).trans hm
    have e36 : gI st' 58 36 = iN dd := by rw [← h0, ← eC]; rfl
    have hs := bd_s q C b dd (i - dd)
    rw [show dd + (i - dd) = i by omega, show i - dd + 1 = i + 1 - dd by omega] at hs
    show P_X12_bestDay_50 58 (iN b) a post (n + 1) _ _ (iN i) st'
    unfold P_X12_bestDay_50
    rw [e36, hLe]
    refine ⟨rfl, fun hz => ?_, fun _ => ⟨⟨_, rfl⟩, s_wOnM M1 eC hC hb hi1 (by omega) h0 hh (fun s2 F2 e2 => ⟨fun h1 => ?_, fun h1 => ?_⟩)⟩⟩
    · rw [iN_lt (by omega) (by omega)] at hz; omega
    · show P_X12_bestDay_50 58 (iN b) a post n (iN i) (wdF q C b dd i) (iN i + 1) s2
      rw [iN_s]
      exact ih (iN i, wdF q C b dd i) _ ⟨by omega, F1.tr F2, fun nb => (e2 nb).trans (e1 nb), by rw [hs, if_pos h1]⟩
    · show P_X12_bestDay_50 58 (iN b) a post n (bdF q C b dd (i - dd)).1 (bdF q C b dd (i - dd)).2 (iN i + 1) s2
      rw [iN_s]
      exact ih _ _ ⟨by omega, F1.tr F2, fun nb => (e2 nb).trans (e1 nb), by rw [hs, if_neg h1]⟩
  · rintro s st' n ⟨hi1, F1, e1, rfl⟩
    have eC : mC q.2.1 st' = C := (e1 _).trans hm
    have e36 : gI st' 58 36 = iN dd := by rw [← h0, ← eC]; rfl
    show P_X12_bestDay_50 58 (iN b) a post (n + 1) _ _ (iN (L + 1)) st'
    unfold P_X12_bestDay_50
    rw [e36, hLe]
    have K := h st' F1 e1
    unfold bdC at K
    refine ⟨rfl, fun _ => ⟨fun ha => ?_, fun ha => ⟨fun hn => ?_, fun hn => ?_⟩⟩, fun hz => absurd ((iN_lt (by omega) (by omega)).mpr (by omega)) hz⟩
    · rw [if_pos ha] at K; exact K
    · rw [if_neg ha, if_neg hn] at K; exact K
    · rw [if_neg ha, if_pos hn] at K
      show post (bdF q C b dd (L + 1 - dd)).1 st'
      rw [hn]; exact K
theorem c_bestDay {a b : Int32} {st : St} (hI : Inv st) : P_L_bestDay a b st (fun k st1 => Bth (P_X12_bestDay 58 a b) k st1) := by
  obtain ⟨v, H, HM, HO⟩ := hI
  obtain ⟨p, D⟩ := H.D
  have q2 := HO.1.2.1
  have hc := H.c
  have hC := HO.2.2.1.1.1
  obtain ⟨dd, hdd, ed⟩ := HO.2.2.1.1.2.2.1
  obtain ⟨L, L1, L2, L3, L4⟩ := min999 hdd
  by_cases ha : isI v.1.2.1 a
  · obtain ⟨x, hx, rfl⟩ := ha
    by_cases hb : isI 2 b
    · obtain ⟨w, hw, rfl⟩ := hb
      have hhome := (HO.2.2.1.1.1.2.2 x hx).1
      refine h_ok (PC := fun post pex => P_X11_bestDay 0 (iN x) (iN w) st post pex) (PM := P_X12_bestDay 58 (iN x) (iN w)) (v2 := v) (r := if v.2.1.1 (38 + 3 * x + 1) = 1 then (if iN w = 0 then (bdF v.1 v.2.1.1 x dd (L + 1 - dd)).1 else bdC (bdF v.1 v.2.1.1 x dd (L + 1 - dd))) else -1) HM HO (fun post h => ?_) (fun s1 post I0 h => ?_)
      · have fin : ∀ f : Int32, (f = 0 ↔ iN w = 0) → P_X9_findBestDay 36 (iN x) f st post := by
          intro f hf
          refine ⟨3, rfl, ⟨_, rfl⟩, s_today D.hd ⟨3, rfl, ⟨_, rfl⟩, s_today D.hd ?_⟩⟩
          rw [ch31, hc, ed, L4]
          by_cases hh : v.2.1.1 (38 + 3 * x + 1) = 1
          · refine s_bdC D H.tp HO.2.1 hc hx L1 L2 L3 ed hh (fun st1 Q1 => ?_)
            have K := h st1 Q1.cfr (H.qfr Q1)
            rw [if_pos hh] at K
            by_cases e : f = 0
            · rw [if_pos e]; rw [if_pos (hf.mp e)] at K; exact K
            · rw [if_neg e]; rw [if_neg (fun z => e (hf.mpr z))] at K; exact K
          · have K := h st CFr.rf H
            rw [if_neg hh] at K
            refine ⟨1, ?_⟩
            unfold P_X9_findBestDay_32
            have K2 : P_X9_findBestDay_84 36 (iN x) f post (-1) (-1) st := ⟨fun _ => K, fun _ => K⟩
            refine ⟨fun _ => K2, fun _ => ⟨3, rfl, ⟨_, rfl⟩, s_isHome D.hd (by omega) ?_⟩⟩
            rw [ch31, hc, if_neg hh]
            exact ⟨fun _ => K2, fun hz => absurd rfl hz⟩
        refine ⟨tb_out, s_needB D hx ⟨tb_out, s_needW (l := 1) (by decide) hw ⟨36, rfl, fun h1 => ⟨⟨_, rfl⟩, fin 0 ?_⟩, fun h1 => ⟨⟨_, rfl⟩, fin 1 ?_⟩⟩⟩⟩
        · have : w ≠ 1 := fun e => h1 (by rw [e]; rfl)
          have : w = 0 := by omega
          subst this
          exact ⟨fun _ => rfl, fun _ => rfl⟩
        · rw [h1]
      · obtain ⟨I1, F1, k1⟩ := m_beg I0
        have eC := I1.c
        have e78 : gA (sI s1 58 4 0) 78 (iN x).toNatClampNeg = v.2.1.1 (38 + 3 * x + 1) := by rw [iN_cl (by omega), ← eC]; exact (rC_h (by omega)).symm
        have e36 : gI (sI s1 58 4 0) 58 36 = iN dd := by rw [← ed, ← eC]; rfl
        refine ⟨rfl, ⟨_, rfl⟩, s_isB I1.1 hx ⟨fun hz => absurd hz (by decide), fun _ => ⟨fun hz => ?_, fun _ => ⟨fun _ => ⟨78, rfl, vi6 hx q2 rfl, ?_⟩, fun hz => absurd ((iN_le (b := 1) (by omega) (by decide)).mpr (by omega)) hz⟩⟩⟩⟩
        · rw [lt0, iN_toInt (by omega)] at hz; omega
        rw [e78, e36]
        refine ⟨fun hz => ⟨rfl, s_bdM I1.1 eC hC hx L1 L2 L3 L4 ed (hhome.resolve_left hz) (fun s3 F3 e3 => ?_)⟩, fun hz => ?_⟩
        · obtain ⟨g1, g2, g3⟩ := m_q I0 F3 swt_sw (e3 _)
          have K := h s3 g1 g2 g3
          rw [if_pos (hhome.resolve_left hz)] at K
          exact K
        · have K := h _ F1 I1 k1
          rw [if_neg (by rw [hz]; decide)] at K
          exact K
    · refine h_thr (PC := fun post pex => P_X11_bestDay 0 (iN x) b st post pex) (PM := P_X12_bestDay 58 (iN x) b) (X := NSE) (k := 1) (by decide) H HM HO (fun pex h => ⟨tb_out, s_needB D hx ⟨tb_out, s_needW0 (l := 1) (by decide) hb h⟩⟩) (fun s1 post I0 h => ?_) (fun h => ⟨rfl, h⟩)
      refine ⟨rfl, ⟨_, rfl⟩, s_isB (m_beg I0).1.1 hx ⟨fun hz => absurd hz (by decide), fun _ => ⟨fun _ => ⟨⟨_, rfl⟩, m_fail I0 h⟩, fun h0 => ⟨fun h1 => absurd ?_ hb, fun _ => ⟨⟨_, rfl⟩, m_fail I0 h⟩⟩⟩⟩⟩
      rw [isI_iff (by omega)]
      rw [lt0] at h0
      have h1 := (le_iN (n := 1) (by decide)).mp h1
      omega
  · refine h_thr (PC := fun post pex => P_X11_bestDay 0 a b st post pex) (PM := P_X12_bestDay 58 a b) (X := NSE) (k := 1) (by decide) H HM HO (fun pex h => ⟨tb_out, s_needB0 D ha h⟩) (fun s1 post I0 h => ?_) (fun h => ⟨rfl, h⟩)
    exact ⟨rfl, ⟨_, rfl⟩, s_isB0 (m_beg I0).1.1 ha ⟨fun _ => ⟨⟨_, rfl⟩, m_fail I0 h⟩, fun hz => absurd rfl hz⟩⟩
