/-! PURE: parts, tests, nots, expressions -/
section P2
variable {T : Nat → Int32} {n : Nat} {τ : Nat → Tok} {r kv mo : Nat}
theorem CWf.rf {r : Nat} {a : St} : CWf r a a := ⟨fun _ _ _ => rfl, fun _ _ _ => rfl, fun _ _ => rfl⟩
theorem CX.er (hr : isRu r) {st : St} {i len : Nat} {row : Nat → Int32} (hl : len ≤ 700) (X : CX T n τ r kv st i len row) (k : Nat) : CWf r st (sI st 34 6 (iN k)) ∧ CE r (sI st 34 6 (iN k)) k (tB (τ i)) := by
  obtain ⟨x1, x2, x3, x4, x5, x6⟩ := X
  refine ⟨CWf.s34 (Or.inr rfl) _, x3, ?_, gI_sI _ _ _ _, ?_⟩
  · rw [gI_sI_ne (fun z => (ru_ne hr).1 z.1), x5, lt0, iN_toInt (by omega)]; omega
  · rw [gI_sI_ne (by decide)]; exact x2.2.2.1
theorem s_wrong {st : St} {i len : Nat} {row : Nat → Int32} (X : MX T n τ mo st i len row) (k : Nat) {post : St → Prop} (h : ∀ st', MWf mo st st' → ME st' k (tB (τ i)) → post st') : P_X12_wrong 58 (iN k) st post := by
  refine ⟨rfl, fun _ => ⟨rfl, rfl, rfl, ?_⟩, fun z => absurd X.2.2.1 z⟩
  rw [gI_sI_ne (by decide), X.2.1.2.2.1]
  refine h _ (MWf.fx (I := MWi) ((Fx.si (k := 23) (by unfold MWi; decide) _).tr (Fx.si (k := 24) (by unfold MWi; decide) _)) (fun _ _ z => z)) ⟨?_, gI_sI _ _ _ _⟩
  rw [gI_sI_ne (by decide), gI_sI]
theorem s_takeSign (TK : Tks T n τ) (hr : isRu r) {st : St} {i len : Nat} {row : Nat → Int32} (hi : i ≤ n) (hl : len ≤ 700) (X : CX T n τ r kv st i len row) {c : Int32} {post : Int32 → St → Prop} (h1 : tS (τ i) = c → ∀ st', CWf r st st' → CX T n τ r kv st' (tE (τ i)) len row → post 1 st') (h0 : tS (τ i) ≠ c → ∀ st', CWf r st st' → CE r st' 1 (tB (τ i)) → post 0 st') : P_X4_takeSign 34 c st post := by
  have e8 := X.2.1.2.2.2.2.2.2
  refine ⟨35, rfl, rfl, fun z => ⟨35, rfl, ⟨_, rfl⟩, s_advX TK hr hi X (fun st' F Y => h1 (e8.symm.trans z) st' F Y)⟩, fun z => ⟨⟨_, rfl⟩, rfl, Or.inl rfl, ?_⟩⟩
  obtain ⟨F, E⟩ := X.er hr hl 1
  exact h0 (fun e => z (e8.trans e)) _ F E
theorem s_mark (TK : Tks T n τ) {st : St} {i len : Nat} {row : Nat → Int32} (hi : i ≤ n) (X : MX T n τ mo st i len row) {c : Int32} (hc : c ≠ 0) {post : St → Prop} (h1 : tS (τ i) = c → ∀ st', MWf mo st st' → MX T n τ mo st' (tE (τ i)) len row → post st') (h0 : tS (τ i) ≠ c → ∀ st', MWf mo st st' → ME st' 1 (tB (τ i)) → post st') : P_X12_mark 58 c st post := by
  refine ⟨rfl, fun z => absurd X.2.2.1 z, fun _ => ⟨⟨_, rfl⟩, s_mkd TK hi X hc (fun e => ⟨fun _ => ⟨rfl, fun z => absurd X.2.2.1 z, fun _ => ⟨⟨_, rfl⟩, s_stepX TK hi X (fun st' F Y => h1 e st' F Y)⟩⟩, fun z => absurd z (by decide)⟩) (fun e => ⟨fun z => absurd rfl z, fun _ => ⟨⟨_, rfl⟩, s_wrong X 1 (fun st' F E => ?_)⟩⟩)⟩⟩
  exact ⟨rfl, fun _ => h0 e st' F E, fun z => absurd z (E.ne (by decide))⟩
theorem s_isNum (TK : Tks T n τ) (hr : isRu r) {st : St} {i len : Nat} {row : Nat → Int32} (hi : i ≤ n) (hl : len ≤ 700) (X : CX T n τ r kv st i len row) {post : Int32 → St → Prop} (h1 : tK (τ i) = 2 → tL (τ i) = false → post 1 st) (h2 : tK (τ i) = 2 → tL (τ i) = true → ∀ st', CWf r st st' → CE r st' 2 (tB (τ i)) → post 0 st') (h3 : tK (τ i) ≠ 2 → ∀ st', CWf r st st' → CE r st' 1 (tB (τ i)) → post 0 st') : P_X4_isNumber 34 st post := by
  obtain ⟨N1, N2, N3, N4, N5, N6, N7, N8, N9, N10, N11⟩ := (TK.2 i hi).1
  have e3 := X.2.1.2.1
  have e6 := X.2.1.2.2.2.2.1
  refine ⟨35, rfl, rfl, fun z => ⟨35, rfl, rfl, fun y => ?_, fun y => ⟨⟨_, rfl⟩, rfl, fun _ => ⟨Or.inl rfl, ?_⟩, fun z => absurd rfl z⟩⟩, fun z => ⟨⟨_, rfl⟩, rfl, Or.inl rfl, ?_⟩⟩
  · have k2 : tK (τ i) = 2 := by rw [e3] at z; exact (iN_eq (b := 2) (by omega) (by decide)).mp z
    have l0 : tL (τ i) = false := by
      cases hL : tL (τ i) with
      | false => rfl
      | true => rw [e6, hL, if_pos rfl] at y; exact absurd y (by decide)
    exact ⟨Or.inr rfl, h1 k2 l0⟩
  · have k2 : tK (τ i) = 2 := by rw [e3] at z; exact (iN_eq (b := 2) (by omega) (by decide)).mp z
    have l1 : tL (τ i) = true := by
      cases hL : tL (τ i) with
      | false => rw [e6, hL] at y; exact absurd rfl y
      | true => rfl
    obtain ⟨F, E⟩ := X.er hr hl 2
    exact h2 k2 l1 _ F E
  · have k2 : tK (τ i) ≠ 2 := fun e => z (by rw [e3, e]; rfl)
    obtain ⟨F, E⟩ := X.er hr hl 1
    exact h3 k2 _ F E
theorem s_numNow (TK : Tks T n τ) {st : St} {i len : Nat} {row : Nat → Int32} (hi : i ≤ n) (X : MX T n τ mo st i len row) {a b : Nat} (ha : a < 100000) (hb : b < 100000) {post : Int32 → St → Prop} (h1 : tK (τ i) = 2 → tL (τ i) = false → a ≤ tN (τ i) → tN (τ i) ≤ b → post (iN (tN (τ i))) st) (h2 : tK (τ i) = 2 → (tL (τ i) = true ∨ ¬ (a ≤ tN (τ i) ∧ tN (τ i) ≤ b)) → ∀ st', MWf mo st st' → ME st' 2 (tB (τ i)) → post 0 st') (h3 : tK (τ i) ≠ 2 → ∀ st', MWf mo st st' → ME st' 1 (tB (τ i)) → post 0 st') : P_X12_numberNow 58 (iN a) (iN b) st post := by
  obtain ⟨N1, N2, N3, N4, N5, N6, N7, N8, N9, N10, N11⟩ := (TK.2 i hi).1
  have n7 := TK.1
  obtain ⟨x1, ⟨t17, t19, t21, t22, t20⟩, x3, x4⟩ := X
  have X : MX T n τ mo st i len row := ⟨x1, ⟨t17, t19, t21, t22, t20⟩, x3, x4⟩
  have ed : iN (tE (τ i)) - iN (tB (τ i)) = iN (tE (τ i) - tB (τ i)) := by
    have : iN (tE (τ i)) = iN (tE (τ i) - tB (τ i)) + iN (tB (τ i)) := by rw [← iN_add]; congr 1; omega
    rw [this]; exact Int32.add_sub_cancel _ _
  have bad : ∀ k, (0 < k ∧ k < 10) → (∀ st', MWf mo st st' → ME st' k (tB (τ i)) → post 0 st') → P_X12_wrong 58 (iN k) st (fun s2 => P_X12_numberNow_59 58 (iN a) (iN b) post s2) := fun k hk h => s_wrong X k (fun st' F E => ⟨rfl, fun _ => h st' F E, fun z => absurd z (E.ne hk)⟩)
  unfold P_X12_numberNow
  rw [x3, t19, t22, t21, ed]
  refine ⟨rfl, fun _ => ⟨rfl, fun z => ⟨rfl, rfl, fun y => ⟨⟨_, rfl⟩, bad 2 (by decide) ?_⟩, fun y => ⟨rfl, ?_⟩⟩, fun z => ⟨⟨_, rfl⟩, bad 1 (by decide) (h3 (fun e => z (by rw [e]; rfl)))⟩⟩, fun z => absurd rfl z⟩
  · have k2 : tK (τ i) = 2 := (iN_eq (b := 2) (by omega) (by decide)).mp z
    have y : iN 4 < iN (tE (τ i) - tB (τ i)) := y
    rw [iN_lt (by omega) (by omega)] at y
    exact h2 k2 (Or.inl (N10.mpr ⟨k2, y⟩))
  · have k2 : tK (τ i) = 2 := (iN_eq (b := 2) (by omega) (by decide)).mp z
    have y : ¬ iN 4 < iN (tE (τ i) - tB (τ i)) := y
    rw [iN_lt (by omega) (by omega)] at y
    have l0 : tL (τ i) = false := by
      cases hL : tL (τ i) with
      | false => rfl
      | true => exact absurd (N10.mp hL).2 y
    rw [t20 k2 l0]
    refine ⟨fun u => ⟨⟨_, rfl⟩, bad 2 (by decide) (h2 k2 (Or.inr ?_))⟩, fun u => ⟨rfl, fun v => ⟨rfl, fun q => absurd x3 q, fun _ => ⟨rfl, ?_⟩⟩, fun v => ⟨⟨_, rfl⟩, bad 2 (by decide) (h2 k2 (Or.inr ?_))⟩⟩⟩
    · rw [iN_lt (by omega) (by omega)] at u; omega
    · rw [iN_lt (by omega) (by omega)] at u
      rw [iN_le (by omega) (by omega)] at v
      show post (gI st 58 20) st
      rw [t20 k2 l0]
      exact h1 k2 l0 (by omega) v
    · rw [iN_le (by omega) (by omega)] at v; omega
theorem s_readNum (TK : Tks T n τ) {st : St} {i len : Nat} {row : Nat → Int32} (hi : i ≤ n) (X : MX T n τ mo st i len row) {a b : Nat} (ha : a < 100000) (hb : b < 100000) {post : Int32 → St → Prop} (h1 : tK (τ i) = 2 → tL (τ i) = false → a ≤ tN (τ i) → tN (τ i) ≤ b → ∀ st', MWf mo st st' → MX T n τ mo st' (tE (τ i)) len row → post (iN (tN (τ i))) st') (h2 : tK (τ i) = 2 → (tL (τ i) = true ∨ ¬ (a ≤ tN (τ i) ∧ tN (τ i) ≤ b)) → ∀ st', MWf mo st st' → ME st' 2 (tB (τ i)) → post 0 st') (h3 : tK (τ i) ≠ 2 → ∀ st', MWf mo st st' → ME st' 1 (tB (τ i)) → post 0 st') : P_X12_readNumber 58 (iN a) (iN b) st post :=
  ⟨⟨_, rfl⟩, s_numNow TK hi X ha hb (fun k1 k2 k3 k4 => ⟨rfl, fun z => absurd X.2.2.1 z, fun _ => ⟨⟨_, rfl⟩, s_stepX TK hi X (fun st' F Y => h1 k1 k2 k3 k4 st' F Y)⟩⟩) (fun k1 k2 st' F E => ⟨rfl, fun _ => h2 k1 k2 st' F E, fun z => absurd z (E.ne (by decide))⟩) (fun k1 st' F E => ⟨rfl, fun _ => h3 k1 st' F E, fun z => absurd z (E.ne (by decide))⟩)⟩
theorem va_w : ∀ w, w < 11 → vaL.getD w 0 = -1 := by decide
theorem va_v : ∀ v, v < 8 → vaL.getD (11 + v) 0 = iN v ∧ ¬ (iN v : Int32) = -1 := by decide
theorem cd_v : ∀ v, v < 8 → ¬ ((-1 : Int32) - iN v) < -8 ∧ ((-1 : Int32) - iN v) < 0 ∧ trC ((-1 : Int32) - iN v) = (-1 : Int32) - iN v ∧ ((-1 : Int32) - ((-1 : Int32) - iN v)).toNatClampNeg = v ∧ (-17 : Int32) ≤ (-1 : Int32) - iN v ∧ ¬ ((-1 : Int32) - iN v) = -11 := by decide
theorem m8 : (-8 : Int32).toInt = -8 := by decide
theorem cd_n {m : Nat} (hm : m ≤ 9999) : ¬ (iN m : Int32) < -8 ∧ ¬ (iN m : Int32) < 0 ∧ (-17 : Int32) ≤ iN m ∧ ¬ (iN m : Int32) = -11 := by
  refine ⟨fun z => ?_, fun z => ?_, ?_, fun z => ?_⟩
  · rw [Int32.lt_iff_toInt_lt, iN_toInt (by omega), m8] at z; omega
  · rw [lt0, iN_toInt (by omega)] at z; omega
  · rw [Int32.le_iff_toInt_le, iN_toInt (by omega), show (-17 : Int32).toInt = -17 by decide]; omega
  · have := congrArg Int32.toInt z
    rw [iN_toInt (by omega), show (-11 : Int32).toInt = -11 by decide] at this; omega
theorem dst_v {c : Int32} (h : ¬ c < -8) (D : Nat) : dst c D = D + 1 := by unfold dst; rw [if_neg h]
theorem okc_v {c : Int32} (h0 : (-17 : Int32) ≤ c) (h : ¬ c < -8) (h2 : ¬ c = -11) {D : Nat} (hD : D < 40) : okc c D := ⟨h0, fun _ => hD, fun z => absurd z h2, fun z => absurd z h⟩
variable {rc : Nat → Int32 → St → (Int32 → St → Prop) → Prop} {rcM : Nat → Int32 → St → (St → Prop) → Prop} {d : Nat}
set_option maxHeartbeats 2000000 in
theorem l_part (TK : Tks T n τ) (hr : isRu r) (hmo : mo < 2) (hA : wsA (60 + mo) 11 kv) (hN : ∀ (x : Int32) st (post : St → Prop), ¬ gI st 58 23 = 0 → post st → rcM 58 x st post)
    (hE : ∀ i len row D w, i ≤ n → len + w ≤ i → Wf kv row len D → D ≤ 5 * d + 5 → Res T n τ r kv mo True (rc 34 (iN (d + 1))) (rcM 58 (iN (d + 1))) (D + 1) w i len row)
    {D w i len : Nat} {row : Nat → Int32} (hi : i ≤ n) (hl : len + w ≤ i) (hW : Wf kv row len D) (hD : D ≤ 5 * d + 5) (hd : d ≤ 5) : Res T n τ r kv mo True (P_X4_readPart rc 34 (iN d)) (P_X12_readPart rcM 58 (iN d)) (D + 1) w i len row := by
  obtain ⟨N1, N2, N3, N4, N5, N6, N7, N8, N9, N10, N11⟩ := (TK.2 i hi).1
  have n7 := TK.1
  by_cases hp : tS (τ i) = 40
  · -- in brackets
    have k3 : tK (τ i) = 3 := by
      by_cases z : tK (τ i) = 3
      · exact z
      · rw [N9 z] at hp; exact absurd hp (by decide)
    have lt := N4 (by omega)
    have n2 : ¬ iN (tK (τ i)) = 2 := by rw [k3]; decide
    have n1 : ¬ iN (tK (τ i)) = 1 := by rw [k3]; decide
    have cl : ∀ st (post : Int32 → St → Prop), CX T n τ r kv st i len row → (∀ s3, CWf r st s3 → CX T n τ r kv s3 (tE (τ i)) len row → rc 34 (iN (d + 1)) s3 (fun z_22 st_23 => ((z_22 = 0 → P_X4_readPart_42 rc 34 (iN d) post st_23) ∧ (¬ z_22 = 0 → oC 34 4 ∧ P_X4_takeSign 34 41 st_23 (fun z_24 st_25 => ((z_24 = 0 → P_X4_readPart_42 rc 34 (iN d) post st_25) ∧ (¬ z_24 = 0 → P_X4_readPart_43 rc 34 (iN d) post 1 st_25))))))) → P_X4_readPart rc 34 (iN d) st post := fun st post X h => ⟨35, rfl, rfl, fun z => absurd (X.2.1.2.2.2.2.2.2.trans hp) z, fun _ => ⟨35, rfl, ⟨_, rfl⟩, s_advX TK hr hi X (fun s3 F3 X3 => ⟨⟨_, rfl⟩, by rw [iN_s]; exact h s3 F3 X3⟩)⟩⟩
    have ml : ∀ st (post : St → Prop), MX T n τ mo st i len row → (∀ s3, MWf mo st s3 → MX T n τ mo s3 (tE (τ i)) len row → rcM 58 (iN (d + 1)) s3 (fun s4 => oC 58 12 ∧ P_X12_mark 58 41 s4 (fun s6 => post s6))) → P_X12_readPart rcM 58 (iN d) st post := fun st post X h => ⟨rfl, fun _ => ⟨rfl, fun _ => ⟨rfl, fun _ => ⟨⟨_, rfl⟩, s_mark TK hi X (by decide) (fun _ s3 F3 X3 => ⟨⟨_, rfl⟩, by rw [iN_s]; exact h s3 F3 X3⟩) (fun z => absurd hp z)⟩, fun z => absurd (X.2.1.2.1.symm.trans z) n1⟩, fun z => absurd (X.2.1.2.1.symm.trans z) n2⟩, fun z => absurd X.2.2.1 z⟩
    rcases hE (tE (τ i)) len row D w N3 (by omega) hW (by omega) with ⟨i2, len2, row2, a1, a2, a3, a4, a5, a6, a7, a8⟩ | ⟨k, pl, b1, b2, b3, b4, b5⟩
    · obtain ⟨M1, M2, M3, M4, M5, M6, M7, M8, M9, M10, M11⟩ := (TK.2 i2 a3).1
      have a2 := a2 trivial
      by_cases hq : tS (τ i2) = 41
      · refine Or.inl ⟨tE (τ i2), len2, row2, by omega, fun _ => by omega, M3, by omega, a5, fun _ => Or.inr (Or.inr hp), fun st post X h => cl st post X (fun s3 F3 X3 => a7 s3 _ X3 (fun s4 F4 X4 => ⟨fun z => absurd z (by decide), fun _ => ⟨⟨_, rfl⟩, s_takeSign TK hr a3 (by omega) X4 (fun _ s5 F5 X5 => ⟨fun z => absurd z (by decide), fun _ => ⟨Or.inr rfl, h s5 ((F3.tr F4).tr F5) X5⟩⟩) (fun z => absurd hq z)⟩⟩)), fun st post X h => ml st post X (fun s3 F3 X3 => a8 s3 _ X3 (fun s4 F4 X4 => ⟨⟨_, rfl⟩, s_mark TK a3 X4 (by decide) (fun _ s5 F5 X5 => h s5 ((F3.tr F4).tr F5) X5) (fun z => absurd hq z)⟩))⟩
      · refine Or.inr ⟨1, tB (τ i2), by decide, by omega, fun _ z => absurd (Or.inr (Or.inr hp)) z, fun st post X h => cl st post X (fun s3 F3 X3 => a7 s3 _ X3 (fun s4 F4 X4 => ⟨fun z => absurd z (by decide), fun _ => ⟨⟨_, rfl⟩, s_takeSign TK hr a3 (by omega) X4 (fun z => absurd z hq) (fun _ s5 F5 X5 => ⟨fun _ => ⟨Or.inl rfl, h s5 ((F3.tr F4).tr F5) X5⟩, fun z => absurd rfl z⟩)⟩⟩)), fun st post X h => ml st post X (fun s3 F3 X3 => a8 s3 _ X3 (fun s4 F4 X4 => ⟨⟨_, rfl⟩, s_mark TK a3 X4 (by decide) (fun z => absurd z hq) (fun _ s5 F5 X5 => h s5 ((F3.tr F4).tr F5) X5)⟩))⟩
    · exact Or.inr ⟨k, pl, b1, b2, fun _ z => absurd (Or.inr (Or.inr hp)) z, fun st post X h => cl st post X (fun s3 F3 X3 => b4 s3 _ X3 (fun s4 F4 X4 => ⟨fun _ => ⟨Or.inl rfl, h s4 (F3.tr F4) X4⟩, fun z => absurd rfl z⟩)), fun st post X h => ml st post X (fun s3 F3 X3 => b5 s3 _ X3 (fun s4 F4 X4 => ⟨⟨_, rfl⟩, N_mark (X4.ne b1) (h s4 (F3.tr F4) X4)⟩))⟩
  · by_cases k1 : tK (τ i) = 1
    · -- a word
      have lt := N4 (by omega)
      have m2 : ¬ iN (tK (τ i)) = 2 := by rw [k1]; decide
      have hmay : may (τ i) := Or.inr (Or.inl k1)
      have k8 := hA.2.2.1
      have ml : ∀ st (post : St → Prop), MX T n τ mo st i len row → (∀ v, v < kv → tW (τ i) = some (1000 + (11 + v)) → P_X12_readPart_56 rcM 58 (iN d) post (iN v) st) → ((∀ v, v < kv → tW (τ i) ≠ some (1000 + (11 + v))) → ∀ st', MWf mo st st' → ME st' 3 (tB (τ i)) → post st') → P_X12_readPart rcM 58 (iN d) st post := fun st post X h1 h0 => ⟨rfl, fun _ => ⟨rfl, fun _ => ⟨rfl, fun z => absurd (X.2.1.2.1.trans (by rw [k1]; rfl)) z, fun _ => ⟨60 + mo, X.2.2.2.2.1, ⟨_, rfl⟩, s_which TK hi X hA (fun v hv e => ⟨fun _ => h1 v hv e, fun z => absurd z (iN_ne_m1 (by omega))⟩) (fun e => ⟨fun z => absurd rfl z, fun _ => ⟨⟨_, rfl⟩, s_wrong X 3 (fun st' F E => ⟨⟨_, rfl⟩, N_lay (E.ne (by decide)) ⟨rfl, fun _ => h0 e st' F E, fun z => absurd z (E.ne (by decide))⟩⟩)⟩⟩)⟩⟩, fun z => absurd (X.2.1.2.1.symm.trans z) m2⟩, fun z => absurd X.2.2.1 z⟩
      have cl : ∀ st (post : Int32 → St → Prop), CX T n τ r kv st i len row → P_X4_isValue 34 (gR st 35 7) st (fun z_10 st_11 => ((¬ z_10 = 0 → ∃ r_12, rv st_11 34 4 2 = some r_12 ∧ ∃ r_13, rv st_11 34 4 0 = some r_13 ∧ fk r_13 8 7 = some 1 ∧ ∃ i_14, (gR st_11 r_13 7) = some i_14 ∧ enOk i_14 ∧ oC r_12 5 ∧ P_X5_add r_12 ((-1) - (vaL.getD (i_14 - 1000) 0)) st_11 (fun st_16 => P_X4_readPart_120 rc 34 (iN d) post st_16)) ∧ (z_10 = 0 → oC 34 4 ∧ P_X4_refuseToken 34 3 st_11 (fun z_17 st_18 => (z_17 = 0 ∨ z_17 = 1) ∧ post z_17 st_18)))) → P_X4_readPart rc 34 (iN d) st post := fun st post X h => ⟨35, rfl, rfl, fun _ => ⟨35, rfl, rfl, fun z => absurd (X.2.1.2.1.trans (by rw [k1]; rfl)) z, fun _ => ⟨35, rfl, rfl, ⟨_, rfl⟩, h⟩⟩, fun z => absurd (X.2.1.2.2.2.2.2.2.symm.trans z) hp⟩
      by_cases hv : ∃ v, v < kv ∧ tW (τ i) = some (1000 + (11 + v))
      · obtain ⟨v, hv, ev⟩ := hv
        obtain ⟨c1, c2, c3, c4, c5, c6⟩ := cd_v v (by omega)
        obtain ⟨w1, w2⟩ := va_v v (by omega)
        have W2 := hW.push (c := (-1 : Int32) - iN v) (okc_v c5 c1 c6 (by omega)) (fun _ _ => by rw [c4]; exact hv)
        rw [dst_v c1] at W2
        refine Or.inl ⟨tE (τ i), len + 1, upd row len ((-1 : Int32) - iN v), by omega, fun _ => by omega, N3, by omega, W2, fun _ => hmay, fun st post X h => cl st post X ?_, fun st post X h => ml st post X (fun v2 hv2 e2 => ?_) (fun z => absurd ev (z v hv))⟩
        · have e7 : gR st 35 7 = some (1000 + (11 + v)) := X.2.1.2.2.2.2.2.1.trans ev
          have ew : vaL.getD (1000 + (11 + v) - 1000) 0 = iN v := by rw [show 1000 + (11 + v) - 1000 = 11 + v by omega]; exact w1
          have en : enOk (1000 + (11 + v)) := ⟨by omega, by omega⟩
          refine ⟨fun z => absurd (e7.symm.trans z) (by intro y; cases y), fun _ _ => ⟨_, e7, en, fun z => absurd (ew.symm.trans z) w2, fun _ => ⟨_, e7, en, rfl, fun z => ?_, fun _ => ⟨Or.inr rfl, fun _ => ⟨r, rv34 X.ru, 35, rfl, rfl, _, e7, en, ru_o hr, ?_⟩, fun z => absurd z (by decide)⟩⟩⟩⟩
          · rw [X.2.2.2.1, ew, iN_le (by omega) (by omega)] at z; omega
          · rw [ew]
            exact s_addX hr X (by omega) _ (fun s5 F5 X5 => ⟨35, rfl, ⟨_, rfl⟩, s_advX TK hr hi X5 (fun s6 F6 X6 => h s6 (F5.tr F6) X6)⟩)
        · have e9 : v2 = v := by
            rw [ev] at e2
            have e3 := Option.some.inj e2
            omega
          subst e9
          refine ⟨⟨_, rfl⟩, ?_⟩
          have K := s_layX hmo X (show len < 700 by omega) ((-1 : Int32) - iN v2) (post := fun s4 => fk 58 12 23 = some 0 ∧ ((¬ (gI s4 58 23) = 0 → P_X12_readPart_74 rcM 58 (iN d) post s4) ∧ ((gI s4 58 23) = 0 → oC 58 12 ∧ P_X12_stepOn 58 s4 (fun s5 => P_X12_readPart_74 rcM 58 (iN d) post s5)))) (fun s4 F4 X4 => ⟨rfl, fun z => absurd X4.2.2.1 z, fun _ => ⟨⟨_, rfl⟩, s_stepX TK hi X4 (fun s5 F5 X5 => h s5 (F4.tr F5) X5)⟩⟩)
          rw [c3] at K
          exact K
      · refine Or.inr ⟨3, tB (τ i), by decide, by omega, fun _ z => absurd hmay z, fun st post X h => cl st post X ?_, fun st post X h => ml st post X (fun v2 hv2 e2 => absurd ⟨v2, hv2, e2⟩ hv) (fun _ => h)⟩
        have e7 := X.2.1.2.2.2.2.2.1
        obtain ⟨F, E⟩ := X.er hr (show len ≤ 700 by omega) 3
        have no : P_X4_isValue_27 34 (gR st 35 7) (fun z_10 st_11 => ((¬ z_10 = 0 → ∃ r_12, rv st_11 34 4 2 = some r_12 ∧ ∃ r_13, rv st_11 34 4 0 = some r_13 ∧ fk r_13 8 7 = some 1 ∧ ∃ i_14, (gR st_11 r_13 7) = some i_14 ∧ enOk i_14 ∧ oC r_12 5 ∧ P_X5_add r_12 ((-1) - (vaL.getD (i_14 - 1000) 0)) st_11 (fun st_16 => P_X4_readPart_120 rc 34 (iN d) post st_16)) ∧ (z_10 = 0 → oC 34 4 ∧ P_X4_refuseToken 34 3 st_11 (fun z_17 st_18 => (z_17 = 0 ∨ z_17 = 1) ∧ post z_17 st_18)))) st := ⟨Or.inl rfl, fun z => absurd rfl z, fun _ => ⟨⟨_, rfl⟩, rfl, Or.inl rfl, h _ F E⟩⟩
        refine ⟨fun _ => no, fun i9 e9 => ?_⟩
        rcases N6 with y | ⟨w', hw', y⟩
        · rw [e7, y] at e9; cases e9
        · have e10 : gR st 35 7 = some (1000 + w') := e7.trans y
          have en : enOk (1000 + w') := ⟨by omega, by omega⟩
          refine ⟨_, e10, en, fun _ => no, fun z => ⟨_, e10, en, rfl, fun _ => no, fun u => ?_⟩⟩
          exfalso
          rw [show 1000 + w' - 1000 = w' by omega] at z u
          by_cases h11 : w' < 11
          · exact z (va_w w' h11)
          · have ew : w' = 11 + (w' - 11) := by omega
            have hv8 : w' - 11 < 8 := by omega
            rw [ew, (va_v _ hv8).1, X.2.2.2.1, iN_le (by omega) (by omega)] at u
            exact hv ⟨w' - 11, by omega, by rw [← ew]; exact y⟩
    · -- a number, or nothing that may stand here
      have cl : ∀ st (post : Int32 → St → Prop), CX T n τ r kv st i len row → P_X4_isNumber 34 st (fun z_3 st_4 => ((¬ z_3 = 0 → ∃ r_5, rv st_4 34 4 2 = some r_5 ∧ ∃ r_6, rv st_4 34 4 0 = some r_6 ∧ fk r_6 8 5 = some 0 ∧ oC r_5 5 ∧ P_X5_add r_5 (gI st_4 r_6 5) st_4 (fun st_8 => P_X4_readPart_120 rc 34 (iN d) post st_8)) ∧ (z_3 = 0 → post 0 st_4))) → P_X4_readPart rc 34 (iN d) st post := fun st post X h => ⟨35, rfl, rfl, fun _ => ⟨35, rfl, rfl, fun _ => ⟨⟨_, rfl⟩, h⟩, fun z => absurd ((iN_eq (b := 1) (by omega) (by decide)).mp (X.2.1.2.1.symm.trans z)) k1⟩, fun z => absurd (X.2.1.2.2.2.2.2.2.symm.trans z) hp⟩
      by_cases k2 : tK (τ i) = 2
      · have lt := N4 (by omega)
        have hmay : may (τ i) := Or.inl k2
        have ml : ∀ st (post : St → Prop), MX T n τ mo st i len row → P_X12_readNumber 58 0 9999 st (fun z_12 st_13 => oC 58 12 ∧ P_X12_lay 58 z_12 st_13 (fun st_15 => post st_15)) → P_X12_readPart rcM 58 (iN d) st post := fun st post X h => ⟨rfl, fun _ => ⟨rfl, fun z => absurd (X.2.1.2.1.trans (by rw [k2]; rfl)) z, fun _ => ⟨⟨_, rfl⟩, h⟩⟩, fun z => absurd X.2.2.1 z⟩
        cases hL : tL (τ i) with
        | false =>
          obtain ⟨c1, c2, c3, c4⟩ := cd_n N11
          have W2 := hW.push (c := iN (tN (τ i))) (okc_v c3 c1 c4 (by omega)) (fun _ z => absurd z c2)
          rw [dst_v c1] at W2
          refine Or.inl ⟨tE (τ i), len + 1, upd row len (iN (tN (τ i))), by omega, fun _ => by omega, N3, by omega, W2, fun _ => hmay, fun st post X h => cl st post X (s_isNum TK hr hi (by omega) X (fun _ _ => ⟨fun _ => ⟨r, rv34 X.ru, 35, rfl, rfl, ru_o hr, ?_⟩, fun z => absurd z (by decide)⟩) (fun _ z => absurd (hL.symm.trans z) (by decide)) (fun z => absurd k2 z)), fun st post X h => ml st post X (s_readNum (a := 0) (b := 9999) TK hi X (by decide) (by decide) (fun _ _ _ _ s4 F4 X4 => ⟨⟨_, rfl⟩, ?_⟩) (fun _ z => ?_) (fun z => absurd k2 z))⟩
          · rw [X.2.1.2.2.2.1]
            exact s_addX hr X (by omega) _ (fun s5 F5 X5 => ⟨35, rfl, ⟨_, rfl⟩, s_advX TK hr hi X5 (fun s6 F6 X6 => h s6 (F5.tr F6) X6)⟩)
          · have K := s_layX hmo X4 (show len < 700 by omega) (iN (tN (τ i))) (post := post) (fun s5 F5 X5 => h s5 (F4.tr F5) X5)
            rw [tr_val c1] at K
            exact K
          · rcases z with z | z
            · exact absurd (hL.symm.trans z) (by decide)
            · exact absurd ⟨Nat.zero_le _, N11⟩ z
        | true =>
          exact Or.inr ⟨2, tB (τ i), by decide, by omega, fun _ z => absurd hmay z, fun st post X h => cl st post X (s_isNum TK hr hi (by omega) X (fun _ z => absurd (hL.symm.trans z) (by decide)) (fun _ _ s4 F4 X4 => ⟨fun z => absurd rfl z, fun _ => h s4 F4 X4⟩) (fun z => absurd k2 z)), fun st post X h => ml st post X (s_readNum (a := 0) (b := 9999) TK hi X (by decide) (by decide) (fun _ z => absurd (hL.symm.trans z) (by decide)) (fun _ _ s4 F4 X4 => ⟨⟨_, rfl⟩, N_lay (X4.ne (by decide)) (h s4 F4 X4)⟩) (fun z => absurd k2 z))⟩
      · have hnm : ¬ may (τ i) := fun z => z.elim k2 (fun y => y.elim k1 hp)
        exact Or.inr ⟨1, tB (τ i), by decide, by omega, fun _ _ => ⟨rfl, rfl⟩, fun st post X h => cl st post X (s_isNum TK hr hi (by omega) X (fun z => absurd z k2) (fun z => absurd z k2) (fun _ s4 F4 X4 => ⟨fun z => absurd rfl z, fun _ => h s4 F4 X4⟩)), fun st post X h => ⟨rfl, fun _ => ⟨rfl, fun _ => ⟨rfl, fun _ => ⟨⟨_, rfl⟩, s_mark TK hi X (by decide) (fun z => absurd z hp) (fun _ s4 F4 X4 => ⟨⟨_, rfl⟩, hN _ s4 _ (X4.ne (by decide)) ⟨⟨_, rfl⟩, N_mark (X4.ne (by decide)) (h s4 F4 X4)⟩⟩)⟩, fun z => absurd ((iN_eq (b := 1) (by omega) (by decide)).mp (X.2.1.2.1.symm.trans z)) k1⟩, fun z => absurd ((iN_eq (b := 2) (by omega) (by decide)).mp (X.2.1.2.1.symm.trans z)) k2⟩, fun z => absurd X.2.2.1 z⟩⟩
end P2
