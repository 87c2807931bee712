/-! PURE: tests, nots, whole expressions -/
section P3
variable {T : Nat → Int32} {n : Nat} {τ : Nat → Tok} {r kv mo : Nat}
variable {rc : Nat → Int32 → St → (Int32 → St → Prop) → Prop} {rcM : Nat → Int32 → St → (St → Prop) → Prop} {d : Int32}
def Q2t (rcM : Nat → Int32 → St → (St → Prop) → Prop) (d : Int32) (K : St → Prop) (s : Int32) (st : St) : Prop := oC 58 12 ∧ P_X12_stepOn 58 st (fun s2 => oC 58 12 ∧ P_X12_readSum rcM 58 d s2 (fun s4 => oC 58 12 ∧ P_X12_lay 58 s s4 (fun s6 => K s6)))
def Qt (rcM : Nat → Int32 → St → (St → Prop) → Prop) (d : Int32) (K : St → Prop) (st : St) : Prop := oC 58 12 ∧ P_X12_isMarked 58 60 st (fun z s2 => (z = 0 → Q2t rcM d K (-25) s2) ∧ (¬ z = 0 → Q2t rcM d K (-24) s2))
def PMt (rcM : Nat → Int32 → St → (St → Prop) → Prop) (d : Int32) (st : St) (K : St → Prop) : Prop := oC 58 12 ∧ P_X12_readSum rcM 58 d st (fun s4 => oC 58 12 ∧ P_X12_isMarked 58 60 s4 (fun z5 s6 => (¬ z5 = 0 → Qt rcM d K s6) ∧ (z5 = 0 → oC 58 12 ∧ P_X12_isMarked 58 61 s6 (fun z7 s8 => (z7 = 0 → K s8) ∧ (¬ z7 = 0 → Qt rcM d K s8)))))
theorem l_test (TK : Tks T n τ) (hr : isRu r) (hmo : mo < 2) {B : Nat} (hB : B < 39) (hO : ∀ i len row D w, i ≤ n → len + w ≤ i → Wf kv row len D → D ≤ B + 1 → Res T n τ r kv mo True (P_X4_readSum rc 34 d) (P_X12_readSum rcM 58 d) (D + 1) w i len row) {D w i len : Nat} {row : Nat → Int32} (hi : i ≤ n) (hl : len + w ≤ i) (hW : Wf kv row len D) (hD : D ≤ B) : Res T n τ r kv mo True (P_X4_readTest rc 34 d) (PMt rcM d) (D + 1) w i len row := by
  have n7 := TK.1
  rcases hO i len row D w hi hl hW (by omega) with ⟨i2, len2, row2, a1, a2, a3, a4, a5, a6, a7, a8⟩ | ⟨k, pl, b1, b2, b3, b4, b5⟩
  · have a2 := a2 trivial
    obtain ⟨N1, N2, N3, N4, N5, N6, N7, N8, N9, N10, N11⟩ := (TK.2 i2 a3).1
    by_cases hs : tS (τ i2) = 60 ∨ tS (τ i2) = 61
    · -- one more sum
      have hk : tK (τ i2) ≠ 0 := by
        intro z
        have e := N9 (by omega)
        rcases hs with y | y
        · rw [e] at y; exact absurd y (by decide)
        · rw [e] at y; exact absurd y (by decide)
      have lt := N4 hk
      have hcc : ∃ c : Int32, (tS (τ i2) = 60 → c = -12) ∧ (tS (τ i2) ≠ 60 → c = -13) ∧ (-17 : Int32) ≤ c ∧ c < -8 ∧ c ≠ -11 := by
        by_cases h6 : tS (τ i2) = 60
        · exact ⟨-12, fun _ => rfl, fun z => absurd h6 z, by decide, by decide, by decide⟩
        · exact ⟨-13, fun z => absurd z h6, fun _ => rfl, by decide, by decide, by decide⟩
      obtain ⟨c, hc1, hc2, q2, q3, q4⟩ := hcc
      have cl : ∀ st (post : Int32 → St → Prop), CX T n τ r kv st i2 len2 row2 → P_X8_advance 35 st (fun s3 => oC 34 4 ∧ P_X4_readSum rc 34 d s3 (fun z s5 => ∃ r6, rv s5 34 4 2 = some r6 ∧ oC r6 5 ∧ P_X5_add r6 c s5 (fun s8 => (z = 0 ∨ z = 1) ∧ post z s8))) → ∃ r_3, rv st 34 4 0 = some r_3 ∧ fk r_3 8 8 = some 0 ∧ (((gI st r_3 8) = 60 → P_X4_readTest_32 rc 34 d post (gI st r_3 8) st) ∧ (¬ (gI st r_3 8) = 60 → (((gI st r_3 8) = 61 → P_X4_readTest_32 rc 34 d post (gI st r_3 8) st) ∧ (¬ (gI st r_3 8) = 61 → post 1 st)))) := by
        intro st post X h
        have e8 := X.2.1.2.2.2.2.2.2
        have K : P_X4_readTest_32 rc 34 d post (gI st 35 8) st := by
          refine ⟨35, rfl, ⟨_, rfl⟩, ?_⟩
          rw [e8]
          have eP : (fun s3 => oC 34 4 ∧ P_X4_readSum rc 34 d s3 (fun z s5 => ∃ r6, rv s5 34 4 2 = some r6 ∧ oC r6 5 ∧ P_X5_add r6 c s5 (fun s8 => (z = 0 ∨ z = 1) ∧ post z s8))) = (fun s3 => oC 34 4 ∧ P_X4_readSum rc 34 d s3 (fun z_4 st_5 => ∃ r_6, rv st_5 34 4 2 = some r_6 ∧ ((¬ tS (τ i2) = 60 → P_X4_readTest_62 rc 34 d post z_4 (-13) r_6 st_5) ∧ (tS (τ i2) = 60 → P_X4_readTest_62 rc 34 d post z_4 (-12) r_6 st_5)))) := by
            funext s3
            congr 2
            funext z s5
            apply propext
            constructor
            · rintro ⟨r6, y1, y2, y3⟩
              refine ⟨r6, y1, fun u => ?_, fun u => ?_⟩
              · rw [hc2 u] at y3; exact ⟨y2, y3⟩
              · rw [hc1 u] at y3; exact ⟨y2, y3⟩
            · rintro ⟨r6, y1, y2, y3⟩
              by_cases h6 : tS (τ i2) = 60
              · obtain ⟨u1, u2⟩ := y3 h6
                rw [hc1 h6]; exact ⟨r6, y1, u1, u2⟩
              · obtain ⟨u1, u2⟩ := y2 h6
                rw [hc2 h6]; exact ⟨r6, y1, u1, u2⟩
          rw [eP] at h
          exact h
        exact ⟨35, rfl, rfl, fun _ => K, fun z => ⟨fun _ => K, fun y => absurd (hs.resolve_left (fun u => z (e8.trans u))) (fun u => y (e8.trans u))⟩⟩
      have ml : ∀ st (K : St → Prop), MX T n τ mo st i2 len2 row2 → P_X12_stepOn 58 st (fun s2 => oC 58 12 ∧ P_X12_readSum rcM 58 d s2 (fun s4 => oC 58 12 ∧ P_X12_lay 58 (trC c) s4 (fun s6 => K s6))) → oC 58 12 ∧ P_X12_isMarked 58 60 st (fun z5 s6 => (¬ z5 = 0 → Qt rcM d K s6) ∧ (z5 = 0 → oC 58 12 ∧ P_X12_isMarked 58 61 s6 (fun z7 s8 => (z7 = 0 → K s8) ∧ (¬ z7 = 0 → Qt rcM d K s8)))) := by
        intro st K X h
        have Q : Qt rcM d K st := ⟨⟨_, rfl⟩, s_mkd TK a3 X (by decide) (fun e => ⟨fun z => absurd z (by decide), fun _ => ⟨⟨_, rfl⟩, by rw [hc1 e] at h; exact h⟩⟩) (fun e => ⟨fun _ => ⟨⟨_, rfl⟩, by rw [hc2 e] at h; exact h⟩, fun z => absurd rfl z⟩)⟩
        exact ⟨⟨_, rfl⟩, s_mkd TK a3 X (by decide) (fun _ => ⟨fun _ => Q, fun z => absurd z (by decide)⟩) (fun e => ⟨fun z => absurd rfl z, fun _ => ⟨⟨_, rfl⟩, s_mkd TK a3 X (by decide) (fun _ => ⟨fun z => absurd z (by decide), fun _ => Q⟩) (fun e2 => absurd (hs.resolve_left e) e2)⟩⟩)⟩
      have hcD : okc c (D + 2) := ⟨q2, fun z => absurd q3 z, fun z => absurd z q4, fun _ _ => by omega⟩
      have hdst : dst c (D + 2) = D + 1 := by unfold dst; rw [if_pos q3, if_neg q4]; rfl
      rcases hO (tE (τ i2)) len2 row2 (D + 1) (w + 1) N3 (by omega) a5 (by omega) with ⟨i3, len3, row3, c1, c2, c3, c4, c5, c6, c7, c8⟩ | ⟨k, pl, d1, d2, d3, d4, d5⟩
      · have c2 := c2 trivial
        have W3 := c5.push (c := c) hcD (fun z => absurd q3 z)
        rw [hdst] at W3
        refine Or.inl ⟨i3, len3 + 1, upd row3 len3 c, by omega, fun _ => by omega, c3, by omega, W3, a6, fun st post X h => ⟨⟨_, rfl⟩, a7 st _ X (fun s2 F2 X2 => ⟨fun _ => cl s2 post X2 (s_advX TK hr a3 X2 (fun s3 F3 X3 => ⟨⟨_, rfl⟩, c7 s3 _ X3 (fun s5 F5 X5 => ⟨r, rv34 X5.ru, ru_o hr, s_addX hr X5 (by omega) c (fun s8 F8 X8 => ⟨Or.inr rfl, h s8 (((F2.tr F3).tr F5).tr F8) X8⟩)⟩)⟩)), fun z => absurd z (by decide)⟩)⟩, fun st K X h => ⟨⟨_, rfl⟩, a8 st _ X (fun s2 F2 X2 => ml s2 K X2 (s_stepX TK a3 X2 (fun s3 F3 X3 => ⟨⟨_, rfl⟩, c8 s3 _ X3 (fun s5 F5 X5 => ⟨⟨_, rfl⟩, s_layX hmo X5 (by omega) c (fun s8 F8 X8 => h s8 (((F2.tr F3).tr F5).tr F8) X8)⟩)⟩)))⟩⟩
      · refine Or.inr ⟨k, pl, d1, d2, fun _ z => absurd (a6 trivial) z, fun st post X h => ⟨⟨_, rfl⟩, a7 st _ X (fun s2 F2 X2 => ⟨fun _ => cl s2 post X2 (s_advX TK hr a3 X2 (fun s3 F3 X3 => ⟨⟨_, rfl⟩, d4 s3 _ X3 (fun s5 F5 X5 => ⟨r, rv34 X5.1, ru_o hr, s_addE hr X5 c (fun s8 F8 X8 => ⟨Or.inl rfl, h s8 (((F2.tr F3).tr F5).tr F8) X8⟩)⟩)⟩)), fun z => absurd z (by decide)⟩)⟩, fun st K X h => ⟨⟨_, rfl⟩, a8 st _ X (fun s2 F2 X2 => ml s2 K X2 (s_stepX TK a3 X2 (fun s3 F3 X3 => ⟨⟨_, rfl⟩, d5 s3 _ X3 (fun s5 F5 X5 => ⟨⟨_, rfl⟩, N_lay (X5.ne d1) (h s5 ((F2.tr F3).tr F5) X5)⟩)⟩)))⟩⟩
    · have n60 : tS (τ i2) ≠ 60 := fun z => hs (Or.inl z)
      have n61 : tS (τ i2) ≠ 61 := fun z => hs (Or.inr z)
      exact Or.inl ⟨i2, len2, row2, a1, fun _ => a2, a3, a4, a5, a6, fun st post X h => ⟨⟨_, rfl⟩, a7 st _ X (fun s2 F2 X2 => ⟨fun _ => ⟨35, rfl, rfl, fun z => absurd (X2.2.1.2.2.2.2.2.2.symm.trans z) n60, fun _ => ⟨fun z => absurd (X2.2.1.2.2.2.2.2.2.symm.trans z) n61, fun _ => h s2 F2 X2⟩⟩, fun z => absurd z (by decide)⟩)⟩, fun st K X h => ⟨⟨_, rfl⟩, a8 st _ X (fun s2 F2 X2 => ⟨⟨_, rfl⟩, s_mkd TK a3 X2 (by decide) (fun z => absurd z n60) (fun _ => ⟨fun z => absurd rfl z, fun _ => ⟨⟨_, rfl⟩, s_mkd TK a3 X2 (by decide) (fun z => absurd z n61) (fun _ => ⟨fun _ => h s2 F2 X2, fun z => absurd rfl z⟩)⟩⟩)⟩)⟩⟩
  · exact Or.inr ⟨k, pl, b1, b2, b3, fun st post X h => ⟨⟨_, rfl⟩, b4 st _ X (fun s2 F2 X2 => ⟨fun z => absurd rfl z, fun _ => h s2 F2 X2⟩)⟩, fun st K X h => ⟨⟨_, rfl⟩, b5 st _ X (fun s2 F2 X2 => ⟨⟨_, rfl⟩, N_mkd (X2.ne b1) ⟨fun z => absurd rfl z, fun _ => ⟨⟨_, rfl⟩, N_mkd (X2.ne b1) ⟨fun _ => h s2 F2 X2, fun z => absurd rfl z⟩⟩⟩⟩)⟩⟩
/-! nots -/
def ntR (row : Nat → Int32) (len : Nat) : Nat → (Nat → Int32)
  | 0 => row
  | j + 1 => upd (ntR row len j) (len + j) (-11)
theorem Wf.nots {row : Nat → Int32} {len D : Nat} (h : Wf kv row len (D + 1)) : ∀ a, Wf kv (ntR row len a) (len + a) (D + 1) := by
  intro a
  induction a with
  | zero => exact h
  | succ a ih =>
    have := ih.push (c := -11) ⟨by decide, fun z => absurd (by decide) z, fun _ => by omega, fun _ z => absurd rfl z⟩ (fun z => absurd (by decide) z)
    have e : dst (-11) (D + 1) = D + 1 := by unfold dst; rw [if_pos (by decide), if_pos rfl]
    rw [e] at this
    exact this
theorem notsC (hr : isRu r) {a i len : Nat} {row : Nat → Int32} (ha : a < 100) (hl : len + a ≤ 700) {st : St} (X : CX T n τ r kv st i len row) {post : Int32 → St → Prop} (h : ∀ st', CWf r st st' → CX T n τ r kv st' i (len + a) (ntR row len a) → post 1 st') : ∃ n8, P_X4_readNot_62 rc 34 d post n8 (iN a) 1 0 st := by
  refine ⟨a + 1, loop_up (α := Unit) (P := fun m k _ st => P_X4_readNot_62 rc 34 d post m (iN a) 1 k st) (N := a) (fun k _ st' => CWf r st st' ∧ CX T n τ r kv st' i (len + k) (ntR row len k)) ?_ ?_ a 0 () st (by omega) ⟨CWf.rf, X⟩⟩
  · rintro k hk _ st' m ⟨F, Y⟩ ih
    show P_X4_readNot_62 rc 34 d post (m + 1) (iN a) 1 (iN k) st'
    unfold P_X4_readNot_62
    refine ⟨fun hz => absurd hz (nle (by omega) hk), fun _ => ⟨r, rv34 Y.ru, ru_o hr, s_addX hr Y (by omega) (-11) (fun s8 F8 X8 => ?_)⟩⟩
    rw [iN_s]
    exact ih () s8 ⟨F.tr F8, X8⟩
  · rintro _ st' m ⟨F, Y⟩
    show P_X4_readNot_62 rc 34 d post (m + 1) (iN a) 1 (iN a) st'
    unfold P_X4_readNot_62
    exact ⟨fun _ => ⟨Or.inr rfl, h st' F Y⟩, fun hz => absurd (Int32.le_refl _) hz⟩
theorem notsE (hr : isRu r) {a k pl : Nat} (ha : a < 100) {st : St} (X : CE r st k pl) {post : Int32 → St → Prop} (h : ∀ st', CWf r st st' → CE r st' k pl → post 0 st') : ∃ n8, P_X4_readNot_62 rc 34 d post n8 (iN a) 0 0 st := by
  refine ⟨a + 1, loop_up (α := Unit) (P := fun m k _ st => P_X4_readNot_62 rc 34 d post m (iN a) 0 k st) (N := a) (fun _ _ st' => CWf r st st' ∧ CE r st' k pl) ?_ ?_ a 0 () st (by omega) ⟨CWf.rf, X⟩⟩
  · rintro j hj _ st' m ⟨F, Y⟩ ih
    show P_X4_readNot_62 rc 34 d post (m + 1) (iN a) 0 (iN j) st'
    unfold P_X4_readNot_62
    refine ⟨fun hz => absurd hz (nle (by omega) hj), fun _ => ⟨r, rv34 Y.1, ru_o hr, s_addE hr Y (-11) (fun s8 F8 X8 => ?_)⟩⟩
    rw [iN_s]
    exact ih () s8 ⟨F.tr F8, X8⟩
  · rintro _ st' m ⟨F, Y⟩
    show P_X4_readNot_62 rc 34 d post (m + 1) (iN a) 0 (iN a) st'
    unfold P_X4_readNot_62
    exact ⟨fun _ => ⟨Or.inl rfl, h st' F Y⟩, fun hz => absurd (Int32.le_refl _) hz⟩
theorem notsM (hmo : mo < 2) {a i len : Nat} {row : Nat → Int32} (ha : a < 100) (hl : len + a ≤ 700) {st : St} (X : MX T n τ mo st i len row) {post : St → Prop} (h : ∀ st', MWf mo st st' → MX T n τ mo st' i (len + a) (ntR row len a) → post st') : P_X12_readNot_94 rcM 58 d post (iN a) st := by
  refine ⟨a + 1, loop_up (α := Unit) (P := fun m k _ st => P_X12_readNot_96 rcM 58 d post m (iN a) k st) (N := a) (fun k _ st' => MWf mo st st' ∧ MX T n τ mo st' i (len + k) (ntR row len k)) ?_ ?_ a 0 () st (by omega) ⟨MWf.rf, X⟩⟩
  · rintro k hk _ st' m ⟨F, Y⟩ ih
    show P_X12_readNot_96 rcM 58 d post (m + 1) (iN a) (iN k) st'
    unfold P_X12_readNot_96
    refine ⟨fun hz => absurd hz (nle (by omega) hk), fun _ => ⟨⟨_, rfl⟩, ?_⟩⟩
    rw [iN_s]
    exact s_layX hmo Y (by omega) (-11) (fun s8 F8 X8 => ih () s8 ⟨F.tr F8, X8⟩)
  · rintro _ st' m ⟨F, Y⟩
    show P_X12_readNot_96 rcM 58 d post (m + 1) (iN a) (iN a) st'
    unfold P_X12_readNot_96
    exact ⟨fun _ => h st' F Y, fun hz => absurd (Int32.le_refl _) hz⟩
set_option maxHeartbeats 1000000 in
theorem l_nots (TK : Tks T n τ) (hr : isRu r) (hmo : mo < 2) {D w : Nat} (hT : ∀ i len row w, i ≤ n → len + w ≤ i → Wf kv row len D → Res T n τ r kv mo True (P_X4_readTest rc 34 d) (PMt rcM d) (D + 1) w i len row) : ∀ m a, a + m = 6 → ∀ i len row, i ≤ n → len + (w + a) ≤ i → Wf kv row len D → Res T n τ r kv mo True (fun st post => P_X4_readNot_2 rc 34 d post (m + 1) (iN a) st) (fun st post => P_X12_readNot_2 rcM 58 d post (m + 2) (iN a) st) (D + 1) w i len row := by
  have n7 := TK.1
  intro m
  induction m with
  | zero =>
    intro a ha i len row hi hl hW
    obtain ⟨N1, N2, N3, N4, N5, N6, N7, N8, N9, N10, N11⟩ := (TK.2 i hi).1
    have ea : a = 6 := by omega
    subst ea
    by_cases hw : tW (τ i) = some 1010
    · have k1 : tK (τ i) = 1 := ((N7 10 (by decide)).mp hw).1
      refine Or.inr ⟨2, tB (τ i), by decide, by omega, fun _ z => absurd (Or.inr (Or.inl k1)) z, fun st post X h => ?_, fun st post X h => ?_⟩
      · obtain ⟨F, E⟩ := X.er hr (show len ≤ 700 by omega) 2
        show P_X4_readNot_2 rc 34 d post (0 + 1) (iN 6) st
        unfold P_X4_readNot_2
        have K : P_X4_readNot_34 rc 34 d post (iN 6) st := ⟨35, rfl, rfl, wok TK hi X, wok10, fun z => absurd (X.2.1.2.2.2.2.2.1.trans hw) z, fun _ => ⟨⟨_, rfl⟩, rfl, Or.inl rfl, h _ F E⟩⟩
        exact ⟨fun _ => K, fun z => absurd (Int32.le_refl _) z⟩
      · show P_X12_readNot_2 rcM 58 d post (0 + 2) (iN 6) st
        unfold P_X12_readNot_2
        refine ⟨⟨_, rfl⟩, s_isW (w := 10) TK hi X (by decide) (fun _ => ⟨fun z => absurd z (by decide), fun _ => ⟨fun z => absurd rfl z, fun _ => ⟨⟨_, rfl⟩, s_wrong X 2 (fun s4 F4 E4 => ⟨rfl, fun _ => ?_, fun z => absurd z (E4.ne (by decide))⟩)⟩⟩⟩) (fun z => absurd hw z)⟩
        rw [iN_s]
        exact N_not2 (E4.ne (by decide)) (by decide) (h s4 F4 E4)
    · have cl : ∀ st (post : Int32 → St → Prop), CX T n τ r kv st i len row → P_X4_readTest rc 34 d st (fun z_2 st_3 => ∃ n8, P_X4_readNot_62 rc 34 d post n8 (iN 6) z_2 0 st_3) → P_X4_readNot_2 rc 34 d post (0 + 1) (iN 6) st := fun st post X h => by
        unfold P_X4_readNot_2
        exact ⟨fun _ => ⟨35, rfl, rfl, wok TK hi X, wok10, fun _ => ⟨⟨_, rfl⟩, h⟩, fun z => absurd (X.2.1.2.2.2.2.2.1.symm.trans z) hw⟩, fun z => absurd (Int32.le_refl _) z⟩
      have ml : ∀ st (post : St → Prop), MX T n τ mo st i len row → PMt rcM d st (fun s => P_X12_readNot_94 rcM 58 d post (iN 6) s) → P_X12_readNot_2 rcM 58 d post (0 + 2) (iN 6) st := fun st post X h => by
        unfold P_X12_readNot_2
        exact ⟨⟨_, rfl⟩, s_isW (w := 10) TK hi X (by decide) (fun z => absurd z hw) (fun _ => ⟨fun _ => h, fun z => absurd rfl z⟩)⟩
      rcases hT i len row (w + 6) hi hl hW with ⟨i2, len2, row2, a1, a2, a3, a4, a5, a6, a7, a8⟩ | ⟨k, pl, b1, b2, b3, b4, b5⟩
      · exact Or.inl ⟨i2, len2 + 6, ntR row2 len2 6, a1, a2, a3, by omega, a5.nots 6, a6, fun st post X h => cl st post X (a7 st _ X (fun s2 F2 X2 => notsC hr (by decide) (by omega) X2 (fun s3 F3 X3 => h s3 (F2.tr F3) X3))), fun st post X h => ml st post X (a8 st _ X (fun s2 F2 X2 => notsM hmo (by decide) (by omega) X2 (fun s3 F3 X3 => h s3 (F2.tr F3) X3)))⟩
      · exact Or.inr ⟨k, pl, b1, b2, b3, fun st post X h => cl st post X (b4 st _ X (fun s2 F2 X2 => notsE hr (by decide) X2 (fun s3 F3 X3 => h s3 (F2.tr F3) X3))), fun st post X h => ml st post X (b5 st _ X (fun s2 F2 X2 => N_not94 (X2.ne b1) (by decide) (h s2 F2 X2)))⟩
  | succ m ih =>
    intro a ha i len row hi hl hW
    obtain ⟨N1, N2, N3, N4, N5, N6, N7, N8, N9, N10, N11⟩ := (TK.2 i hi).1
    have n6 : ¬ (6 : Int32) ≤ iN a := nle (a := 6) (by decide) (by omega)
    have n66 : ¬ iN a = 6 := fun z => by
      have := (iN_eq (b := 6) (by omega) (by decide)).mp z
      omega
    by_cases hw : tW (τ i) = some 1010
    · have k1 : tK (τ i) = 1 := ((N7 10 (by decide)).mp hw).1
      have lt := N4 (by omega)
      have hmay : may (τ i) := Or.inr (Or.inl k1)
      have cl : ∀ st (post : Int32 → St → Prop), CX T n τ r kv st i len row → (∀ s3, CWf r st s3 → CX T n τ r kv s3 (tE (τ i)) len row → P_X4_readNot_2 rc 34 d post (m + 1) (iN (a + 1)) s3) → P_X4_readNot_2 rc 34 d post (m + 1 + 1) (iN a) st := fun st post X h => by
        unfold P_X4_readNot_2
        exact ⟨fun z => absurd z n6, fun _ => ⟨35, rfl, rfl, wok TK hi X, wok10, fun z => absurd (X.2.1.2.2.2.2.2.1.trans hw) z, fun _ => ⟨35, rfl, ⟨_, rfl⟩, s_advX TK hr hi X (fun s3 F3 X3 => by rw [iN_s]; exact h s3 F3 X3)⟩⟩⟩
      have ml : ∀ st (post : St → Prop), MX T n τ mo st i len row → (∀ s3, MWf mo st s3 → MX T n τ mo s3 (tE (τ i)) len row → P_X12_readNot_2 rcM 58 d post (m + 2) (iN (a + 1)) s3) → P_X12_readNot_2 rcM 58 d post (m + 1 + 2) (iN a) st := fun st post X h => by
        unfold P_X12_readNot_2
        exact ⟨⟨_, rfl⟩, s_isW (w := 10) TK hi X (by decide) (fun _ => ⟨fun z => absurd z (by decide), fun _ => ⟨fun _ => ⟨rfl, fun z => absurd X.2.2.1 z, fun _ => ⟨⟨_, rfl⟩, s_stepX TK hi X (fun s3 F3 X3 => by rw [iN_s]; exact h s3 F3 X3)⟩⟩, fun z => absurd z n66⟩⟩) (fun z => absurd hw z)⟩
      rcases ih (a + 1) (by omega) (tE (τ i)) len row N3 (by omega) hW with ⟨i2, len2, row2, a1, a2, a3, a4, a5, a6, a7, a8⟩ | ⟨k, pl, b1, b2, b3, b4, b5⟩
      · have a2 := a2 trivial
        exact Or.inl ⟨i2, len2, row2, by omega, fun _ => by omega, a3, a4, a5, fun _ => hmay, fun st post X h => cl st post X (fun s3 F3 X3 => a7 s3 post X3 (fun s4 F4 X4 => h s4 (F3.tr F4) X4)), fun st post X h => ml st post X (fun s3 F3 X3 => a8 s3 post X3 (fun s4 F4 X4 => h s4 (F3.tr F4) X4))⟩
      · exact Or.inr ⟨k, pl, b1, b2, fun _ z => absurd hmay z, fun st post X h => cl st post X (fun s3 F3 X3 => b4 s3 post X3 (fun s4 F4 X4 => h s4 (F3.tr F4) X4)), fun st post X h => ml st post X (fun s3 F3 X3 => b5 s3 post X3 (fun s4 F4 X4 => h s4 (F3.tr F4) X4))⟩
    · have cl : ∀ st (post : Int32 → St → Prop), CX T n τ r kv st i len row → P_X4_readTest rc 34 d st (fun z_2 st_3 => ∃ n8, P_X4_readNot_62 rc 34 d post n8 (iN a) z_2 0 st_3) → P_X4_readNot_2 rc 34 d post (m + 1 + 1) (iN a) st := fun st post X h => by
        unfold P_X4_readNot_2
        have K : P_X4_readNot_34 rc 34 d post (iN a) st := ⟨35, rfl, rfl, wok TK hi X, wok10, fun _ => ⟨⟨_, rfl⟩, h⟩, fun z => absurd (X.2.1.2.2.2.2.2.1.symm.trans z) hw⟩
        exact ⟨fun _ => K, fun _ => ⟨35, rfl, rfl, wok TK hi X, wok10, fun _ => K, fun z => absurd (X.2.1.2.2.2.2.2.1.symm.trans z) hw⟩⟩
      have ml : ∀ st (post : St → Prop), MX T n τ mo st i len row → PMt rcM d st (fun s => P_X12_readNot_94 rcM 58 d post (iN a) s) → P_X12_readNot_2 rcM 58 d post (m + 1 + 2) (iN a) st := fun st post X h => by
        unfold P_X12_readNot_2
        exact ⟨⟨_, rfl⟩, s_isW (w := 10) TK hi X (by decide) (fun z => absurd z hw) (fun _ => ⟨fun _ => h, fun z => absurd rfl z⟩)⟩
      rcases hT i len row (w + a) hi hl hW with ⟨i2, len2, row2, a1, a2, a3, a4, a5, a6, a7, a8⟩ | ⟨k, pl, b1, b2, b3, b4, b5⟩
      · exact Or.inl ⟨i2, len2 + a, ntR row2 len2 a, a1, a2, a3, by omega, a5.nots a, a6, fun st post X h => cl st post X (a7 st _ X (fun s2 F2 X2 => notsC hr (by omega) (by omega) X2 (fun s3 F3 X3 => h s3 (F2.tr F3) X3))), fun st post X h => ml st post X (a8 st _ X (fun s2 F2 X2 => notsM hmo (by omega) (by omega) X2 (fun s3 F3 X3 => h s3 (F2.tr F3) X3)))⟩
      · exact Or.inr ⟨k, pl, b1, b2, b3, fun st post X h => cl st post X (b4 st _ X (fun s2 F2 X2 => notsE hr (by omega) X2 (fun s3 F3 X3 => h s3 (F2.tr F3) X3))), fun st post X h => ml st post X (b5 st _ X (fun s2 F2 X2 => N_not94 (X2.ne b1) (by omega) (h s2 F2 X2)))⟩
theorem l_not (TK : Tks T n τ) (hr : isRu r) (hmo : mo < 2) {D w i len : Nat} {row : Nat → Int32} (hT : ∀ i len row w, i ≤ n → len + w ≤ i → Wf kv row len D → Res T n τ r kv mo True (P_X4_readTest rc 34 d) (PMt rcM d) (D + 1) w i len row) (hi : i ≤ n) (hl : len + w ≤ i) (hW : Wf kv row len D) : Res T n τ r kv mo True (P_X4_readNot rc 34 d) (P_X12_readNot rcM 58 d) (D + 1) w i len row := by
  rcases l_nots TK hr hmo (w := w) hT 6 0 rfl i len row hi hl hW with ⟨i2, len2, row2, a1, a2, a3, a4, a5, a6, a7, a8⟩ | ⟨k, pl, b1, b2, b3, b4, b5⟩
  · exact Or.inl ⟨i2, len2, row2, a1, a2, a3, a4, a5, a6, fun st post X h => ⟨_, a7 st post X h⟩, fun st post X h => ⟨_, a8 st post X h⟩⟩
  · exact Or.inr ⟨k, pl, b1, b2, b3, fun st post X h => ⟨_, b4 st post X h⟩, fun st post X h => ⟨_, b5 st post X h⟩⟩
end P3
section P4
variable {T : Nat → Int32} {n : Nat} {τ : Nat → Tok} {r kv mo : Nat}
theorem l_expr (TK : Tks T n τ) (hr : isRu r) (hmo : mo < 2) (hA : wsA (60 + mo) 11 kv) : ∀ m d, d + m = 6 → ∀ i len row D w, i ≤ n → len + w ≤ i → Wf kv row len D → D ≤ 5 * d → Res T n τ r kv mo True (PE_X4_readEither (m + 2) 34 (iN d)) (PE_X12_readExpression (m + 2) 58 (iN d)) (D + 1) w i len row := by
  have n7 := TK.1
  intro m
  induction m with
  | zero =>
    intro d hd i len row D w hi hl hW hD
    have ed : d = 6 := by omega
    subst ed
    obtain ⟨N1, N2, N3, N4, N5, N6, N7, N8, N9, N10, N11⟩ := (TK.2 i hi).1
    have ml : ∀ st (post : St → Prop) (s0 : Int32), ((may (τ i) → s0 = 1) ∧ (¬ may (τ i) → s0 = 0)) → MX T n τ mo st i len row → P_X12_readExpression_38 (PE_X12_readExpression 1) 58 (iN 6) post s0 st → True := fun _ _ _ _ _ _ => trivial
    by_cases hm : may (τ i)
    · refine Or.inr ⟨2, tB (τ i), by decide, by omega, fun _ z => absurd hm z, fun st post X h => ⟨fun z => absurd z (Int32.lt_irrefl), fun _ => ⟨⟨_, rfl⟩, ?_⟩⟩, fun st post X h => ?_⟩
      · obtain ⟨F, E⟩ := X.er hr (show len ≤ 700 by omega) 2
        have K : P_X4_startsExpression_34 34 (fun z_3 st_4 => ((z_3 = 0 → P_X4_readEither_19 (PE_X4_readEither 1) 34 (iN 6) post 1 34 st_4) ∧ (¬ z_3 = 0 → P_X4_readEither_19 (PE_X4_readEither 1) 34 (iN 6) post 2 34 st_4))) st := ⟨Or.inr rfl, fun z => absurd z (by decide), fun _ => ⟨⟨_, rfl⟩, rfl, Or.inl rfl, h _ F E⟩⟩
        refine ⟨35, rfl, rfl, fun _ => K, fun z2 => ⟨35, rfl, rfl, fun _ => K, fun z1 => ⟨35, rfl, rfl, fun z4 => ?_, fun _ => K⟩⟩⟩
        exfalso
        rcases hm with y | y | y
        · exact z2 (X.2.1.2.1.trans (by rw [y]; rfl))
        · exact z1 (X.2.1.2.1.trans (by rw [y]; rfl))
        · exact z4 (X.2.1.2.2.2.2.2.2.trans y)
      · have K : P_X12_readExpression_33 (PE_X12_readExpression 1) 58 (iN 6) post st := ⟨fun _ => ⟨fun z => absurd rfl z, fun _ => ⟨⟨_, rfl⟩, s_wrong X 2 (fun s4 F4 E4 => N_ex62 (E4.ne (by decide)) (h s4 F4 E4))⟩⟩, fun z => absurd z (by decide)⟩
        refine ⟨rfl, fun _ => ⟨rfl, fun _ => K, fun z2 => ⟨rfl, fun _ => K, fun z1 => ⟨⟨_, rfl⟩, s_mkd TK hi X (by decide) (fun _ => ⟨fun z => absurd z (by decide), fun _ => K⟩) (fun z4 => ?_)⟩⟩⟩, fun z => absurd X.2.2.1 z⟩
        exfalso
        rcases hm with y | y | y
        · exact z2 (X.2.1.2.1.trans (by rw [y]; rfl))
        · exact z1 (X.2.1.2.1.trans (by rw [y]; rfl))
        · exact z4 y
    · have k2 : ¬ tK (τ i) = 2 := fun z => hm (Or.inl z)
      have k1 : ¬ tK (τ i) = 1 := fun z => hm (Or.inr (Or.inl z))
      have k4 : ¬ tS (τ i) = 40 := fun z => hm (Or.inr (Or.inr z))
      refine Or.inr ⟨1, tB (τ i), by decide, by omega, fun _ _ => ⟨rfl, rfl⟩, fun st post X h => ⟨fun z => absurd z (Int32.lt_irrefl), fun _ => ⟨⟨_, rfl⟩, 35, rfl, rfl, fun z => ?_, fun _ => ⟨35, rfl, rfl, fun z => ?_, fun _ => ⟨35, rfl, rfl, fun _ => ⟨Or.inl rfl, fun _ => ⟨⟨_, rfl⟩, rfl, Or.inl rfl, ?_⟩, fun z => absurd rfl z⟩, fun z => absurd (X.2.1.2.2.2.2.2.2.symm.trans z) k4⟩⟩⟩⟩, fun st post X h => ⟨rfl, fun _ => ⟨rfl, fun z => ?_, fun _ => ⟨rfl, fun z => ?_, fun _ => ⟨⟨_, rfl⟩, s_mkd TK hi X (by decide) (fun z => absurd z k4) (fun _ => ⟨fun _ => ⟨fun z => absurd rfl z, fun _ => ⟨⟨_, rfl⟩, s_wrong X 1 (fun s4 F4 E4 => N_ex62 (E4.ne (by decide)) (h s4 F4 E4))⟩⟩, fun z => absurd rfl z⟩)⟩⟩⟩, fun z => absurd X.2.2.1 z⟩⟩
      · exact absurd ((iN_eq (b := 2) (by omega) (by decide)).mp (X.2.1.2.1.symm.trans z)) k2
      · exact absurd ((iN_eq (b := 1) (by omega) (by decide)).mp (X.2.1.2.1.symm.trans z)) k1
      · obtain ⟨F, E⟩ := X.er hr (show len ≤ 700 by omega) 1
        exact h _ F E
      · exact absurd ((iN_eq (b := 2) (by omega) (by decide)).mp (X.2.1.2.1.symm.trans z)) k2
      · exact absurd ((iN_eq (b := 1) (by omega) (by decide)).mp (X.2.1.2.1.symm.trans z)) k1
  | succ m ih =>
    intro d hd i len row D w hi hl hW hD
    obtain ⟨N1, N2, N3, N4, N5, N6, N7, N8, N9, N10, N11⟩ := (TK.2 i hi).1
    have hN : ∀ (x : Int32) st (post : St → Prop), ¬ gI st 58 23 = 0 → post st → PE_X12_readExpression (m + 2) 58 x st post := fun x st post hb h => N_exp hb h
    have P1 : ∀ i len row D w, i ≤ n → len + w ≤ i → Wf kv row len D → D ≤ (5 * d + 4) + 1 → Res T n τ r kv mo True (P_X4_readPart (PE_X4_readEither (m + 2)) 34 (iN d)) (P_X12_readPart (PE_X12_readExpression (m + 2)) 58 (iN d)) (D + 1) w i len row := fun i len row D w k1 k2 k3 k4 => l_part TK hr hmo hA hN (fun i len row D w q1 q2 q3 q4 => ih (d + 1) (by omega) i len row D w q1 q2 q3 (by omega)) k1 k2 k3 k4 (by omega)
    have P2 : ∀ i len row D w, i ≤ n → len + w ≤ i → Wf kv row len D → D ≤ (5 * d + 3) + 1 → Res T n τ r kv mo True (P_X4_readProduct (PE_X4_readEither (m + 2)) 34 (iN d)) (P_X12_readProduct (PE_X12_readExpression (m + 2)) 58 (iN d)) (D + 1) w i len row := fun i len row D w k1 k2 k3 k4 => l_prod TK hr hmo (by omega) P1 k1 k2 k3 (by omega)
    have P3 : ∀ i len row D w, i ≤ n → len + w ≤ i → Wf kv row len D → D ≤ (5 * d + 2) + 1 → Res T n τ r kv mo True (P_X4_readSum (PE_X4_readEither (m + 2)) 34 (iN d)) (P_X12_readSum (PE_X12_readExpression (m + 2)) 58 (iN d)) (D + 1) w i len row := fun i len row D w k1 k2 k3 k4 => l_summ TK hr hmo (by omega) P2 k1 k2 k3 (by omega)
    have P4 : ∀ i len row D w, i ≤ n → len + w ≤ i → Wf kv row len D → D ≤ (5 * d + 1) + 1 → Res T n τ r kv mo True (P_X4_readNot (PE_X4_readEither (m + 2)) 34 (iN d)) (P_X12_readNot (PE_X12_readExpression (m + 2)) 58 (iN d)) (D + 1) w i len row := fun i len row D w k1 k2 k3 k4 => l_not TK hr hmo (fun i len row w q1 q2 q3 => l_test TK hr hmo (B := 5 * d + 2) (by omega) P3 q1 q2 q3 (by omega)) k1 k2 k3
    have P5 : ∀ i len row D w, i ≤ n → len + w ≤ i → Wf kv row len D → D ≤ (5 * d) + 1 → Res T n τ r kv mo True (P_X4_readBoth (PE_X4_readEither (m + 2)) 34 (iN d)) (P_X12_readAnd (PE_X12_readExpression (m + 2)) 58 (iN d)) (D + 1) w i len row := fun i len row D w k1 k2 k3 k4 => l_both TK hr hmo (by omega) P4 k1 k2 k3 (by omega)
    have P6 := l_either (rc := PE_X4_readEither (m + 2)) (rcM := PE_X12_readExpression (m + 2)) (d := iN d) TK hr hmo (B := 5 * d) (by omega) P5 hi hl hW hD
    have l6 : (iN d : Int32) < 6 := (iN_lt (b := 6) (by omega) (by decide)).mpr (by omega)
    have n66 : ¬ (iN d : Int32) = 6 := fun z => by
      have := (iN_eq (b := 6) (by omega) (by decide)).mp z
      omega
    have cl : ∀ st (post : Int32 → St → Prop), (oC 34 4 ∧ P_X4_readBoth (PE_X4_readEither (m + 2)) 34 (iN d) st (fun z_1 st_2 => ∃ n8, P_X4_readEither_31 (PE_X4_readEither (m + 2)) 34 (iN d) post n8 z_1 0 st_2)) → PE_X4_readEither (m + 1 + 2) 34 (iN d) st post := fun st post h => ⟨fun _ => h, fun z => absurd l6 z⟩
    have ml1 : ∀ st (post : St → Prop), may (τ i) → MX T n τ mo st i len row → P_X12_readExpression_62 (PE_X12_readExpression (m + 2)) 58 (iN d) post st → PE_X12_readExpression (m + 1 + 2) 58 (iN d) st post := fun st post hm X h => by
      have K : P_X12_readExpression_33 (PE_X12_readExpression (m + 2)) 58 (iN d) post st := ⟨fun _ => ⟨fun _ => h, fun z => absurd z n66⟩, fun z => absurd z (by decide)⟩
      refine ⟨rfl, fun _ => ⟨rfl, fun _ => K, fun z2 => ⟨rfl, fun _ => K, fun z1 => ⟨⟨_, rfl⟩, s_mkd TK hi X (by decide) (fun _ => ⟨fun z => absurd z (by decide), fun _ => K⟩) (fun z4 => ?_)⟩⟩⟩, fun z => absurd X.2.2.1 z⟩
      exfalso
      rcases hm with y | y | y
      · exact z2 (X.2.1.2.1.trans (by rw [y]; rfl))
      · exact z1 (X.2.1.2.1.trans (by rw [y]; rfl))
      · exact z4 y
    rcases P6 with ⟨i2, len2, row2, a1, a2, a3, a4, a5, a6, a7, a8⟩ | ⟨k, pl, b1, b2, b3, b4, b5⟩
    · exact Or.inl ⟨i2, len2, row2, a1, a2, a3, a4, a5, a6, fun st post X h => cl st post (a7 st post X h), fun st post X h => ml1 st post (a6 trivial) X (a8 st post X h)⟩
    · by_cases hm : may (τ i)
      · exact Or.inr ⟨k, pl, b1, b2, b3, fun st post X h => cl st post (b4 st post X h), fun st post X h => ml1 st post hm X (b5 st post X h)⟩
      · obtain ⟨rfl, rfl⟩ := b3 trivial hm
        have k2 : ¬ tK (τ i) = 2 := fun z => hm (Or.inl z)
        have k1 : ¬ tK (τ i) = 1 := fun z => hm (Or.inr (Or.inl z))
        have k4 : ¬ tS (τ i) = 40 := fun z => hm (Or.inr (Or.inr z))
        refine Or.inr ⟨1, tB (τ i), b1, b2, b3, fun st post X h => cl st post (b4 st post X h), fun st post X h => ⟨rfl, fun _ => ⟨rfl, fun z => ?_, fun _ => ⟨rfl, fun z => ?_, fun _ => ⟨⟨_, rfl⟩, s_mkd TK hi X (by decide) (fun z => absurd z k4) (fun _ => ⟨fun _ => ⟨fun z => absurd rfl z, fun _ => ⟨⟨_, rfl⟩, s_wrong X 1 (fun s4 F4 E4 => N_ex62 (E4.ne (by decide)) (h s4 F4 E4))⟩⟩, fun z => absurd rfl z⟩)⟩⟩⟩, fun z => absurd X.2.2.1 z⟩⟩
        · exact absurd ((iN_eq (b := 2) (by omega) (by decide)).mp (X.2.1.2.1.symm.trans z)) k2
        · exact absurd ((iN_eq (b := 1) (by omega) (by decide)).mp (X.2.1.2.1.symm.trans z)) k1
end P4
