/-! PURE: expressions: what both read -/
def Wf (kv : Nat) (row : Nat → Int32) (len D : Nat) : Prop := dep row len = D ∧ ∀ j, j < len → okc (row j) (dep row j) ∧ (¬ row j < -8 → row j < 0 → (-1 - row j).toNatClampNeg < kv)
theorem dep_s (row : Nat → Int32) (j : Nat) : dep row (j + 1) = dst (row j) (dep row j) := by unfold dep; rw [lp_s]
theorem dep_0 (row : Nat → Int32) : dep row 0 = 0 := by unfold dep; rw [lp_0]
theorem dep_upd {row : Nat → Int32} {len : Nat} {c : Int32} : ∀ j, j ≤ len → dep (upd row len c) j = dep row j := by
  intro j
  induction j with
  | zero => intro _; rw [dep_0, dep_0]
  | succ j ih =>
    intro hj
    rw [dep_s, dep_s, ih (by omega), upd_ne (by omega)]
theorem Wf.push {kv : Nat} {row : Nat → Int32} {len D : Nat} (h : Wf kv row len D) {c : Int32} (hc : okc c D) (hv : ¬ c < -8 → c < 0 → (-1 - c).toNatClampNeg < kv) : Wf kv (upd row len c) (len + 1) (dst c D) := by
  refine ⟨?_, fun j hj => ?_⟩
  · rw [dep_s, upd_same, dep_upd len (Nat.le_refl _), h.1]
  · rw [dep_upd j (by omega)]
    by_cases e : j = len
    · rw [e, upd_same, h.1]; exact ⟨hc, hv⟩
    · rw [upd_ne e]; exact h.2 j (by omega)
def may (t : Tok) : Prop := tK t = 2 ∨ tK t = 1 ∨ tS t = 40
section Rs
variable (T : Nat → Int32) (n : Nat) (τ : Nat → Tok) (r kv mo : Nat)
def OkC (PC : St → (Int32 → St → Prop) → Prop) (i len : Nat) (row : Nat → Int32) (i' len' : Nat) (row' : Nat → Int32) : Prop := ∀ st post, CX T n τ r kv st i len row → (∀ st', CWf r st st' → CX T n τ r kv st' i' len' row' → post 1 st') → PC st post
def ErC (PC : St → (Int32 → St → Prop) → Prop) (i len : Nat) (row : Nat → Int32) (k pl : Nat) : Prop := ∀ st post, CX T n τ r kv st i len row → (∀ st', CWf r st st' → CE r st' k pl → post 0 st') → PC st post
def OkM (PM : St → (St → Prop) → Prop) (i len : Nat) (row : Nat → Int32) (i' len' : Nat) (row' : Nat → Int32) : Prop := ∀ st post, MX T n τ mo st i len row → (∀ st', MWf mo st st' → MX T n τ mo st' i' len' row' → post st') → PM st post
def ErM (PM : St → (St → Prop) → Prop) (i len : Nat) (row : Nat → Int32) (k pl : Nat) : Prop := ∀ st post, MX T n τ mo st i len row → (∀ st', MWf mo st st' → ME st' k pl → post st') → PM st post
def Res (A : Prop) (PC : St → (Int32 → St → Prop) → Prop) (PM : St → (St → Prop) → Prop) (D w i len : Nat) (row : Nat → Int32) : Prop :=
  (∃ i' len' row', i ≤ i' ∧ (A → i < i') ∧ i' ≤ n ∧ len' + w ≤ i' ∧ Wf kv row' len' D ∧ (A → may (τ i)) ∧ OkC T n τ r kv PC i len row i' len' row' ∧ OkM T n τ mo PM i len row i' len' row') ∨
  (∃ k pl, (0 < k ∧ k < 10) ∧ pl ≤ 700 ∧ (A → ¬ may (τ i) → k = 1 ∧ pl = tB (τ i)) ∧ ErC T n τ r kv PC i len row k pl ∧ ErM T n τ mo PM i len row k pl)
end Rs
def Aft (c : Int32) (K : Int32 → St → Prop) (z : Int32) (st : St) : Prop := ∃ r6, rv st 34 4 2 = some r6 ∧ oC r6 5 ∧ P_X5_add r6 c st (fun s8 => K z s8)
section Ch
variable {T : Nat → Int32} {n : Nat} {τ : Nat → Tok} {r kv mo : Nat}
theorem rv34 {st : St} {r : Nat} (h : gR st 34 2 = some r) : rv st 34 4 2 = some r := h
theorem CX.ru {st : St} {i len : Nat} {row : Nat → Int32} (X : CX T n τ r kv st i len row) : gR st 34 2 = some r := X.2.2.1
/-- the facts of one level: op (op operand)* -/
theorem chain_loop (TK : Tks T n τ) (hr : isRu r) (hmo : mo < 2) {B : Nat} (hB : B < 39)
    {LC : (Int32 → St → Prop) → Nat → Int32 → Int32 → St → Prop} {OC : St → (Int32 → St → Prop) → Prop} {LM : (St → Prop) → Nat → St → Prop} {OM : St → (St → Prop) → Prop} {opd : Tok → Option Int32}
    (hop : ∀ t c, opd t = some c → (tS t ≠ 0 ∨ ∃ w, tW t = some w) ∧ (-17 : Int32) ≤ c ∧ c < -8 ∧ c ≠ -11)
    (LC0 : ∀ (post : Int32 → St → Prop) st f x, post 0 st → LC post (f + 1) 0 x st)
    (LCs : ∀ (post : Int32 → St → Prop) st f t i len row, i ≤ n → CX T n τ r kv st i len row → opd (τ i) = none → post 1 st → LC post (f + 1) 1 (iN t) st)
    (LCo : ∀ (post : Int32 → St → Prop) st f t i len row c, t < 700 → CX T n τ r kv st i len row → opd (τ i) = some c → P_X8_advance 35 st (fun s3 => oC 34 4 ∧ OC s3 (Aft c (fun z s8 => LC post f z (iN t + 1) s8))) → LC post (f + 1) 1 (iN t) st)
    (LMe : ∀ (post : St → Prop) st f, ¬ gI st 58 23 = 0 → post st → LM post (f + 1) st)
    (LMs : ∀ (post : St → Prop) st f i len row, i ≤ n → MX T n τ mo st i len row → opd (τ i) = none → post st → LM post (f + 1) st)
    (LMo : ∀ (post : St → Prop) st f i len row c, i ≤ n → MX T n τ mo st i len row → opd (τ i) = some c → P_X12_stepOn 58 st (fun s2 => oC 58 12 ∧ OM s2 (fun s4 => oC 58 12 ∧ P_X12_lay 58 (trC c) s4 (fun s6 => LM post f s6))) → LM post (f + 1) st)
    (hO : ∀ i len row D w, i ≤ n → len + w ≤ i → Wf kv row len D → D ≤ B + 1 → Res T n τ r kv mo True OC OM (D + 1) w i len row) :
    ∀ f i len row D w t, n < i + f → i ≤ n → t ≤ i → len + w ≤ i → Wf kv row len (D + 1) → D ≤ B → Res T n τ r kv mo False (fun st post => LC post f 1 (iN t) st) (fun st post => LM post f st) (D + 1) w i len row := by
  intro f
  have n7 := TK.1
  induction f with
  | zero => intro i len row D w t h1 h2; omega
  | succ f ih =>
    intro i len row D w t h1 hi ht hl hW hD
    obtain ⟨N1, N2, N3, N4, N5, N6, N7, N8, N9, N10, N11⟩ := (TK.2 i hi).1
    cases ho : opd (τ i) with
    | none =>
      refine Or.inl ⟨i, len, row, Nat.le_refl _, fun z => z.elim, hi, hl, hW, fun z => z.elim, fun st post X h => LCs post st f t i len row hi X ho (h st ⟨fun _ _ _ => rfl, fun _ _ _ => rfl, fun _ _ => rfl⟩ X), fun st post X h => LMs post st f i len row hi X ho (h st MWf.rf X)⟩
    | some c =>
      obtain ⟨q1, q2, q3, q4⟩ := hop _ _ ho
      have hk : tK (τ i) ≠ 0 := by
        intro z
        rcases q1 with y | ⟨w, y⟩
        · exact y (N9 (by omega))
        · rcases N6 with y2 | ⟨w2, hw2, y2⟩
          · rw [y2] at y; cases y
          · have := ((N7 w2 hw2).mp y2).1
            omega
      have lt := N4 hk
      have hf : ∃ f', f = f' + 1 := ⟨f - 1, by omega⟩
      obtain ⟨f', rfl⟩ := hf
      have hcD : okc c (D + 2) := ⟨q2, fun z => absurd q3 z, fun z => absurd z q4, fun _ _ => by omega⟩
      have hdst : dst c (D + 2) = D + 1 := by unfold dst; rw [if_pos q3, if_neg q4]; rfl
      rcases hO (tE (τ i)) len row (D + 1) (w + 1) N3 (by omega) hW (by omega) with ⟨i2, len2, row2, a1, a2, a3, a4, a5, a6, a7, a8⟩ | ⟨k, pl, b1, b2, b3, b4, b5⟩
      · have hl2 : len2 < 700 := by omega
        have W3 : Wf kv (upd row2 len2 c) (len2 + 1) (D + 1) := by
          have := a5.push (c := c) hcD (fun z => absurd q3 z)
          rw [hdst] at this
          exact this
        have a2 := a2 trivial
        rcases ih i2 (len2 + 1) (upd row2 len2 c) D w (t + 1) (by omega) a3 (by omega) (by omega) W3 hD with ⟨i3, len3, row3, c1, c2, c3, c4, c5, c6, c7, c8⟩ | ⟨k, pl, d1, d2, d3, d4, d5⟩
        · refine Or.inl ⟨i3, len3, row3, by omega, fun z => z.elim, c3, c4, c5, fun z => z.elim, fun st post X h => ?_, fun st post X h => ?_⟩
          · refine LCo post st _ t i len row c (by omega) X ho (s_advX TK hr hi X (fun s3 F3 X3 => ⟨⟨_, rfl⟩, a7 s3 _ X3 (fun s5 F5 X5 => ⟨r, rv34 X5.ru, ru_o hr, s_addX hr X5 hl2 c (fun s8 F8 X8 => ?_)⟩)⟩))
            rw [iN_s]
            exact c7 s8 post X8 (fun s9 F9 X9 => h s9 (((F3.tr F5).tr F8).tr F9) X9)
          · exact LMo post st _ i len row c hi X ho (s_stepX TK hi X (fun s2 F2 X2 => ⟨⟨_, rfl⟩, a8 s2 _ X2 (fun s4 F4 X4 => ⟨⟨_, rfl⟩, s_layX hmo X4 hl2 c (fun s6 F6 X6 => c8 s6 post X6 (fun s9 F9 X9 => h s9 (((F2.tr F4).tr F6).tr F9) X9))⟩)⟩))
        · refine Or.inr ⟨k, pl, d1, d2, fun z => z.elim, fun st post X h => ?_, fun st post X h => ?_⟩
          · refine LCo post st _ t i len row c (by omega) X ho (s_advX TK hr hi X (fun s3 F3 X3 => ⟨⟨_, rfl⟩, a7 s3 _ X3 (fun s5 F5 X5 => ⟨r, rv34 X5.ru, ru_o hr, s_addX hr X5 hl2 c (fun s8 F8 X8 => ?_)⟩)⟩))
            rw [iN_s]
            exact d4 s8 post X8 (fun s9 F9 X9 => h s9 (((F3.tr F5).tr F8).tr F9) X9)
          · exact LMo post st _ i len row c hi X ho (s_stepX TK hi X (fun s2 F2 X2 => ⟨⟨_, rfl⟩, a8 s2 _ X2 (fun s4 F4 X4 => ⟨⟨_, rfl⟩, s_layX hmo X4 hl2 c (fun s6 F6 X6 => d5 s6 post X6 (fun s9 F9 X9 => h s9 (((F2.tr F4).tr F6).tr F9) X9))⟩)⟩))
      · refine Or.inr ⟨k, pl, b1, b2, fun z => z.elim, fun st post X h => ?_, fun st post X h => ?_⟩
        · exact LCo post st _ t i len row c (by omega) X ho (s_advX TK hr hi X (fun s3 F3 X3 => ⟨⟨_, rfl⟩, b4 s3 _ X3 (fun s5 F5 X5 => ⟨r, rv34 X5.1, ru_o hr, s_addE hr X5 c (fun s8 F8 X8 => LC0 post s8 _ _ (h s8 ((F3.tr F5).tr F8) X8))⟩)⟩))
        · exact LMo post st _ i len row c hi X ho (s_stepX TK hi X (fun s2 F2 X2 => ⟨⟨_, rfl⟩, b5 s2 _ X2 (fun s4 F4 X4 => ⟨⟨_, rfl⟩, N_lay (X4.ne b1) (LMe post s4 _ (X4.ne b1) (h s4 (F2.tr F4) X4))⟩)⟩))
/-- first an operand, then the rest -/
theorem chain (TK : Tks T n τ) {LC : (Int32 → St → Prop) → Nat → Int32 → Int32 → St → Prop} {OC : St → (Int32 → St → Prop) → Prop} {LM : (St → Prop) → Nat → St → Prop} {OM : St → (St → Prop) → Prop}
    (LC0 : ∀ (post : Int32 → St → Prop) st f x, post 0 st → LC post (f + 1) 0 x st)
    (LMe : ∀ (post : St → Prop) st f, ¬ gI st 58 23 = 0 → post st → LM post (f + 1) st)
    {D w i len : Nat} {row : Nat → Int32} (hO : Res T n τ r kv mo True OC OM (D + 1) w i len row)
    (hL : ∀ i' len' row', i ≤ i' → i' ≤ n → len' + w ≤ i' → Wf kv row' len' (D + 1) → Res T n τ r kv mo False (fun st post => LC post (n + 1) 1 (iN 0) st) (fun st post => LM post (n + 1) st) (D + 1) w i' len' row') :
    Res T n τ r kv mo True (fun st post => oC 34 4 ∧ OC st (fun z s2 => ∃ n8, LC post n8 z 0 s2)) (fun st post => oC 58 12 ∧ OM st (fun s2 => ∃ n8, LM post n8 s2)) (D + 1) w i len row := by
  rcases hO with ⟨i2, len2, row2, a1, a2, a3, a4, a5, a6, a7, a8⟩ | ⟨k, pl, b1, b2, b3, b4, b5⟩
  · have a2 := a2 trivial
    rcases hL i2 len2 row2 a1 a3 a4 a5 with ⟨i3, len3, row3, c1, c2, c3, c4, c5, c6, c7, c8⟩ | ⟨k, pl, d1, d2, d3, d4, d5⟩
    · exact Or.inl ⟨i3, len3, row3, by omega, fun _ => by omega, c3, c4, c5, a6, fun st post X h => ⟨⟨_, rfl⟩, a7 st _ X (fun s2 F2 X2 => ⟨n + 1, c7 s2 post X2 (fun s3 F3 X3 => h s3 (F2.tr F3) X3)⟩)⟩, fun st post X h => ⟨⟨_, rfl⟩, a8 st _ X (fun s2 F2 X2 => ⟨n + 1, c8 s2 post X2 (fun s3 F3 X3 => h s3 (F2.tr F3) X3)⟩)⟩⟩
    · exact Or.inr ⟨k, pl, d1, d2, fun _ z => absurd (a6 trivial) z, fun st post X h => ⟨⟨_, rfl⟩, a7 st _ X (fun s2 F2 X2 => ⟨n + 1, d4 s2 post X2 (fun s3 F3 X3 => h s3 (F2.tr F3) X3)⟩)⟩, fun st post X h => ⟨⟨_, rfl⟩, a8 st _ X (fun s2 F2 X2 => ⟨n + 1, d5 s2 post X2 (fun s3 F3 X3 => h s3 (F2.tr F3) X3)⟩)⟩⟩
  · exact Or.inr ⟨k, pl, b1, b2, b3, fun st post X h => ⟨⟨_, rfl⟩, b4 st _ X (fun s2 F2 X2 => ⟨1, LC0 post s2 0 _ (h s2 F2 X2)⟩)⟩, fun st post X h => ⟨⟨_, rfl⟩, b5 st _ X (fun s2 F2 X2 => ⟨1, LMe post s2 0 (X2.ne b1) (h s2 F2 X2)⟩)⟩⟩
/-! the levels -/
variable {rc : Nat → Int32 → St → (Int32 → St → Prop) → Prop} {rcM : Nat → Int32 → St → (St → Prop) → Prop} {d : Int32}
def opP (t : Tok) : Option Int32 := if tS t = 42 then some (-16) else if tS t = 47 then some (-17) else none
def opS (t : Tok) : Option Int32 := if tS t = 43 then some (-14) else if tS t = 45 then some (-15) else none
def opA (t : Tok) : Option Int32 := if tW t = some 1009 then some (-10) else none
def opO (t : Tok) : Option Int32 := if tW t = some 1008 then some (-9) else none
theorem b01 {x : Int32} (h : x = 0 ∨ x = 1) : x = 0 ∨ x = 1 := h
theorem l_prod (TK : Tks T n τ) (hr : isRu r) (hmo : mo < 2) {B : Nat} (hB : B < 39) (hO : ∀ i len row D w, i ≤ n → len + w ≤ i → Wf kv row len D → D ≤ B + 1 → Res T n τ r kv mo True (P_X4_readPart rc 34 d) (P_X12_readPart rcM 58 d) (D + 1) w i len row) {D w i len : Nat} {row : Nat → Int32} (hi : i ≤ n) (hl : len + w ≤ i) (hW : Wf kv row len D) (hD : D ≤ B) : Res T n τ r kv mo True (P_X4_readProduct rc 34 d) (P_X12_readProduct rcM 58 d) (D + 1) w i len row := by
  have LC0 : ∀ (post : Int32 → St → Prop) st f x, post 0 st → P_X4_readProduct_8 rc 34 d post (f + 1) 0 x st := fun post st f x h => by
    unfold P_X4_readProduct_8
    exact ⟨fun _ => ⟨Or.inl rfl, h⟩, fun _ => ⟨fun _ => ⟨Or.inl rfl, h⟩, fun z => absurd rfl z⟩⟩
  have LMe : ∀ (post : St → Prop) st f, ¬ gI st 58 23 = 0 → post st → P_X12_readProduct_5 rcM 58 d post (f + 1) st := fun post st f hb h => N_prod5 hb h
  refine chain TK (LC := fun post f x2 x3 st => P_X4_readProduct_8 rc 34 d post f x2 x3 st) (LM := fun post f st => P_X12_readProduct_5 rcM 58 d post f st) LC0 LMe (hO i len row D w hi hl hW (by omega)) (fun i' len' row' k1 k2 k3 k4 => chain_loop TK hr hmo hB (opd := opP) (LC := fun post f x2 x3 st => P_X4_readProduct_8 rc 34 d post f x2 x3 st) (LM := fun post f st => P_X12_readProduct_5 rcM 58 d post f st) ?_ LC0 ?_ ?_ LMe ?_ ?_ hO (n + 1) i' len' row' D w 0 (by omega) k2 (Nat.zero_le _) k3 k4 hD)
  · intro t c h
    unfold opP at h
    split at h
    · rename_i e; injection h with h; subst h; exact ⟨Or.inl (by rw [e]; decide), by decide, by decide, by decide⟩
    · split at h
      · rename_i e; injection h with h; subst h; exact ⟨Or.inl (by rw [e]; decide), by decide, by decide, by decide⟩
      · cases h
  · intro post st f t i len row hi X ho h
    have e8 := X.2.1.2.2.2.2.2.2
    unfold opP at ho
    split at ho
    · cases ho
    · rename_i z1
      split at ho
      · cases ho
      · rename_i z2
        show P_X4_readProduct_8 rc 34 d post (f + 1) 1 (iN t) st
        unfold P_X4_readProduct_8
        exact ⟨fun _ => ⟨Or.inr rfl, h⟩, fun _ => ⟨fun z => absurd z (by decide), fun _ => ⟨35, rfl, rfl, fun z => absurd (e8.symm.trans z) z1, fun _ => ⟨35, rfl, rfl, fun _ => ⟨Or.inr rfl, h⟩, fun z => absurd (e8.symm.trans z) z2⟩⟩⟩⟩
  · intro post st f t i len row c ht X ho h
    have e8 := X.2.1.2.2.2.2.2.2
    show P_X4_readProduct_8 rc 34 d post (f + 1) 1 (iN t) st
    unfold P_X4_readProduct_8
    unfold opP at ho
    have nt : ¬ (700 : Int32) ≤ iN t := nle (a := 700) (by decide) ht
    have k62 : P_X4_readProduct_62 rc 34 d (fun x2 x3 st => P_X4_readProduct_8 rc 34 d post f x2 x3 st) post (iN t) c st := ⟨35, rfl, ⟨_, rfl⟩, h⟩
    split at ho
    · rename_i e; injection ho with ho; subst ho
      have K : P_X4_readProduct_43 rc 34 d (fun x2 x3 st => P_X4_readProduct_8 rc 34 d post f x2 x3 st) post (iN t) st := ⟨35, rfl, rfl, fun z => absurd (e8.trans e) z, fun _ => k62⟩
      exact ⟨fun z => absurd z nt, fun _ => ⟨fun z => absurd z (by decide), fun _ => ⟨35, rfl, rfl, fun _ => K, fun z => absurd (e8.trans e) z⟩⟩⟩
    · rename_i z1
      split at ho
      · rename_i e; injection ho with ho; subst ho
        have K : P_X4_readProduct_43 rc 34 d (fun x2 x3 st => P_X4_readProduct_8 rc 34 d post f x2 x3 st) post (iN t) st := ⟨35, rfl, rfl, fun _ => k62, fun z => absurd (e8.symm.trans z) z1⟩
        exact ⟨fun z => absurd z nt, fun _ => ⟨fun z => absurd z (by decide), fun _ => ⟨35, rfl, rfl, fun z => absurd (e8.symm.trans z) z1, fun _ => ⟨35, rfl, rfl, fun z => absurd (e8.trans e) z, fun _ => K⟩⟩⟩⟩
      · cases ho
  · intro post st f i len row hi X ho h
    unfold opP at ho
    split at ho
    · cases ho
    · rename_i z1
      split at ho
      · cases ho
      · rename_i z2
        show P_X12_readProduct_5 rcM 58 d post (f + 1) st
        unfold P_X12_readProduct_5
        exact ⟨⟨_, rfl⟩, s_mkd TK hi X (by decide) (fun e => absurd e z1) (fun _ => ⟨fun z => absurd rfl z, fun _ => ⟨⟨_, rfl⟩, s_mkd TK hi X (by decide) (fun e => absurd e z2) (fun _ => ⟨fun _ => h, fun z => absurd rfl z⟩)⟩⟩)⟩
  · intro post st f i len row c hi X ho h
    show P_X12_readProduct_5 rcM 58 d post (f + 1) st
    unfold P_X12_readProduct_5
    unfold opP at ho
    split at ho
    · rename_i e; injection ho with ho; subst ho
      have k39 : P_X12_readProduct_39 rcM 58 d (fun st => P_X12_readProduct_5 rcM 58 d post f st) post (-22) st := ⟨⟨_, rfl⟩, h⟩
      have K : P_X12_readProduct_23 rcM 58 d (fun st => P_X12_readProduct_5 rcM 58 d post f st) post st := ⟨⟨_, rfl⟩, s_mkd TK hi X (by decide) (fun _ => ⟨fun z => absurd z (by decide), fun _ => k39⟩) (fun z => absurd e z)⟩
      exact ⟨⟨_, rfl⟩, s_mkd TK hi X (by decide) (fun _ => ⟨fun _ => K, fun z => absurd z (by decide)⟩) (fun z => absurd e z)⟩
    · rename_i z1
      split at ho
      · rename_i e; injection ho with ho; subst ho
        have k39 : P_X12_readProduct_39 rcM 58 d (fun st => P_X12_readProduct_5 rcM 58 d post f st) post (-23) st := ⟨⟨_, rfl⟩, h⟩
        have K : P_X12_readProduct_23 rcM 58 d (fun st => P_X12_readProduct_5 rcM 58 d post f st) post st := ⟨⟨_, rfl⟩, s_mkd TK hi X (by decide) (fun z => absurd z z1) (fun _ => ⟨fun _ => k39, fun z => absurd rfl z⟩)⟩
        exact ⟨⟨_, rfl⟩, s_mkd TK hi X (by decide) (fun z => absurd z z1) (fun _ => ⟨fun z => absurd rfl z, fun _ => ⟨⟨_, rfl⟩, s_mkd TK hi X (by decide) (fun _ => ⟨fun z => absurd z (by decide), fun _ => K⟩) (fun z => absurd e z)⟩⟩)⟩
      · cases ho
theorem l_summ (TK : Tks T n τ) (hr : isRu r) (hmo : mo < 2) {B : Nat} (hB : B < 39) (hO : ∀ i len row D w, i ≤ n → len + w ≤ i → Wf kv row len D → D ≤ B + 1 → Res T n τ r kv mo True (P_X4_readProduct rc 34 d) (P_X12_readProduct rcM 58 d) (D + 1) w i len row) {D w i len : Nat} {row : Nat → Int32} (hi : i ≤ n) (hl : len + w ≤ i) (hW : Wf kv row len D) (hD : D ≤ B) : Res T n τ r kv mo True (P_X4_readSum rc 34 d) (P_X12_readSum rcM 58 d) (D + 1) w i len row := by
  have LC0 : ∀ (post : Int32 → St → Prop) st f x, post 0 st → P_X4_readSum_8 rc 34 d post (f + 1) 0 x st := fun post st f x h => by
    unfold P_X4_readSum_8
    exact ⟨fun _ => ⟨Or.inl rfl, h⟩, fun _ => ⟨fun _ => ⟨Or.inl rfl, h⟩, fun z => absurd rfl z⟩⟩
  have LMe : ∀ (post : St → Prop) st f, ¬ gI st 58 23 = 0 → post st → P_X12_readSum_5 rcM 58 d post (f + 1) st := fun post st f hb h => N_sum5 hb h
  refine chain TK (LC := fun post f x2 x3 st => P_X4_readSum_8 rc 34 d post f x2 x3 st) (LM := fun post f st => P_X12_readSum_5 rcM 58 d post f st) LC0 LMe (hO i len row D w hi hl hW (by omega)) (fun i' len' row' k1 k2 k3 k4 => chain_loop TK hr hmo hB (opd := opS) (LC := fun post f x2 x3 st => P_X4_readSum_8 rc 34 d post f x2 x3 st) (LM := fun post f st => P_X12_readSum_5 rcM 58 d post f st) ?_ LC0 ?_ ?_ LMe ?_ ?_ hO (n + 1) i' len' row' D w 0 (by omega) k2 (Nat.zero_le _) k3 k4 hD)
  · intro t c h
    unfold opS at h
    split at h
    · rename_i e; injection h with h; subst h; exact ⟨Or.inl (by rw [e]; decide), by decide, by decide, by decide⟩
    · split at h
      · rename_i e; injection h with h; subst h; exact ⟨Or.inl (by rw [e]; decide), by decide, by decide, by decide⟩
      · cases h
  · intro post st f t i len row hi X ho h
    have e8 := X.2.1.2.2.2.2.2.2
    unfold opS at ho
    split at ho
    · cases ho
    · rename_i z1
      split at ho
      · cases ho
      · rename_i z2
        show P_X4_readSum_8 rc 34 d post (f + 1) 1 (iN t) st
        unfold P_X4_readSum_8
        exact ⟨fun _ => ⟨Or.inr rfl, h⟩, fun _ => ⟨fun z => absurd z (by decide), fun _ => ⟨35, rfl, rfl, fun z => absurd (e8.symm.trans z) z1, fun _ => ⟨35, rfl, rfl, fun _ => ⟨Or.inr rfl, h⟩, fun z => absurd (e8.symm.trans z) z2⟩⟩⟩⟩
  · intro post st f t i len row c ht X ho h
    have e8 := X.2.1.2.2.2.2.2.2
    show P_X4_readSum_8 rc 34 d post (f + 1) 1 (iN t) st
    unfold P_X4_readSum_8
    unfold opS at ho
    have nt : ¬ (700 : Int32) ≤ iN t := nle (a := 700) (by decide) ht
    have k62 : P_X4_readSum_62 rc 34 d (fun x2 x3 st => P_X4_readSum_8 rc 34 d post f x2 x3 st) post (iN t) c st := ⟨35, rfl, ⟨_, rfl⟩, h⟩
    split at ho
    · rename_i e; injection ho with ho; subst ho
      have K : P_X4_readSum_43 rc 34 d (fun x2 x3 st => P_X4_readSum_8 rc 34 d post f x2 x3 st) post (iN t) st := ⟨35, rfl, rfl, fun z => absurd (e8.trans e) z, fun _ => k62⟩
      exact ⟨fun z => absurd z nt, fun _ => ⟨fun z => absurd z (by decide), fun _ => ⟨35, rfl, rfl, fun _ => K, fun z => absurd (e8.trans e) z⟩⟩⟩
    · rename_i z1
      split at ho
      · rename_i e; injection ho with ho; subst ho
        have K : P_X4_readSum_43 rc 34 d (fun x2 x3 st => P_X4_readSum_8 rc 34 d post f x2 x3 st) post (iN t) st := ⟨35, rfl, rfl, fun _ => k62, fun z => absurd (e8.symm.trans z) z1⟩
        exact ⟨fun z => absurd z nt, fun _ => ⟨fun z => absurd z (by decide), fun _ => ⟨35, rfl, rfl, fun z => absurd (e8.symm.trans z) z1, fun _ => ⟨35, rfl, rfl, fun z => absurd (e8.trans e) z, fun _ => K⟩⟩⟩⟩
      · cases ho
  · intro post st f i len row hi X ho h
    unfold opS at ho
    split at ho
    · cases ho
    · rename_i z1
      split at ho
      · cases ho
      · rename_i z2
        show P_X12_readSum_5 rcM 58 d post (f + 1) st
        unfold P_X12_readSum_5
        exact ⟨⟨_, rfl⟩, s_mkd TK hi X (by decide) (fun e => absurd e z1) (fun _ => ⟨fun z => absurd rfl z, fun _ => ⟨⟨_, rfl⟩, s_mkd TK hi X (by decide) (fun e => absurd e z2) (fun _ => ⟨fun _ => h, fun z => absurd rfl z⟩)⟩⟩)⟩
  · intro post st f i len row c hi X ho h
    show P_X12_readSum_5 rcM 58 d post (f + 1) st
    unfold P_X12_readSum_5
    unfold opS at ho
    split at ho
    · rename_i e; injection ho with ho; subst ho
      have k39 : P_X12_readSum_39 rcM 58 d (fun st => P_X12_readSum_5 rcM 58 d post f st) post (-20) st := ⟨⟨_, rfl⟩, h⟩
      have K : P_X12_readSum_23 rcM 58 d (fun st => P_X12_readSum_5 rcM 58 d post f st) post st := ⟨⟨_, rfl⟩, s_mkd TK hi X (by decide) (fun _ => ⟨fun z => absurd z (by decide), fun _ => k39⟩) (fun z => absurd e z)⟩
      exact ⟨⟨_, rfl⟩, s_mkd TK hi X (by decide) (fun _ => ⟨fun _ => K, fun z => absurd z (by decide)⟩) (fun z => absurd e z)⟩
    · rename_i z1
      split at ho
      · rename_i e; injection ho with ho; subst ho
        have k39 : P_X12_readSum_39 rcM 58 d (fun st => P_X12_readSum_5 rcM 58 d post f st) post (-21) st := ⟨⟨_, rfl⟩, h⟩
        have K : P_X12_readSum_23 rcM 58 d (fun st => P_X12_readSum_5 rcM 58 d post f st) post st := ⟨⟨_, rfl⟩, s_mkd TK hi X (by decide) (fun z => absurd z z1) (fun _ => ⟨fun _ => k39, fun z => absurd rfl z⟩)⟩
        exact ⟨⟨_, rfl⟩, s_mkd TK hi X (by decide) (fun z => absurd z z1) (fun _ => ⟨fun z => absurd rfl z, fun _ => ⟨⟨_, rfl⟩, s_mkd TK hi X (by decide) (fun _ => ⟨fun z => absurd z (by decide), fun _ => K⟩) (fun z => absurd e z)⟩⟩)⟩
      · cases ho
theorem wok (TK : Tks T n τ) {st : St} {i len : Nat} {row : Nat → Int32} (hi : i ≤ n) (X : CX T n τ r kv st i len row) : wOk (gR st 35 7) := by
  intro j hj
  rw [X.2.1.2.2.2.2.2.1] at hj
  obtain ⟨N1, N2, N3, N4, N5, N6, _⟩ := (TK.2 i hi).1
  rcases N6 with y | ⟨w, hw, y⟩
  · rw [y] at hj; cases hj
  · rw [y] at hj; injection hj with hj; subst hj; exact ⟨by omega, by omega⟩
theorem wok8 : wOk (some 1008) := fun j hj => by injection hj with hj; subst hj; exact ⟨by decide, by decide⟩
theorem wok9 : wOk (some 1009) := fun j hj => by injection hj with hj; subst hj; exact ⟨by decide, by decide⟩
theorem wok10 : wOk (some 1010) := fun j hj => by injection hj with hj; subst hj; exact ⟨by decide, by decide⟩
theorem l_both (TK : Tks T n τ) (hr : isRu r) (hmo : mo < 2) {B : Nat} (hB : B < 39) (hO : ∀ i len row D w, i ≤ n → len + w ≤ i → Wf kv row len D → D ≤ B + 1 → Res T n τ r kv mo True (P_X4_readNot rc 34 d) (P_X12_readNot rcM 58 d) (D + 1) w i len row) {D w i len : Nat} {row : Nat → Int32} (hi : i ≤ n) (hl : len + w ≤ i) (hW : Wf kv row len D) (hD : D ≤ B) : Res T n τ r kv mo True (P_X4_readBoth rc 34 d) (P_X12_readAnd rcM 58 d) (D + 1) w i len row := by
  have LC0 : ∀ (post : Int32 → St → Prop) st f x, post 0 st → P_X4_readBoth_8 rc 34 d post (f + 1) 0 x st := fun post st f x h => by
    unfold P_X4_readBoth_8
    exact ⟨fun _ => ⟨Or.inl rfl, h⟩, fun _ => ⟨fun _ => ⟨Or.inl rfl, h⟩, fun z => absurd rfl z⟩⟩
  have LMe : ∀ (post : St → Prop) st f, ¬ gI st 58 23 = 0 → post st → P_X12_readAnd_5 rcM 58 d post (f + 1) st := fun post st f hb h => N_and5 hb h
  refine chain TK (LC := fun post f x2 x3 st => P_X4_readBoth_8 rc 34 d post f x2 x3 st) (LM := fun post f st => P_X12_readAnd_5 rcM 58 d post f st) LC0 LMe (hO i len row D w hi hl hW (by omega)) (fun i' len' row' k1 k2 k3 k4 => chain_loop TK hr hmo hB (opd := opA) (LC := fun post f x2 x3 st => P_X4_readBoth_8 rc 34 d post f x2 x3 st) (LM := fun post f st => P_X12_readAnd_5 rcM 58 d post f st) ?_ LC0 ?_ ?_ LMe ?_ ?_ hO (n + 1) i' len' row' D w 0 (by omega) k2 (Nat.zero_le _) k3 k4 hD)
  · intro t c h
    unfold opA at h
    split at h
    · rename_i e; injection h with h; subst h; exact ⟨Or.inr ⟨_, e⟩, by decide, by decide, by decide⟩
    · cases h
  · intro post st f t i len row hi X ho h
    have e7 := X.2.1.2.2.2.2.2.1
    unfold opA at ho
    split at ho
    · cases ho
    · rename_i z1
      show P_X4_readBoth_8 rc 34 d post (f + 1) 1 (iN t) st
      unfold P_X4_readBoth_8
      exact ⟨fun _ => ⟨Or.inr rfl, h⟩, fun _ => ⟨fun z => absurd z (by decide), fun _ => ⟨35, rfl, rfl, wok TK hi X, wok9, fun _ => ⟨Or.inr rfl, h⟩, fun z => absurd (e7.symm.trans z) z1⟩⟩⟩
  · intro post st f t i len row c ht X ho h
    have e7 := X.2.1.2.2.2.2.2.1
    show P_X4_readBoth_8 rc 34 d post (f + 1) 1 (iN t) st
    unfold P_X4_readBoth_8
    unfold opA at ho
    have nt : ¬ (700 : Int32) ≤ iN t := nle (a := 700) (by decide) ht
    split at ho
    · rename_i e; injection ho with ho; subst ho
      have w9 : wOk (gR st 35 7) := fun j hj => by rw [e7, e] at hj; injection hj with hj; subst hj; exact ⟨by decide, by decide⟩
      exact ⟨fun z => absurd z nt, fun _ => ⟨fun z => absurd z (by decide), fun _ => ⟨35, rfl, rfl, w9, wok9, fun z => absurd (e7.trans e) z, fun _ => ⟨35, rfl, ⟨_, rfl⟩, h⟩⟩⟩⟩
    · cases ho
  · intro post st f i len row hi X ho h
    unfold opA at ho
    split at ho
    · cases ho
    · rename_i z1
      show P_X12_readAnd_5 rcM 58 d post (f + 1) st
      unfold P_X12_readAnd_5
      exact ⟨⟨_, rfl⟩, s_isW (w := 9) TK hi X (by decide) (fun e => absurd e z1) (fun _ => ⟨fun _ => h, fun z => absurd rfl z⟩)⟩
  · intro post st f i len row c hi X ho h
    show P_X12_readAnd_5 rcM 58 d post (f + 1) st
    unfold P_X12_readAnd_5
    unfold opA at ho
    split at ho
    · rename_i e; injection ho with ho; subst ho
      exact ⟨⟨_, rfl⟩, s_isW (w := 9) TK hi X (by decide) (fun _ => ⟨fun z => absurd z (by decide), fun _ => ⟨⟨_, rfl⟩, h⟩⟩) (fun z => absurd e z)⟩
    · cases ho
theorem l_either (TK : Tks T n τ) (hr : isRu r) (hmo : mo < 2) {B : Nat} (hB : B < 39) (hO : ∀ i len row D w, i ≤ n → len + w ≤ i → Wf kv row len D → D ≤ B + 1 → Res T n τ r kv mo True (P_X4_readBoth rc 34 d) (P_X12_readAnd rcM 58 d) (D + 1) w i len row) {D w i len : Nat} {row : Nat → Int32} (hi : i ≤ n) (hl : len + w ≤ i) (hW : Wf kv row len D) (hD : D ≤ B) : Res T n τ r kv mo True (fun st post => oC 34 4 ∧ P_X4_readBoth rc 34 d st (fun z_1 st_2 => ∃ n8, P_X4_readEither_31 rc 34 d post n8 z_1 0 st_2)) (fun st post => P_X12_readExpression_62 rcM 58 d post st) (D + 1) w i len row := by
  have LC0 : ∀ (post : Int32 → St → Prop) st f x, post 0 st → P_X4_readEither_31 rc 34 d post (f + 1) 0 x st := fun post st f x h => by
    unfold P_X4_readEither_31
    exact ⟨fun _ => ⟨Or.inl rfl, h⟩, fun _ => ⟨fun _ => ⟨Or.inl rfl, h⟩, fun z => absurd rfl z⟩⟩
  have LMe : ∀ (post : St → Prop) st f, ¬ gI st 58 23 = 0 → post st → P_X12_readExpression_67 rcM 58 d post (f + 1) st := fun post st f hb h => N_or67 hb h
  refine chain TK (LC := fun post f x2 x3 st => P_X4_readEither_31 rc 34 d post f x2 x3 st) (LM := fun post f st => P_X12_readExpression_67 rcM 58 d post f st) LC0 LMe (hO i len row D w hi hl hW (by omega)) (fun i' len' row' k1 k2 k3 k4 => chain_loop TK hr hmo hB (opd := opO) (LC := fun post f x2 x3 st => P_X4_readEither_31 rc 34 d post f x2 x3 st) (LM := fun post f st => P_X12_readExpression_67 rcM 58 d post f st) ?_ LC0 ?_ ?_ LMe ?_ ?_ hO (n + 1) i' len' row' D w 0 (by omega) k2 (Nat.zero_le _) k3 k4 hD)
  · intro t c h
    unfold opO at h
    split at h
    · rename_i e; injection h with h; subst h; exact ⟨Or.inr ⟨_, e⟩, by decide, by decide, by decide⟩
    · cases h
  · intro post st f t i len row hi X ho h
    have e7 := X.2.1.2.2.2.2.2.1
    unfold opO at ho
    split at ho
    · cases ho
    · rename_i z1
      show P_X4_readEither_31 rc 34 d post (f + 1) 1 (iN t) st
      unfold P_X4_readEither_31
      exact ⟨fun _ => ⟨Or.inr rfl, h⟩, fun _ => ⟨fun z => absurd z (by decide), fun _ => ⟨35, rfl, rfl, wok TK hi X, wok8, fun _ => ⟨Or.inr rfl, h⟩, fun z => absurd (e7.symm.trans z) z1⟩⟩⟩
  · intro post st f t i len row c ht X ho h
    have e7 := X.2.1.2.2.2.2.2.1
    show P_X4_readEither_31 rc 34 d post (f + 1) 1 (iN t) st
    unfold P_X4_readEither_31
    unfold opO at ho
    have nt : ¬ (700 : Int32) ≤ iN t := nle (a := 700) (by decide) ht
    split at ho
    · rename_i e; injection ho with ho; subst ho
      have w8 : wOk (gR st 35 7) := fun j hj => by rw [e7, e] at hj; injection hj with hj; subst hj; exact ⟨by decide, by decide⟩
      exact ⟨fun z => absurd z nt, fun _ => ⟨fun z => absurd z (by decide), fun _ => ⟨35, rfl, rfl, w8, wok8, fun z => absurd (e7.trans e) z, fun _ => ⟨35, rfl, ⟨_, rfl⟩, h⟩⟩⟩⟩
    · cases ho
  · intro post st f i len row hi X ho h
    unfold opO at ho
    split at ho
    · cases ho
    · rename_i z1
      show P_X12_readExpression_67 rcM 58 d post (f + 1) st
      unfold P_X12_readExpression_67
      exact ⟨⟨_, rfl⟩, s_isW (w := 8) TK hi X (by decide) (fun e => absurd e z1) (fun _ => ⟨fun _ => h, fun z => absurd rfl z⟩)⟩
  · intro post st f i len row c hi X ho h
    show P_X12_readExpression_67 rcM 58 d post (f + 1) st
    unfold P_X12_readExpression_67
    unfold opO at ho
    split at ho
    · rename_i e; injection ho with ho; subst ho
      exact ⟨⟨_, rfl⟩, s_isW (w := 8) TK hi X (by decide) (fun _ => ⟨fun z => absurd z (by decide), fun _ => ⟨⟨_, rfl⟩, h⟩⟩) (fun z => absurd e z)⟩
    · cases ho
end Ch
