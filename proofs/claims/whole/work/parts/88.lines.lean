/-! PURE: lines: the small steps without a rule -/
def MT (T : Nat → Int32) (n : Nat) (τ : Nat → Tok) (st : St) (i : Nat) : Prop := TxM T n st ∧ TkM st (τ i) ∧ gI st 58 23 = 0 ∧ True
def MWl (a b : St) : Prop := Fx MWi noS a b
theorem MWl.rf {a : St} : MWl a a := Fx.rf
theorem MWl.tr {a b c : St} (h1 : MWl a b) (h2 : MWl b c) : MWl a c := Fx.tr h1 h2
theorem MWl.fx {I : Nat → Nat → Prop} {a b : St} (h : Fx I noS a b) (hI : ∀ o k, I o k → MWi o k) : MWl a b := Fx.wk h hI (fun _ z => z)
theorem MWl.fr {a b : St} (h : FrT a b) : MWl a b := MWl.fx h itk_mw
section L1
variable {T : Nat → Int32} {n : Nat} {τ : Nat → Tok} {i : Nat} {st : St}
theorem s_stepXL (TK : Tks T n τ) {st : St} {i : Nat} (hi : i ≤ n) (X : MT T n τ st i) {post : St → Prop} (h : ∀ st', MWl st st' → MT T n τ st' (tE (τ i)) → post st') : P_X12_stepOn 58 st post := by
  obtain ⟨x1, x2, x3, _⟩ := X
  have N := (TK.2 i hi).1
  refine (TK.2 (tE (τ i)) N.2.2.1).2.2 st post x1 x2.1 (fun st' F K => h st' (MWl.fr F) ⟨x1.fr F, K, ?_, trivial⟩)
  rw [F.eI (by unfold ITk; decide)]; exact x3
theorem s_mkdL (TK : Tks T n τ) (hi : i ≤ n) (X : MT T n τ st i) {c : Int32} (hc : c ≠ 0) {post : Int32 → St → Prop} (h1 : tS (τ i) = c → post 1 st) (h0 : tS (τ i) ≠ c → post 0 st) : P_X12_isMarked 58 c st post := by
  obtain ⟨x1, x2, x3, _⟩ := X
  obtain ⟨N1, N2, N3, N4, N5, N6, N7, N8, N9, N10, N11⟩ := (TK.2 i hi).1
  have n7 := TK.1
  unfold P_X12_isMarked
  rw [x3, x2.2.1, x2.2.2.1]
  refine ⟨rfl, fun z => absurd rfl z, fun _ => ⟨rfl, fun z => ⟨Or.inl rfl, h0 ?_⟩, fun z => ?_⟩⟩
  · have : tK (τ i) ≠ 3 := fun e => z (by rw [e]; rfl)
    rw [N9 this]; exact Ne.symm hc
  · have k3 : tK (τ i) = 3 := (iN_eq (b := 3) (by omega) (by decide)).mp z
    have lt := N4 (by omega)
    refine ⟨72, rfl, rfl, (show vp_in (iN (tB (τ i))) 700 from iN_vp (by omega) (by decide)), ?_⟩
    rw [iN_cl (by omega), x1.2 _ (by omega), ← N8 k3]
    exact ⟨fun z => ⟨Or.inl rfl, h0 z⟩, fun z => ⟨Or.inr rfl, h1 z⟩⟩
theorem s_isWL (TK : Tks T n τ) (hi : i ≤ n) (X : MT T n τ st i) {w : Nat} (hw : w < 19) {post : Int32 → St → Prop} (h1 : tW (τ i) = some (1000 + w) → post 1 st) (h0 : tW (τ i) ≠ some (1000 + w) → post 0 st) : P_X12_is 58 (2000 + w) st post := by
  obtain ⟨x1, x2, x3, _⟩ := X
  obtain ⟨N1, N2, N3, N4, N5, N6, N7, N8, N9, N10, N11⟩ := (TK.2 i hi).1
  have n7 := TK.1
  have h10 := kl_lt w (by omega)
  have k2 := kOk2 (w := w) (by omega)
  have no : tW (τ i) ≠ some (1000 + w) → P_X12_is_35 58 (2000 + w) post st := fun z => ⟨1, fun _ => ⟨Or.inl rfl, h0 z⟩, fun z => absurd rfl z⟩
  unfold P_X12_is
  rw [x3, x2.2.1]
  refine ⟨rfl, fun z => absurd rfl z, fun _ => ⟨rfl, fun z => no (fun e => z (by rw [((N7 w hw).mp e).1]; rfl)), fun z => ⟨k2, s_len (by omega) ?_⟩⟩⟩
  have k1 : tK (τ i) = 1 := (iN_eq (b := 1) (by omega) (by decide)).mp z
  have lt := N4 (by omega)
  have ed : iN (tE (τ i)) - iN (tB (τ i)) = iN (tE (τ i) - tB (τ i)) := by
    have : iN (tE (τ i)) = iN (tE (τ i) - tB (τ i)) + iN (tB (τ i)) := by rw [← iN_add]; congr 1; omega
    rw [this]; exact Int32.add_sub_cancel _ _
  rw [x2.2.2.2.1, x2.2.2.1, ed]
  refine ⟨rfl, rfl, fun z => no (fun e => z ?_), fun z => ?_⟩
  · have := ((N7 w hw).mp e).2.1
    rw [show tE (τ i) - tB (τ i) = kL.getD w 0 by omega]
  have hl : kL.getD w 0 = tE (τ i) - tB (τ i) := (iN_eq (by omega) (by omega)).mp z
  refine ⟨kL.getD w 0 + 1, loop_up (P := fun m k a st => P_X12_is_39 58 (2000 + w) post m a k st) (N := kL.getD w 0) (fun k a st' => st' = st ∧ ((a = 1 ∧ ∀ k', k' < k → T (tB (τ i) + k') = chW w k') ∨ (a = 0 ∧ tW (τ i) ≠ some (1000 + w)))) ?_ ?_ (kL.getD w 0) 0 1 st (by omega) ⟨rfl, Or.inl ⟨rfl, fun k hk => absurd hk (Nat.not_lt_zero _)⟩⟩⟩
  · rintro k hk a st' m ⟨rfl, J⟩ ih
    show P_X12_is_39 58 (2000 + w) post (m + 1) a (iN k) st'
    unfold P_X12_is_39
    have eb : iN (tB (τ i)) + iN k = iN (tB (τ i) + k) := (iN_add _ _).symm
    refine ⟨fun ha => ⟨Or.inl ha, ?_⟩, fun ha => ⟨k2, s_len (by omega) ⟨fun hz => absurd hz (nle (by omega) hk), fun _ => ⟨k2, s_chr (by omega) hk ⟨72, rfl, rfl, ?_⟩⟩⟩⟩⟩
    · rcases J with ⟨rfl, _⟩ | ⟨rfl, z⟩
      · exact absurd ha (by decide)
      · exact h0 z
    · have J1 : ∀ k', k' < k → T (tB (τ i) + k') = chW w k' := by
        rcases J with ⟨_, z⟩ | ⟨rfl, _⟩
        · exact z
        · exact absurd rfl ha
      rw [x2.2.2.1, eb, iN_cl (by omega), x1.2 _ (by omega)]
      refine ⟨(show vp_in (iN (tB (τ i) + k)) 700 from iN_vp (by omega) (by decide)), fun hz => ?_, fun hz => ?_⟩
      · show P_X12_is_39 58 (2000 + w) post m 0 (iN k + 1) st'
        rw [iN_s]
        exact ih _ _ ⟨rfl, Or.inr ⟨rfl, fun e => hz (((N7 w hw).mp e).2.2 k hk).symm⟩⟩
      · show P_X12_is_39 58 (2000 + w) post m 1 (iN k + 1) st'
        rw [iN_s]
        refine ih _ _ ⟨rfl, Or.inl ⟨rfl, fun k' hk' => ?_⟩⟩
        by_cases e9 : k' = k
        · rw [e9]; exact hz.symm
        · exact J1 k' (by omega)
  · rintro a st' m ⟨rfl, J⟩
    show P_X12_is_39 58 (2000 + w) post (m + 1) a (iN (kL.getD w 0)) st'
    unfold P_X12_is_39
    rcases J with ⟨rfl, z⟩ | ⟨rfl, z⟩
    · exact ⟨fun y => absurd y (by decide), fun _ => ⟨k2, s_len (by omega) ⟨fun _ => ⟨Or.inr rfl, h1 ((N7 w hw).mpr ⟨k1, by omega, z⟩)⟩, fun y => absurd (Int32.le_refl _) y⟩⟩⟩
    · exact ⟨fun _ => ⟨Or.inl rfl, h0 z⟩, fun y => absurd rfl y⟩
theorem s_whichL (TK : Tks T n τ) (hi : i ≤ n) (X : MT T n τ st i) {a w0 m : Nat} (hA : wsA a w0 m) {post : Int32 → St → Prop} (h1 : ∀ k, k < m → tW (τ i) = some (1000 + (w0 + k)) → post (iN k) st) (h0 : (∀ k, k < m → tW (τ i) ≠ some (1000 + (w0 + k))) → post (-1) st) : P_X12_which 58 a st post := by
  obtain ⟨a1, a2, a3, a4⟩ := hA
  have ea : Int32.ofNat (al 3 a) = iN m := by rw [a1]; rfl
  refine ⟨m + 1, loop_up (α := Unit) (P := fun n8 k _ st => P_X12_which_2 58 a post n8 k st) (N := m) (fun k _ st' => st' = st ∧ ∀ k', k' < k → tW (τ i) ≠ some (1000 + (w0 + k'))) ?_ ?_ m 0 () st (by omega) ⟨rfl, fun k hk => absurd hk (Nat.not_lt_zero _)⟩⟩
  · rintro k hk _ st' n8 ⟨rfl, J⟩ ih
    show P_X12_which_2 58 a post (n8 + 1) (iN k) st'
    unfold P_X12_which_2
    rw [ea, a1, iN_cl (by omega), iN_s]
    refine ⟨a2, fun hz => absurd hz (nle (by omega) hk), fun _ => ⟨iN_vp hk (by omega), 2000 + (w0 + k), a4 k hk, ⟨_, rfl⟩, s_isWL TK hi X (by omega) (fun e => ⟨fun z => absurd z (by decide), fun _ => h1 k hk e⟩) (fun e => ⟨fun _ => ih () st' ⟨rfl, fun k' hk' => ?_⟩, fun z => absurd rfl z⟩)⟩⟩
    by_cases e9 : k' = k
    · rw [e9]; exact e
    · exact J k' (by omega)
  · rintro _ st' n8 ⟨rfl, J⟩
    show P_X12_which_2 58 a post (n8 + 1) (iN m) st'
    unfold P_X12_which_2
    rw [ea, a1]
    exact ⟨a2, fun _ => h0 J, fun z => absurd (Int32.le_refl _) z⟩
theorem s_wrongL {st : St} {i : Nat} (X : MT T n τ st i) (k : Nat) {post : St → Prop} (h : ∀ st', MWl st st' → ME st' k (tB (τ i)) → post st') : P_X12_wrong 58 (iN k) st post := by
  refine ⟨rfl, fun _ => ⟨rfl, rfl, rfl, ?_⟩, fun z => absurd X.2.2.1 z⟩
  rw [gI_sI_ne (by decide), X.2.1.2.2.1]
  refine h _ (MWl.fx (I := MWi) ((Fx.si (k := 23) (by unfold MWi; decide) _).tr (Fx.si (k := 24) (by unfold MWi; decide) _)) (fun _ _ z => z)) ⟨?_, gI_sI _ _ _ _⟩
  rw [gI_sI_ne (by decide), gI_sI]
theorem s_markL (TK : Tks T n τ) {st : St} {i : Nat} (hi : i ≤ n) (X : MT T n τ st i) {c : Int32} (hc : c ≠ 0) {post : St → Prop} (h1 : tS (τ i) = c → ∀ st', MWl st st' → MT T n τ st' (tE (τ i)) → post st') (h0 : tS (τ i) ≠ c → ∀ st', MWl st st' → ME st' 1 (tB (τ i)) → post st') : P_X12_mark 58 c st post := by
  refine ⟨rfl, fun z => absurd X.2.2.1 z, fun _ => ⟨⟨_, rfl⟩, s_mkdL TK hi X hc (fun e => ⟨fun _ => ⟨rfl, fun z => absurd X.2.2.1 z, fun _ => ⟨⟨_, rfl⟩, s_stepXL TK hi X (fun st' F Y => h1 e st' F Y)⟩⟩, fun z => absurd z (by decide)⟩) (fun e => ⟨fun z => absurd rfl z, fun _ => ⟨⟨_, rfl⟩, s_wrongL X 1 (fun st' F E => ?_)⟩⟩)⟩⟩
  exact ⟨rfl, fun _ => h0 e st' F E, fun z => absurd z (E.ne (by decide))⟩
theorem s_numNowL (TK : Tks T n τ) {st : St} {i : Nat} (hi : i ≤ n) (X : MT T n τ st i) {a b : Nat} (ha : a < 100000) (hb : b < 100000) {post : Int32 → St → Prop} (h1 : tK (τ i) = 2 → tL (τ i) = false → a ≤ tN (τ i) → tN (τ i) ≤ b → post (iN (tN (τ i))) st) (h2 : tK (τ i) = 2 → (tL (τ i) = true ∨ ¬ (a ≤ tN (τ i) ∧ tN (τ i) ≤ b)) → ∀ st', MWl st st' → ME st' 2 (tB (τ i)) → post 0 st') (h3 : tK (τ i) ≠ 2 → ∀ st', MWl st st' → ME st' 1 (tB (τ i)) → post 0 st') : P_X12_numberNow 58 (iN a) (iN b) st post := by
  obtain ⟨N1, N2, N3, N4, N5, N6, N7, N8, N9, N10, N11⟩ := (TK.2 i hi).1
  have n7 := TK.1
  obtain ⟨x1, ⟨t17, t19, t21, t22, t20⟩, x3, x4⟩ := X
  have X : MT T n τ st i := ⟨x1, ⟨t17, t19, t21, t22, t20⟩, x3, x4⟩
  have ed : iN (tE (τ i)) - iN (tB (τ i)) = iN (tE (τ i) - tB (τ i)) := by
    have : iN (tE (τ i)) = iN (tE (τ i) - tB (τ i)) + iN (tB (τ i)) := by rw [← iN_add]; congr 1; omega
    rw [this]; exact Int32.add_sub_cancel _ _
  have bad : ∀ k, (0 < k ∧ k < 10) → (∀ st', MWl st st' → ME st' k (tB (τ i)) → post 0 st') → P_X12_wrong 58 (iN k) st (fun s2 => P_X12_numberNow_59 58 (iN a) (iN b) post s2) := fun k hk h => s_wrongL X k (fun st' F E => ⟨rfl, fun _ => h st' F E, fun z => absurd z (E.ne hk)⟩)
  unfold P_X12_numberNow
  rw [x3, t19, t22, t21, ed]
  refine ⟨rfl, fun _ => ⟨rfl, fun z => ⟨rfl, rfl, fun y => ⟨⟨_, rfl⟩, bad 2 (by decide) ?_⟩, fun y => ⟨rfl, ?_⟩⟩, fun z => ⟨⟨_, rfl⟩, bad 1 (by decide) (h3 (fun e => z (by rw [e]; rfl)))⟩⟩, fun z => absurd rfl z⟩
  · have k2 : tK (τ i) = 2 := (iN_eq (b := 2) (by omega) (by decide)).mp z
    have y : iN 4 < iN (tE (τ i) - tB (τ i)) := y
    rw [iN_lt (by omega) (by omega)] at y
    exact h2 k2 (Or.inl (N10.mpr ⟨k2, y⟩))
  · have k2 : tK (τ i) = 2 := (iN_eq (b := 2) (by omega) (by decide)).mp z
    have y : ¬ iN 4 < iN (tE (τ i) - tB (τ i)) := y
    rw [iN_lt (by omega) (by omega)] at y
    have l0 : tL (τ i) = false := by
      cases hL : tL (τ i) with
      | false => rfl
      | true => exact absurd (N10.mp hL).2 y
    rw [t20 k2 l0]
    refine ⟨fun u => ⟨⟨_, rfl⟩, bad 2 (by decide) (h2 k2 (Or.inr ?_))⟩, fun u => ⟨rfl, fun v => ⟨rfl, fun q => absurd x3 q, fun _ => ⟨rfl, ?_⟩⟩, fun v => ⟨⟨_, rfl⟩, bad 2 (by decide) (h2 k2 (Or.inr ?_))⟩⟩⟩
    · rw [iN_lt (by omega) (by omega)] at u; omega
    · rw [iN_lt (by omega) (by omega)] at u
      rw [iN_le (by omega) (by omega)] at v
      show post (gI st 58 20) st
      rw [t20 k2 l0]
      exact h1 k2 l0 (by omega) v
    · rw [iN_le (by omega) (by omega)] at v; omega
theorem s_readNumL (TK : Tks T n τ) {st : St} {i : Nat} (hi : i ≤ n) (X : MT T n τ st i) {a b : Nat} (ha : a < 100000) (hb : b < 100000) {post : Int32 → St → Prop} (h1 : tK (τ i) = 2 → tL (τ i) = false → a ≤ tN (τ i) → tN (τ i) ≤ b → ∀ st', MWl st st' → MT T n τ st' (tE (τ i)) → post (iN (tN (τ i))) st') (h2 : tK (τ i) = 2 → (tL (τ i) = true ∨ ¬ (a ≤ tN (τ i) ∧ tN (τ i) ≤ b)) → ∀ st', MWl st st' → ME st' 2 (tB (τ i)) → post 0 st') (h3 : tK (τ i) ≠ 2 → ∀ st', MWl st st' → ME st' 1 (tB (τ i)) → post 0 st') : P_X12_readNumber 58 (iN a) (iN b) st post :=
  ⟨⟨_, rfl⟩, s_numNowL TK hi X ha hb (fun k1 k2 k3 k4 => ⟨rfl, fun z => absurd X.2.2.1 z, fun _ => ⟨⟨_, rfl⟩, s_stepXL TK hi X (fun st' F Y => h1 k1 k2 k3 k4 st' F Y)⟩⟩) (fun k1 k2 st' F E => ⟨rfl, fun _ => h2 k1 k2 st' F E, fun z => absurd z (E.ne (by decide))⟩) (fun k1 st' F E => ⟨rfl, fun _ => h3 k1 st' F E, fun z => absurd z (E.ne (by decide))⟩)⟩

/-! the class -/
def CT (T : Nat → Int32) (n : Nat) (τ : Nat → Tok) (st : St) (i : Nat) : Prop := TxD T n st ∧ TkF st (τ i)
def CWli (o k : Nat) : Prop := (o = 34 ∧ (k = 5 ∨ k = 6)) ∨ (o = 35 ∧ k ≠ 1)
def CWl (a b : St) : Prop := (∀ o k, ¬ CWli o k → gI b o k = gI a o k) ∧ (∀ o k, ¬ (o = 35 ∧ k = 7) → gR b o k = gR a o k) ∧ ∀ x, gA b x = gA a x
theorem CWl.rf {a : St} : CWl a a := ⟨fun _ _ _ => rfl, fun _ _ _ => rfl, fun _ => rfl⟩
theorem CWl.tr {a b c : St} (h1 : CWl a b) (h2 : CWl b c) : CWl a c := ⟨fun o k q => (h2.1 o k q).trans (h1.1 o k q), fun o k q => (h2.2.1 o k q).trans (h1.2.1 o k q), fun x => (h2.2.2 x).trans (h1.2.2 x)⟩
theorem CWl.fr {a b : St} (h : Fr35 a b) : CWl a b := ⟨fun o k q => h.1 o k (fun z => q (Or.inr z)), h.2.1, h.2.2⟩
theorem CWl.s34 {a : St} {k : Nat} (hk : k = 5 ∨ k = 6) (v : Int32) : CWl a (sI a 34 k v) := ⟨fun o k2 q => gI_sI_ne (fun z => q (Or.inl ⟨z.1, by rw [z.2]; exact hk⟩)), fun _ _ _ => rfl, fun _ => rfl⟩
def CEl (st : St) (k pl : Nat) : Prop := gI st 34 6 = iN k ∧ gI st 35 4 = iN pl
theorem CT.er {st : St} {i : Nat} (X : CT T n τ st i) (k : Nat) : CWl st (sI st 34 6 (iN k)) ∧ CEl (sI st 34 6 (iN k)) k (tB (τ i)) := ⟨CWl.s34 (Or.inr rfl) _, gI_sI _ _ _ _, by rw [gI_sI_ne (by decide)]; exact X.2.2.2.1⟩
theorem CT.s34 {st : St} {i : Nat} (X : CT T n τ st i) {k : Nat} (hk : k ≠ 6) (v : Int32) : CT T n τ (sI st 34 k v) i := by
  obtain ⟨⟨⟨x1, x2⟩, x3⟩, t1, t2, t3, t4, t5, t6, t7⟩ := X
  exact ⟨⟨⟨by rw [gI_sI_ne (fun z => absurd z.1 (by decide))]; exact x1, x2⟩, by rw [gI_sI_ne (fun z => hk z.2.symm)]; exact x3⟩, by rw [gI_sI_ne (fun z => absurd z.1 (by decide))]; exact t1, by rw [gI_sI_ne (fun z => absurd z.1 (by decide))]; exact t2, by rw [gI_sI_ne (fun z => absurd z.1 (by decide))]; exact t3, by rw [gI_sI_ne (fun z => absurd z.1 (by decide))]; exact t4, by rw [gI_sI_ne (fun z => absurd z.1 (by decide))]; exact t5, t6, by rw [gI_sI_ne (fun z => absurd z.1 (by decide))]; exact t7⟩
theorem l_advF (TK : Tks T n τ) {st : St} {i : Nat} (hi : i ≤ n) (X : CT T n τ st i) {post : St → Prop} (h : ∀ st', Fr35 st st' → CT T n τ st' (tE (τ i)) → post st') : P_X8_advance 35 st post := by
  have N := (TK.2 i hi).1
  exact (TK.2 (tE (τ i)) N.2.2.1).2.1 st post X.1.1 X.2.1 (fun st' F K => h st' F ⟨X.1.fr F, K⟩)
theorem l_adv (TK : Tks T n τ) {st : St} {i : Nat} (hi : i ≤ n) (X : CT T n τ st i) {post : St → Prop} (h : ∀ st', CWl st st' → CT T n τ st' (tE (τ i)) → post st') : P_X8_advance 35 st post := by
  have N := (TK.2 i hi).1
  exact (TK.2 (tE (τ i)) N.2.2.1).2.1 st post X.1.1 X.2.1 (fun st' F K => h st' (CWl.fr F) ⟨X.1.fr F, K⟩)
theorem l_sign (TK : Tks T n τ) {st : St} {i : Nat} (hi : i ≤ n) (X : CT T n τ st i) {c : Int32} {post : Int32 → St → Prop} (h1 : tS (τ i) = c → ∀ st', CWl st st' → CT T n τ st' (tE (τ i)) → post 1 st') (h0 : tS (τ i) ≠ c → ∀ st', CWl st st' → CEl st' 1 (tB (τ i)) → post 0 st') : P_X4_takeSign 34 c st post := by
  have e8 := X.2.2.2.2.2.2.2
  refine ⟨35, rfl, rfl, fun z => ⟨35, rfl, ⟨_, rfl⟩, l_adv TK hi X (fun st' F Y => h1 (e8.symm.trans z) st' F Y)⟩, fun z => ⟨⟨_, rfl⟩, rfl, Or.inl rfl, ?_⟩⟩
  obtain ⟨F, E⟩ := X.er 1
  exact h0 (fun e => z (e8.trans e)) _ F E
theorem l_isN (TK : Tks T n τ) {st : St} {i : Nat} (hi : i ≤ n) (X : CT T n τ st i) {post : Int32 → St → Prop} (h1 : tK (τ i) = 2 → tL (τ i) = false → post 1 st) (h2 : tK (τ i) = 2 → tL (τ i) = true → ∀ st', CWl st st' → CEl st' 2 (tB (τ i)) → post 0 st') (h3 : tK (τ i) ≠ 2 → ∀ st', CWl st st' → CEl st' 1 (tB (τ i)) → post 0 st') : P_X4_isNumber 34 st post := by
  obtain ⟨N1, N2, N3, N4, N5, N6, N7, N8, N9, N10, N11⟩ := (TK.2 i hi).1
  have e3 := X.2.2.1
  have e6 := X.2.2.2.2.2.1
  refine ⟨35, rfl, rfl, fun z => ⟨35, rfl, rfl, fun y => ?_, fun y => ⟨⟨_, rfl⟩, rfl, fun _ => ⟨Or.inl rfl, ?_⟩, fun z => absurd rfl z⟩⟩, fun z => ⟨⟨_, rfl⟩, rfl, Or.inl rfl, ?_⟩⟩
  · have k2 : tK (τ i) = 2 := by rw [e3] at z; exact (iN_eq (b := 2) (by omega) (by decide)).mp z
    have l0 : tL (τ i) = false := by
      cases hL : tL (τ i) with
      | false => rfl
      | true => rw [e6, hL, if_pos rfl] at y; exact absurd y (by decide)
    exact ⟨Or.inr rfl, h1 k2 l0⟩
  · have k2 : tK (τ i) = 2 := by rw [e3] at z; exact (iN_eq (b := 2) (by omega) (by decide)).mp z
    have l1 : tL (τ i) = true := by
      cases hL : tL (τ i) with
      | false => rw [e6, hL] at y; exact absurd rfl y
      | true => rfl
    obtain ⟨F, E⟩ := X.er 2
    exact h2 k2 l1 _ F E
  · have k2 : tK (τ i) ≠ 2 := fun e => z (by rw [e3, e]; rfl)
    obtain ⟨F, E⟩ := X.er 1
    exact h3 k2 _ F E
theorem l_takeN (TK : Tks T n τ) {st : St} {i : Nat} (hi : i ≤ n) (X : CT T n τ st i) {a b : Nat} (ha : a < 100000) (hb : b < 100000) {post : Int32 → St → Prop} (h1 : tK (τ i) = 2 → tL (τ i) = false → a ≤ tN (τ i) → tN (τ i) ≤ b → ∀ st', CWl st st' → CT T n τ st' (tE (τ i)) → gI st' 34 5 = iN (tN (τ i)) → post 1 st') (h2 : tK (τ i) = 2 → (tL (τ i) = true ∨ ¬ (a ≤ tN (τ i) ∧ tN (τ i) ≤ b)) → ∀ st', CWl st st' → CEl st' 2 (tB (τ i)) → post 0 st') (h3 : tK (τ i) ≠ 2 → ∀ st', CWl st st' → CEl st' 1 (tB (τ i)) → post 0 st') : P_X4_takeNumber 34 (iN a) (iN b) st post := by
  obtain ⟨N1, N2, N3, N4, N5, N6, N7, N8, N9, N10, N11⟩ := (TK.2 i hi).1
  have e5 := X.2.2.2.2.1
  refine ⟨⟨_, rfl⟩, l_isN TK hi X (fun k1 k2 => ⟨fun _ => ⟨35, rfl, rfl, ?_⟩, fun z => absurd z (by decide)⟩) (fun k1 k2 st' F E => ⟨fun z => absurd rfl z, fun _ => h2 k1 (Or.inl k2) st' F E⟩) (fun k1 st' F E => ⟨fun z => absurd rfl z, fun _ => h3 k1 st' F E⟩)⟩
  rw [e5]
  have bad : ¬ (a ≤ tN (τ i) ∧ tN (τ i) ≤ b) → P_X4_takeNumber_31 34 (iN a) (iN b) post st := fun hn => by
    obtain ⟨F, E⟩ := X.er 2
    exact ⟨⟨_, rfl⟩, rfl, Or.inl rfl, h2 k1 (Or.inr hn) _ F E⟩
  refine ⟨fun z => bad (fun y => ?_), fun z => ⟨35, rfl, rfl, ?_⟩⟩
  · rw [iN_lt (by omega) (by omega)] at z; omega
  rw [iN_lt (by omega) (by omega)] at z
  rw [e5]
  refine ⟨fun y => ⟨35, rfl, rfl, rfl, 35, rfl, ⟨_, rfl⟩, ?_⟩, fun y => bad (fun u => y ?_)⟩
  · rw [iN_le (by omega) (by omega)] at y
    rw [e5]
    refine l_advF TK hi (X.s34 (k := 5) (by decide) (iN (tN (τ i)))) (fun st' F Y => h1 k1 k2 (by omega) y st' ((CWl.s34 (Or.inl rfl) _).tr (CWl.fr F)) Y ?_)
    rw [F.1 34 5 (by decide), gI_sI]
  · exact (iN_le (by omega) (by omega)).mpr u.2
/-! numbers: right, or which fault -/
def nOk (t : Tok) (a b : Nat) : Prop := tK t = 2 ∧ tL t = false ∧ a ≤ tN t ∧ tN t ≤ b
def nK (t : Tok) : Nat := if tK t = 2 then 2 else 1
def kK (t : Tok) : Nat := if tK t = 2 ∧ tL t = false then 3 else nK t
theorem nK_b (t : Tok) : 0 < nK t ∧ nK t < 10 := by unfold nK; split <;> decide
theorem kK_b (t : Tok) : 0 < kK t ∧ kK t < 10 := by
  unfold kK
  split
  · decide
  · exact nK_b t
theorem l_num (TK : Tks T n τ) {st : St} {i : Nat} (hi : i ≤ n) (X : CT T n τ st i) {a b : Nat} (ha : a < 100000) (hb : b < 100000) {post : Int32 → St → Prop} (h1 : nOk (τ i) a b → ∀ st', CWl st st' → CT T n τ st' (tE (τ i)) → gI st' 34 5 = iN (tN (τ i)) → post 1 st') (h0 : ¬ nOk (τ i) a b → ∀ st', CWl st st' → CEl st' (nK (τ i)) (tB (τ i)) → post 0 st') : P_X4_takeNumber 34 (iN a) (iN b) st post := by
  refine l_takeN TK hi X ha hb (fun k1 k2 k3 k4 => h1 ⟨k1, k2, k3, k4⟩) (fun k1 k2 st' F E => h0 (fun z => ?_) st' F (by unfold nK; rw [if_pos k1]; exact E)) (fun k1 st' F E => h0 (fun z => k1 z.1) st' F (by unfold nK; rw [if_neg k1]; exact E))
  rcases k2 with y | y
  · rw [z.2.1] at y; exact absurd y (by decide)
  · exact y ⟨z.2.2.1, z.2.2.2⟩
theorem s_num (TK : Tks T n τ) {st : St} {i : Nat} (hi : i ≤ n) (X : MT T n τ st i) {a b : Nat} (ha : a < 100000) (hb : b < 100000) {post : Int32 → St → Prop} (h1 : nOk (τ i) a b → ∀ st', MWl st st' → MT T n τ st' (tE (τ i)) → post (iN (tN (τ i))) st') (h0 : ¬ nOk (τ i) a b → ∀ st', MWl st st' → ME st' (nK (τ i)) (tB (τ i)) → post 0 st') : P_X12_readNumber 58 (iN a) (iN b) st post := by
  refine s_readNumL TK hi X ha hb (fun k1 k2 k3 k4 => h1 ⟨k1, k2, k3, k4⟩) (fun k1 k2 st' F E => h0 (fun z => ?_) st' F (by unfold nK; rw [if_pos k1]; exact E)) (fun k1 st' F E => h0 (fun z => k1 z.1) st' F (by unfold nK; rw [if_neg k1]; exact E))
  rcases k2 with y | y
  · rw [z.2.1] at y; exact absurd y (by decide)
  · exact y ⟨z.2.2.1, z.2.2.2⟩
def kOkT (t : Tok) (m : Nat) : Prop := tK t = 2 ∧ tL t = false ∧ tN t < m
theorem l_isK (TK : Tks T n τ) {st : St} {i : Nat} (hi : i ≤ n) (X : CT T n τ st i) {m : Nat} (hm : m < 100000) {post : Int32 → St → Prop} (h1 : kOkT (τ i) m → post 1 st) (h0 : ¬ kOkT (τ i) m → ∀ st', CWl st st' → CEl st' (kK (τ i)) (tB (τ i)) → post 0 st') : P_X4_isKnown 34 (iN m) st post := by
  obtain ⟨N1, N2, N3, N4, N5, N6, N7, N8, N9, N10, N11⟩ := (TK.2 i hi).1
  have e5 := X.2.2.2.2.1
  refine ⟨⟨_, rfl⟩, l_isN TK hi X (fun k1 k2 => ⟨fun z => absurd z (by decide), fun _ => ⟨35, rfl, rfl, ?_⟩⟩) (fun k1 k2 st' F E => ⟨fun _ => ⟨Or.inl rfl, h0 (fun z => by rw [z.2.1] at k2; exact absurd k2 (by decide)) st' F ?_⟩, fun z => absurd rfl z⟩) (fun k1 st' F E => ⟨fun _ => ⟨Or.inl rfl, h0 (fun z => k1 z.1) st' F ?_⟩, fun z => absurd rfl z⟩)⟩
  · rw [e5]
    refine ⟨fun z => ⟨Or.inr rfl, h1 ⟨k1, k2, (iN_lt (by omega) (by omega)).mp z⟩⟩, fun z => ⟨⟨_, rfl⟩, rfl, fun _ => ⟨Or.inl rfl, ?_⟩, fun z => absurd rfl z⟩⟩
    obtain ⟨F, E⟩ := X.er 3
    refine h0 (fun y => z ((iN_lt (by omega) (by omega)).mpr y.2.2)) _ F ?_
    unfold kK
    rw [if_pos ⟨k1, k2⟩]; exact E
  · unfold kK nK
    rw [if_neg (fun z => by rw [z.2] at k2; exact absurd k2 (by decide)), if_pos k1]; exact E
  · unfold kK nK
    rw [if_neg (fun z => k1 z.1), if_neg k1]; exact E
theorem l_takeK (TK : Tks T n τ) {st : St} {i : Nat} (hi : i ≤ n) (X : CT T n τ st i) {m : Nat} (hm : m < 100000) {post : Int32 → St → Prop} (h1 : kOkT (τ i) m → ∀ st', CWl st st' → CT T n τ st' (tE (τ i)) → gI st' 34 5 = iN (tN (τ i)) → post 1 st') (h0 : ¬ kOkT (τ i) m → ∀ st', CWl st st' → CEl st' (kK (τ i)) (tB (τ i)) → post 0 st') : P_X4_takeKnown 34 (iN m) st post := by
  have e5 := X.2.2.2.2.1
  refine ⟨⟨_, rfl⟩, l_isK TK hi X hm (fun k => ⟨fun _ => ⟨35, rfl, rfl, rfl, 35, rfl, ⟨_, rfl⟩, ?_⟩, fun z => absurd z (by decide)⟩) (fun k st' F E => ⟨fun z => absurd rfl z, fun _ => h0 k st' F E⟩)⟩
  rw [e5]
  refine l_advF TK hi (X.s34 (k := 5) (by decide) (iN (tN (τ i)))) (fun st' F Y => h1 k st' ((CWl.s34 (Or.inl rfl) _).tr (CWl.fr F)) Y ?_)
  rw [F.1 34 5 (by decide), gI_sI]
theorem s_one (TK : Tks T n τ) {st : St} {i : Nat} (hi : i ≤ n) (X : MT T n τ st i) {w m : Nat} (hw : w < 5) (hm : m < 100000) (e62 : gA st 62 (5 + w) = iN m) {post : Int32 → St → Prop} (h1 : kOkT (τ i) m → post (iN (tN (τ i))) st) (h0 : ¬ kOkT (τ i) m → ∀ st', MWl st st' → ME st' (kK (τ i)) (tB (τ i)) → post 0 st') : P_X12_oneNow 58 (iN w) st post := by
  obtain ⟨N1, N2, N3, N4, N5, N6, N7, N8, N9, N10, N11⟩ := (TK.2 i hi).1
  have e5 : (5 : Int32) + iN w = iN (5 + w) := (iN_add 5 w).symm
  refine ⟨⟨_, rfl⟩, s_numNowL (a := 0) (b := 9999) TK hi X (by decide) (by decide) (fun k1 k2 _ _ => ⟨rfl, fun z => absurd X.2.2.1 z, fun _ => ⟨62, rfl, ?_⟩⟩) (fun k1 k2 st' F E => ⟨rfl, fun _ => ⟨rfl, fun _ => h0 (fun z => ?_) st' F ?_, fun z => absurd z (E.ne (by decide))⟩, fun z => absurd z (E.ne (by decide))⟩) (fun k1 st' F E => ⟨rfl, fun _ => ⟨rfl, fun _ => h0 (fun z => k1 z.1) st' F ?_, fun z => absurd z (E.ne (by decide))⟩, fun z => absurd z (E.ne (by decide))⟩)⟩
  · rw [e5, iN_cl (by omega), e62]
    refine ⟨by rw [al62]; exact iN_vp (by omega) (by decide), fun z => ⟨rfl, fun y => absurd X.2.2.1 y, fun _ => h1 ⟨k1, k2, (iN_lt (by omega) (by omega)).mp z⟩⟩, fun z => ⟨⟨_, rfl⟩, s_wrongL X 3 (fun st' F E => ⟨rfl, fun _ => h0 (fun y => z ((iN_lt (by omega) (by omega)).mpr y.2.2)) st' F ?_, fun y => absurd y (E.ne (by decide))⟩)⟩⟩
    unfold kK
    rw [if_pos ⟨k1, k2⟩]; exact E
  · rcases k2 with y | y
    · rw [z.2.1] at y; exact absurd y (by decide)
    · exact y ⟨Nat.zero_le _, N11⟩
  · have l1 : ¬ tL (τ i) = false := by
      rcases k2 with y | y
      · rw [y]; decide
      · exact absurd ⟨Nat.zero_le _, N11⟩ y
    unfold kK nK
    rw [if_neg (fun z => l1 z.2), if_pos k1]; exact E
  · unfold kK nK
    rw [if_neg (fun z => k1 z.1), if_neg k1]; exact E
end L1
