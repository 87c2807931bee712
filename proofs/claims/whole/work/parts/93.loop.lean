/-! PURE: a line, all lines -/
section L6
variable {T : Nat → Int32} {n : Nat} {τ : Nat → Tok} {p : Nat}
def PL (dn dn' : Int32) : St → (St → Prop) → Prop := fun st K => ∀ post : Int32 → St → Prop, (∀ s, K s → post dn' s) → P_X12_readLine 58 dn st post
theorem LRes.pl {i : Nat} {V : LV} {B : Nat × Nat} {PC : St → (Int32 → St → Prop) → Prop} {PM : St → (St → Prop) → Prop} {dn dn' : Int32} (R : LRes T n τ p i V B PC PM) (f : ∀ st (post : Int32 → St → Prop), MT T n τ st i → PM st (fun s => post dn' s) → P_X12_readLine 58 dn st post) : LRes T n τ p i V B PC (PL dn dn') := by
  rcases R with ⟨i', V', a1, a2, a3, a4, a5, a6, a7⟩ | ⟨k, pl, b1, b2, b3, b4⟩
  · exact Or.inl ⟨i', V', a1, a2, a3, a4, a5, a6, fun st K X H h post hk => f st post X (a7 st _ X H (fun st' G X' H' => hk st' (h st' G X' H')))⟩
  · exact Or.inr ⟨k, pl, b1, b2, b3, fun st K X H h post hk => f st post X (b4 st _ X H (fun st' G E => hk st' (h st' G E)))⟩
theorem rl (TK : Tks T n τ) {i : Nat} (hi : i ≤ n) {st : St} (X : MT T n τ st i) {x2 x3 dn : Int32} {post : Int32 → St → Prop} (c4 : ∀ k, k < 4 → tW (τ i) = some (1000 + k) → iN k = x2) (c5 : (∀ k, k < 4 → tW (τ i) ≠ some (1000 + k)) → -1 = x2) (c6 : tW (τ i) = some 1006 → 1 = x3) (c7 : tW (τ i) = some 1007 → 2 = x3) (c0 : tW (τ i) ≠ some 1006 → tW (τ i) ≠ some 1007 → 0 = x3) (h : P_X12_readLine_38 58 dn post x2 x3 st) : P_X12_readLine 58 dn st post := by
  have key : ∀ z2, z2 = x2 → oC 58 12 ∧ P_X12_is 58 2006 st (fun z_4 st_5 => ((z_4 = 0 → oC 58 12 ∧ P_X12_is 58 2007 st_5 (fun z_6 st_7 => ((z_6 = 0 → P_X12_readLine_38 58 dn post z2 0 st_7) ∧ (¬ z_6 = 0 → P_X12_readLine_38 58 dn post z2 2 st_7)))) ∧ (¬ z_4 = 0 → P_X12_readLine_38 58 dn post z2 1 st_5))) := by
    rintro z2 rfl
    refine ⟨⟨_, rfl⟩, s_isWL (w := 6) TK hi X (by decide) (fun e => ⟨fun z => absurd z (by decide), fun _ => ?_⟩) (fun e6 => ⟨fun _ => ⟨⟨_, rfl⟩, s_isWL (w := 7) TK hi X (by decide) (fun e => ⟨fun z => absurd z (by decide), fun _ => ?_⟩) (fun e7 => ⟨fun _ => ?_, fun z => absurd rfl z⟩)⟩, fun z => absurd rfl z⟩)⟩
    · rw [c6 e]; exact h
    · rw [c7 e]; exact h
    · rw [c0 e6 e7]; exact h
  exact ⟨59, rfl, ⟨_, rfl⟩, s_whichL TK hi X wsA59 (fun k hk e => key _ (c4 k hk (by rw [e, Nat.zero_add]))) (fun e => key _ (c5 (fun k hk => by have := e k hk; rw [Nat.zero_add] at this; exact this)))⟩
theorem or0 (x : Int32) : x ||| 0 = x := Int32.or_zero
theorem and0 (x : Int32) : (0 : Int32) &&& x = 0 := Int32.zero_and
theorem so_inj {a b : Nat} (h : (some (1000 + a) : Option Nat) = some (1000 + b)) : a = b := by
  have := Option.some.inj h
  omega
theorem pk_w : ∀ w, w < 4 → pkL.getD (1000 + w - 1000) 0 = iN w ∧ ¬ pkL.getD (1000 + w - 1000) 0 = -1 := by decide
theorem pk_o : ∀ w, w < 19 → 4 ≤ w → pkL.getD (1000 + w - 1000) 0 = -1 := by decide
theorem wok4 : wOk (some 1004) := fun j hj => by injection hj with hj; subst hj; exact ⟨by decide, by decide⟩
theorem wok5 : wOk (some 1005) := fun j hj => by injection hj with hj; subst hj; exact ⟨by decide, by decide⟩
theorem wok6 : wOk (some 1006) := fun j hj => by injection hj with hj; subst hj; exact ⟨by decide, by decide⟩
theorem wok7 : wOk (some 1007) := fun j hj => by injection hj with hj; subst hj; exact ⟨by decide, by decide⟩
/-- the way into a line -/
theorem go (TK : Tks T n τ) {i : Nat} (hi : i ≤ n) (hk : tK (τ i) ≠ 0) {a1 : Int32} {V : LV} (hp : isPl p) {st : St} {post : Int32 → St → Prop} {f t : Nat} (X : CT T n τ st i) (H : CV p st V) (ht : t < 700)
    (kn : (∀ w, w < 8 → tW (τ i) ≠ some (1000 + w)) → P_X4_refuseToken 34 (iN 1) st (fun z s => P_X4_readDale_22 34 a1 post f z (iN (t + 1)) s))
    (kp : ∀ w, w < 4 → tW (τ i) = some (1000 + w) → P_X4_readPerson 34 (iN w) st (fun z s => P_X4_readDale_22 34 a1 post f z (iN (t + 1)) s))
    (k4 : tW (τ i) = some 1004 → P_X4_readBride 34 st (fun z s => P_X4_readDale_22 34 a1 post f z (iN (t + 1)) s))
    (k5 : tW (τ i) = some 1005 → P_X4_readTie 34 st (fun z s => P_X4_readDale_22 34 a1 post f z (iN (t + 1)) s))
    (k6 : tW (τ i) = some 1006 → P_X4_readRule 34 (ch p 3) (iN 8) st (fun z s => P_X4_readDale_22 34 a1 post f z (iN (t + 1)) s))
    (k7 : tW (τ i) = some 1007 → P_X4_readRule 34 (ch p 4) (iN 5) st (fun z s => P_X4_readDale_22 34 a1 post f z (iN (t + 1)) s)) : P_X4_readDale_22 34 a1 post (f + 1) 1 (iN t) st := by
  obtain ⟨N1, N2, N3, N4, N5, N6, N7, N8, N9, N10, N11⟩ := (TK.2 i hi).1
  have n7 := TK.1
  have e7 : gR st 35 7 = tW (τ i) := X.2.2.2.2.2.2.1
  have e3 : gI st 35 3 = iN (tK (τ i)) := X.2.2.1
  have h30 : gR st 30 0 = some p := H.1
  unfold P_X4_readDale_22
  unfold P_X4_readDale_181
  rw [iN_s]
  refine ⟨fun z => absurd z (nle (a := 700) (by decide) ht), fun _ => ⟨fun z => absurd z (by decide), fun _ => ⟨35, rfl, rfl, fun z => ?_, fun _ => ⟨35, rfl, rfl, ?_⟩⟩⟩⟩
  · rw [e3] at z
    exact absurd ((iN_eq (b := 0) (by omega) (by decide)).mp z) hk
  rw [e7]
  rcases N6 with e | ⟨w, hw, e⟩
  · rw [e]
    exact ⟨fun _ => ⟨⟨_, rfl⟩, kn (fun w _ z => by rw [e] at z; cases z)⟩, (fun i9 z => by cases z)⟩
  · have wo : wOk (some (1000 + w)) := fun j hj => by have := Option.some.inj hj; unfold enOk; omega
    have en : enOk (1000 + w) := by unfold enOk; omega
    rw [e]
    refine ⟨(fun z => by cases z), fun i9 _ => ⟨1000 + w, rfl, en, fun z => ⟨wo, wok4, fun z4 => ⟨wo, wok5, fun z5 => ⟨wo, wok6, fun z6 => ⟨wo, wok7, fun z7 => ⟨⟨_, rfl⟩, kn (fun w2 hw2 y => ?_)⟩, fun z7 => ⟨30, rfl, p, h30, ch p 4, pl_m hp _, ⟨_, rfl⟩, k7 (e.trans z7)⟩⟩, fun z6 => ⟨30, rfl, p, h30, ch p 3, pl_w hp _, ⟨_, rfl⟩, k6 (e.trans z6)⟩⟩, fun z5 => ⟨⟨_, rfl⟩, k5 (e.trans z5)⟩⟩, fun z4 => ⟨⟨_, rfl⟩, k4 (e.trans z4)⟩⟩, fun z => ⟨1000 + w, rfl, en, ⟨_, rfl⟩, ?_⟩⟩⟩
    · have ew : w2 = w := so_inj (y.symm.trans e)
      subst ew
      have h4 : 4 ≤ w2 := by
        by_cases h : 4 ≤ w2
        · exact h
        · exact absurd z (pk_w w2 (by omega)).2
      have d4 : w2 ≠ 4 := fun q => z4 (by rw [q])
      have d5 : w2 ≠ 5 := fun q => z5 (by rw [q])
      have d6 : w2 ≠ 6 := fun q => z6 (by rw [q])
      have d7 : w2 ≠ 7 := fun q => z7 (by rw [q])
      omega
    · have h4 : w < 4 := by
        by_cases h : w < 4
        · exact h
        · exact absurd (pk_o w hw (by omega)) z
      rw [(pk_w w h4).1]
      exact kp w h4 e
def Line (T : Nat → Int32) (n : Nat) (τ : Nat → Tok) (p : Nat) (a1 : Int32) (i : Nat) (V : LV) : Prop := ∃ B PC, LRes T n τ p i V B PC (PL (done V) (iN (B.1 + 2 * B.2))) ∧ ∀ st post f t, CT T n τ st i → CV p st V → t < 700 → PC st (fun z s => P_X4_readDale_22 34 a1 post f z (iN (t + 1)) s) → P_X4_readDale_22 34 a1 post (f + 1) 1 (iN t) st
theorem dn_0 (V : LV) : done V ||| 0 = iN ((lvW V).1 + 2 * (lvM V).1) := or0 _
theorem dn_1 {V : LV} (hV : VOk V) : done V ||| 1 = iN (1 + 2 * (lvM V).1) := by
  have w1 : (lvW V).1 ≤ 1 := hV.2.2.2.2.2.2.2.2.1.1
  have w2 : (lvM V).1 ≤ 1 := hV.2.2.2.2.2.2.2.2.2.1
  have h1 : (lvW V).1 = 0 ∨ (lvW V).1 = 1 := by omega
  have h2 : (lvM V).1 = 0 ∨ (lvM V).1 = 1 := by omega
  unfold done
  rcases h1 with e | e <;> rcases h2 with e2 | e2 <;> rw [e, e2] <;> rfl
theorem dn_2 {V : LV} (hV : VOk V) : done V ||| 2 = iN ((lvW V).1 + 2 * 1) := by
  have w1 : (lvW V).1 ≤ 1 := hV.2.2.2.2.2.2.2.2.1.1
  have w2 : (lvM V).1 ≤ 1 := hV.2.2.2.2.2.2.2.2.2.1
  have h1 : (lvW V).1 = 0 ∨ (lvW V).1 = 1 := by omega
  have h2 : (lvM V).1 = 0 ∨ (lvM V).1 = 1 := by omega
  unfold done
  rcases h1 with e | e <;> rcases h2 with e2 | e2 <;> rw [e, e2] <;> rfl
theorem ne_m1 {w : Nat} (hw : w < 4) : ¬ iN w = -1 := by
  intro z
  have := congrArg Int32.toInt z
  rw [iN_toInt (by omega), show (-1 : Int32).toInt = -1 by decide] at this
  omega
theorem line (TK : Tks T n τ) (hp : isPl p) (a1 : Int32) {V : LV} (hV : VOk V) {i : Nat} (hi : i ≤ n) (hk : tK (τ i) ≠ 0) : Line T n τ p a1 i V := by
  obtain ⟨N1, N2, N3, N4, N5, N6, N7, N8, N9, N10, N11⟩ := (TK.2 i hi).1
  have n7 := TK.1
  have tn : ∀ {w : Nat}, tW (τ i) = some (1000 + w) → ∀ w2, w2 ≠ w → tW (τ i) ≠ some (1000 + w2) := fun e w2 h z => h (so_inj (z.symm.trans e))
  by_cases hN : ∀ w, w < 8 → tW (τ i) ≠ some (1000 + w)
  · refine ⟨((lvW V).1, (lvM V).1), P_X4_refuseToken 34 (iN 1), Or.inr ⟨1, tB (τ i), by decide, by omega, fun st post X H h => ?_, fun st K X H h post hk => ?_⟩, fun st post f t X H ht h => go TK hi hk hp X H ht (fun _ => h) (fun w hw e => absurd e (hN w (by omega))) (fun e => absurd e (hN 4 (by decide))) (fun e => absurd e (hN 5 (by decide))) (fun e => absurd e (hN 6 (by decide))) (fun e => absurd e (hN 7 (by decide)))⟩
    · obtain ⟨F, E⟩ := X.er 1
      exact ⟨rfl, h _ (CG.wl F) E⟩
    · refine rl (x2 := -1) (x3 := 0) TK hi X (fun k hk e => absurd e (hN k (by omega))) (fun _ => rfl) (fun e => absurd e (hN 6 (by decide))) (fun e => absurd e (hN 7 (by decide))) (fun _ _ => rfl) ⟨fun _ => ⟨fun _ => ⟨fun _ => ⟨⟨_, rfl⟩, s_isWL (w := 4) TK hi X (by decide) (fun e => absurd e (hN 4 (by decide))) (fun _ => ⟨fun _ => ⟨⟨_, rfl⟩, s_isWL (w := 5) TK hi X (by decide) (fun e => absurd e (hN 5 (by decide))) (fun _ => ⟨fun _ => ⟨⟨_, rfl⟩, s_wrongL X 1 (fun s2 F2 E2 => ⟨⟨_, rfl⟩, N_mark (E2.ne (by decide)) ?_⟩)⟩, fun z => absurd rfl z⟩)⟩, fun z => absurd rfl z⟩)⟩, fun z => absurd rfl z⟩, fun z => absurd (Int32.le_refl _) z⟩, fun z => absurd (and0 _) z⟩
      show post (done V ||| 0) s2
      rw [dn_0]
      exact hk s2 (h s2 (MG.wl F2) E2)
  · rcases N6 with e | ⟨w, hw, e⟩
    · exact absurd (fun w _ z => by rw [e] at z; cases z) hN
    · have w8 : w < 8 := by
        by_cases h : w < 8
        · exact h
        · exact absurd (fun w2 hw2 => tn e w2 (by omega)) hN
      have oth := tn e
      by_cases w4 : w < 4
      · refine ⟨((lvW V).1, (lvM V).1), P_X4_readPerson 34 (iN w), (ln_person (w := w) TK hp hV hi hk).pl (fun st post X h => rl (x2 := iN w) (x3 := 0) TK hi X (fun k _ z => by rw [so_inj (z.symm.trans e)]) (fun z => absurd e (z w w4)) (fun z => absurd z (oth 6 (by omega))) (fun z => absurd z (oth 7 (by omega))) (fun _ _ => rfl) ⟨fun _ => ⟨fun _ => ⟨fun z => absurd z (ne_m1 w4), fun _ => ⟨⟨_, rfl⟩, ?_⟩⟩, fun z => absurd (Int32.le_refl _) z⟩, fun z => absurd (and0 _) z⟩), fun st post f t X H ht h => go TK hi hk hp X H ht (fun z => absurd e (z w w8)) (fun w2 hw2 z => by rw [so_inj (z.symm.trans e)]; exact h) (fun z => absurd z (oth 4 (by omega))) (fun z => absurd z (oth 5 (by omega))) (fun z => absurd z (oth 6 (by omega))) (fun z => absurd z (oth 7 (by omega)))⟩
        rw [← dn_0] at h
        exact h
      · have no4 : ∀ k, k < 4 → tW (τ i) ≠ some (1000 + k) := fun k hk => oth k (by omega)
        by_cases e4 : w = 4
        · subst e4
          refine ⟨((lvW V).1, (lvM V).1), P_X4_readBride 34, (ln_bride TK hp hV hi hk).pl (fun st post X h => rl (x2 := -1) (x3 := 0) TK hi X (fun k hk z => absurd z (no4 k hk)) (fun _ => rfl) (fun z => absurd z (oth 6 (by decide))) (fun z => absurd z (oth 7 (by decide))) (fun _ _ => rfl) ⟨fun _ => ⟨fun _ => ⟨fun _ => ⟨⟨_, rfl⟩, s_isWL (w := 4) TK hi X (by decide) (fun _ => ⟨fun z => absurd z (by decide), fun _ => ⟨⟨_, rfl⟩, ?_⟩⟩) (fun z => absurd e z)⟩, fun z => absurd rfl z⟩, fun z => absurd (Int32.le_refl _) z⟩, fun z => absurd (and0 _) z⟩), fun st post f t X H ht h => go TK hi hk hp X H ht (fun z => absurd e (z 4 w8)) (fun w2 hw2 z => absurd z (no4 w2 hw2)) (fun _ => h) (fun z => absurd z (oth 5 (by decide))) (fun z => absurd z (oth 6 (by decide))) (fun z => absurd z (oth 7 (by decide)))⟩
          rw [← dn_0] at h
          exact h
        · by_cases e5 : w = 5
          · subst e5
            refine ⟨((lvW V).1, (lvM V).1), P_X4_readTie 34, (ln_tie TK hp hV hi hk).pl (fun st post X h => rl (x2 := -1) (x3 := 0) TK hi X (fun k hk z => absurd z (no4 k hk)) (fun _ => rfl) (fun z => absurd z (oth 6 (by decide))) (fun z => absurd z (oth 7 (by decide))) (fun _ _ => rfl) ⟨fun _ => ⟨fun _ => ⟨fun _ => ⟨⟨_, rfl⟩, s_isWL (w := 4) TK hi X (by decide) (fun z => absurd z (oth 4 (by decide))) (fun _ => ⟨fun _ => ⟨⟨_, rfl⟩, s_isWL (w := 5) TK hi X (by decide) (fun _ => ⟨fun z => absurd z (by decide), fun _ => ⟨⟨_, rfl⟩, ?_⟩⟩) (fun z => absurd e z)⟩, fun z => absurd rfl z⟩)⟩, fun z => absurd rfl z⟩, fun z => absurd (Int32.le_refl _) z⟩, fun z => absurd (and0 _) z⟩), fun st post f t X H ht h => go TK hi hk hp X H ht (fun z => absurd e (z 5 w8)) (fun w2 hw2 z => absurd z (no4 w2 hw2)) (fun z => absurd z (oth 4 (by decide))) (fun _ => h) (fun z => absurd z (oth 6 (by decide))) (fun z => absurd z (oth 7 (by decide)))⟩
            rw [← dn_0] at h
            exact h
          · by_cases e6 : w = 6
            · subst e6
              refine ⟨(1, (lvM V).1), P_X4_readRule 34 (ch p 3) (iN 8), (ln_ru0 (x2 := -1) TK hp hV hi hk).pl (fun st post X h => rl (x2 := -1) (x3 := 1) TK hi X (fun k hk z => absurd z (no4 k hk)) (fun _ => rfl) (fun _ => rfl) (fun z => absurd z (oth 7 (by decide))) (fun z => absurd e z) (h post (fun s hs => ?_))), fun st post f t X H ht h => go TK hi hk hp X H ht (fun z => absurd e (z 6 w8)) (fun w2 hw2 z => absurd z (no4 w2 hw2)) (fun z => absurd z (oth 4 (by decide))) (fun z => absurd z (oth 5 (by decide))) (fun _ => h) (fun z => absurd z (oth 7 (by decide)))⟩
              rw [dn_1 hV]
              exact hs
            · have e7 : w = 7 := by omega
              subst e7
              refine ⟨((lvW V).1, 1), P_X4_readRule 34 (ch p 4) (iN 5), (ln_ru1 (x2 := -1) TK hp hV hi hk).pl (fun st post X h => rl (x2 := -1) (x3 := 2) TK hi X (fun k hk z => absurd z (no4 k hk)) (fun _ => rfl) (fun z => absurd z (oth 6 (by decide))) (fun _ => rfl) (fun _ z => absurd e z) (h post (fun s hs => ?_))), fun st post f t X H ht h => go TK hi hk hp X H ht (fun z => absurd e (z 7 w8)) (fun w2 hw2 z => absurd z (no4 w2 hw2)) (fun z => absurd z (oth 4 (by decide))) (fun z => absurd z (oth 5 (by decide))) (fun z => absurd z (oth 6 (by decide))) (fun _ => h)⟩
              rw [dn_2 hV]
              exact hs
/-! all lines -/
def DRes (T : Nat → Int32) (n : Nat) (τ : Nat → Tok) (p : Nat) (a1 : Int32) (f i t : Nat) (V : LV) : Prop :=
  (∃ V', VOk V' ∧ (∀ st post, CT T n τ st i → CV p st V → (∀ st', CG p st st' → CV p st' V' → post 0 st') → P_X4_readDale_22 34 a1 post f 1 (iN t) st) ∧ (∀ st post, MT T n τ st i → MV st V → (∀ st', MG st st' → gI st' 58 23 = 0 → MV st' V' → P_X12_dale_123 58 a1 post st') → P_X12_dale_100 58 a1 post f (done V) st)) ∨
  (∃ k pl, (0 < k ∧ k < 10) ∧ pl ≤ 700 ∧ (∀ st post, CT T n τ st i → CV p st V → (∀ st', CG p st st' → CEl st' k pl → post (iN k) st') → P_X4_readDale_22 34 a1 post f 1 (iN t) st) ∧ (∀ st post, MT T n τ st i → MV st V → (∀ st', MG st st' → ME st' k pl → P_X12_dale_123 58 a1 post st') → P_X12_dale_100 58 a1 post f (done V) st))
theorem stopC {a1 : Int32} {post : Int32 → St → Prop} {f : Nat} {x3 : Int32} {st : St} {k pl : Nat} (E : CEl st k pl) (h : post (iN k) st) : P_X4_readDale_22 34 a1 post (f + 1) 0 x3 st := by
  have K : P_X4_readDale_187 34 a1 post st := ⟨rfl, by rw [E.1]; exact h⟩
  exact ⟨fun _ => K, fun _ => ⟨fun _ => K, fun z => absurd rfl z⟩⟩
theorem all (TK : Tks T n τ) (hp : isPl p) (a1 : Int32) : ∀ f i t V, n + 1 < i + f → i ≤ n → t ≤ i → VOk V → DRes T n τ p a1 f i t V := by
  have n7 := TK.1
  intro f
  induction f with
  | zero => intro i t V h1 h2; omega
  | succ f ih =>
    intro i t V h1 hi ht hV
    obtain ⟨N1, N2, N3, N4, N5, N6, N7, N8, N9, N10, N11⟩ := (TK.2 i hi).1
    by_cases hk : tK (τ i) = 0
    · refine Or.inl ⟨V, hV, fun st post X H h => ?_, fun st post X H h => ?_⟩
      · have K : P_X4_readDale_187 34 a1 post st := ⟨rfl, by rw [X.1.2]; exact h st CG.rf H⟩
        exact ⟨fun _ => K, fun _ => ⟨fun _ => K, fun _ => ⟨35, rfl, rfl, fun _ => K, fun z => absurd (X.2.2.1.trans (by rw [hk]; rfl)) z⟩⟩⟩
      · exact ⟨rfl, fun z => absurd X.2.2.1 z, fun _ => ⟨rfl, fun _ => h st MG.rf X.2.2.1 H, fun z => absurd (X.2.1.2.1.trans (by rw [hk]; rfl)) z⟩⟩
    · have lt := N4 hk
      have t7 : t < 700 := by omega
      have f1 : ∃ f', f = f' + 1 := ⟨f - 1, by omega⟩
      obtain ⟨f', rfl⟩ := f1
      have into : ∀ st post dn, MT T n τ st i → P_X12_readLine 58 dn st (fun z s => P_X12_dale_100 58 a1 post (f' + 1) z s) → P_X12_dale_100 58 a1 post (f' + 1 + 1) dn st := fun st post dn X h => ⟨rfl, fun z => absurd X.2.2.1 z, fun _ => ⟨rfl, fun z => absurd ((iN_eq (b := 0) (by omega) (by decide)).mp (X.2.1.2.1.symm.trans z)) hk, fun _ => ⟨⟨_, rfl⟩, h⟩⟩⟩
      obtain ⟨B, PC, R, hgo⟩ := line TK hp a1 hV hi hk
      rcases R with ⟨i', V', c1, c2, c3, c4, c5, c6, c7⟩ | ⟨k, pl, b1, b2, b3, b4⟩
      · have ed : done V' = iN (B.1 + 2 * B.2) := by unfold done; rw [c4, c5]
        rcases ih i' (t + 1) V' (by omega) c2 (by omega) c3 with ⟨V2, d1, d2, d3⟩ | ⟨k, pl, d1, d2, d3, d4⟩
        · refine Or.inl ⟨V2, d1, fun st post X H h => hgo st post _ t X H t7 (c6 st _ X H (fun s1 G1 X1 H1 => d2 s1 post X1 H1 (fun s2 G2 H2 => h s2 (G1.tr G2) H2))), fun st post X H h => into st post _ X (c7 st (fun s => P_X12_dale_100 58 a1 post (f' + 1) (done V') s) X H (fun s1 G1 X1 H1 => d3 s1 post X1 H1 (fun s2 G2 g2 H2 => h s2 (G1.tr G2) g2 H2)) _ (fun s hs => by rw [← ed]; exact hs))⟩
        · refine Or.inr ⟨k, pl, d1, d2, fun st post X H h => hgo st post _ t X H t7 (c6 st _ X H (fun s1 G1 X1 H1 => d3 s1 post X1 H1 (fun s2 G2 E2 => h s2 (G1.tr G2) E2))), fun st post X H h => into st post _ X (c7 st (fun s => P_X12_dale_100 58 a1 post (f' + 1) (done V') s) X H (fun s1 G1 X1 H1 => d4 s1 post X1 H1 (fun s2 G2 E2 => h s2 (G1.tr G2) E2)) _ (fun s hs => by rw [← ed]; exact hs))⟩
      · exact Or.inr ⟨k, pl, b1, b2, fun st post X H h => hgo st post _ t X H t7 (b3 st _ X H (fun s1 G1 E1 => stopC E1 (h s1 G1 E1))), fun st post X H h => into st post _ X (b4 st (fun s => P_X12_dale_100 58 a1 post (f' + 1) (iN (B.1 + 2 * B.2)) s) X H (fun s1 G1 E1 => ⟨rfl, fun _ => h s1 G1 E1, fun z => absurd z (E1.ne b1)⟩) _ (fun s hs => hs))⟩
end L6
