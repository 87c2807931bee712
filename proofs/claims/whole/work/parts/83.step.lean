/-! PURE: the reference takes a token; one token for both -/
def TxM (T : Nat → Int32) (n : Nat) (st : St) : Prop := gI st 58 18 = iN n ∧ ∀ j, j < n → gA st 72 j = T j
def ITk (o k : Nat) : Prop := o = 58 ∧ (k = 17 ∨ k = 19 ∨ k = 20 ∨ k = 21 ∨ k = 22)
def noS : Nat → Prop := fun _ => False
def FrT (a b : St) : Prop := Fx ITk noS a b
theorem FrT.si {a : St} {k : Nat} (hk : k = 17 ∨ k = 19 ∨ k = 20 ∨ k = 21 ∨ k = 22) (v : Int32) : FrT a (sI a 58 k v) := Fx.si (I := ITk) ⟨rfl, hk⟩ v
theorem FrT.tr {a b c : St} (h1 : FrT a b) (h2 : FrT b c) : FrT a c := Fx.tr h1 h2
theorem TxM.fr {T : Nat → Int32} {n : Nat} {a b : St} (F : FrT a b) (h : TxM T n a) : TxM T n b := ⟨(F.eI (by unfold ITk; decide)).trans h.1, fun j hj => by rw [F.eA (fun z => z)]; exact h.2 j hj⟩
def TkM (st : St) (t : Tok) : Prop := gI st 58 17 = iN (tE t) ∧ gI st 58 19 = iN (tK t) ∧ gI st 58 21 = iN (tB t) ∧ gI st 58 22 = iN (tE t) ∧ (tK t = 2 → tL t = false → gI st 58 20 = iN (tN t))
def AdvM (T : Nat → Int32) (n i : Nat) (t : Tok) : Prop := ∀ st post, TxM T n st → gI st 58 17 = iN i → (∀ st', FrT st st' → TkM st' t → post st') → P_X12_stepOn 58 st post
section Sm
variable {T : Nat → Int32} {n : Nat}
theorem s_byte {st : St} (X : TxM T n st) (hn : n ≤ 700) {j : Nat} (hj : j < 100000) {post : Int32 → St → Prop} (h1 : j < n → post (T j) st) (h0 : n ≤ j → post (-1) st) : P_X12_byteAt 58 (iN j) st post := by
  unfold P_X12_byteAt
  rw [X.1]
  refine ⟨rfl, fun hz => ?_, fun hz => ?_⟩
  · rw [iN_le (by omega) (by omega)] at hz; exact h0 hz
  · rw [iN_le (by omega) (by omega)] at hz
    refine ⟨72, rfl, (show vp_in (iN j) 700 from iN_vp (by omega) (by decide)), ?_⟩
    show post (gA st 72 (iN j).toNatClampNeg) st
    rw [iN_cl (by omega), X.2 j (by omega)]
    exact h1 (by omega)
variable {post : St → Prop}
theorem m1_ws : ¬ isWs (-1) := by unfold isWs; decide
theorem m1_lt : ¬ isLt (-1) := by unfold isLt; decide
theorem m1_dg : ¬ isDg (-1) := by unfold isDg; decide
/-- the part of stepOn behind the blanks -/
def StpM (post : St → Prop) (st : St) : Prop := P_X12_byteAt 58 (gI (sI st 58 21 (gI st 58 17)) 58 17) (sI st 58 21 (gI st 58 17)) (fun z_5 st_6 => ((¬ z_5 = (-1) → P_X12_isLetter z_5 st_6 (fun z_7 st_8 => ((z_7 = 0 → P_X12_isDigit z_5 st_8 (fun z_9 st_10 => ((z_9 = 0 → fk 58 12 17 = some 0 ∧ fk 58 12 17 = some 0 ∧ P_X12_isMark z_5 (sI st_10 58 17 ((gI st_10 58 17) + 1)) (fun z_11 st_12 => ((z_11 = 0 → P_X12_stepOn_209 58 post 4 58 st_12) ∧ (¬ z_11 = 0 → P_X12_stepOn_209 58 post 3 58 st_12)))) ∧ (¬ z_9 = 0 → fk 58 12 20 = some 0 ∧ ∃ n8, P_X12_stepOn_123 58 post n8 (sI st_10 58 20 0))))) ∧ (¬ z_7 = 0 → ∃ n8, P_X12_stepOn_76 58 post n8 st_8)))) ∧ (z_5 = (-1) → fk 58 12 19 = some 0 ∧ P_X12_stepOn_212 58 post (sI st_6 58 19 0))))
theorem s_stp0 (hn : n ≤ 700) {st0 : St} (X : TxM T n st0) {i b : Nat} (hb : b ≤ n) (hws : ∀ j, i ≤ j → j < b → isWs (T j)) (hend : b = n ∨ ¬ isWs (T b)) (h : StpM post (sI st0 58 17 (iN b))) : ∀ r j, j + r = b → i ≤ j → P_X12_stepOn_0 58 post (r + 1) (sI st0 58 17 (iN j)) := by
  intro r
  induction r with
  | zero =>
    intro j hj hi
    have ej : j = b := by omega
    subst ej
    have g : gI (sI st0 58 17 (iN j)) 58 17 = iN j := gI_sI _ _ _ _
    have X1 : TxM T n (sI st0 58 17 (iN j)) := X.fr (FrT.si (Or.inl rfl) _)
    have K : ∀ x : Int32, ¬ isWs x → (¬ x = 10 → fk 58 12 17 = some 0 ∧ fk 58 12 21 = some 0 ∧ fk 58 12 17 = some 0 ∧ oC 58 12 ∧ StpM post (sI st0 58 17 (iN j))) := fun x _ _ => ⟨rfl, rfl, rfl, ⟨_, rfl⟩, h⟩
    unfold P_X12_stepOn_0
    rw [g]
    refine ⟨rfl, ⟨_, rfl⟩, s_byte X1 hn (by omega) (fun hj => ?_) (fun hj => ?_)⟩
    · have hw : ¬ isWs (T j) := hend.resolve_left (by omega)
      refine ⟨fun z => absurd (Or.inl z) hw, fun _ => ⟨rfl, ⟨_, rfl⟩, ?_⟩⟩
      rw [g]
      exact s_byte X1 hn (by omega) (fun _ => ⟨fun z => K _ hw z, fun z => absurd (Or.inr z) hw⟩) (fun z => by omega)
    · refine ⟨fun z => absurd z (by decide), fun _ => ⟨rfl, ⟨_, rfl⟩, ?_⟩⟩
      rw [g]
      exact s_byte X1 hn (by omega) (fun z => by omega) (fun _ => ⟨fun z => K _ m1_ws z, fun z => absurd z (by decide)⟩)
  | succ r ih =>
    intro j hj hi
    have g : gI (sI st0 58 17 (iN j)) 58 17 = iN j := gI_sI _ _ _ _
    have X1 : TxM T n (sI st0 58 17 (iN j)) := X.fr (FrT.si (Or.inl rfl) _)
    have K : P_X12_stepOn_26 58 (fun st => P_X12_stepOn_0 58 post (r + 1) st) post (sI st0 58 17 (iN j)) := by
      refine ⟨rfl, rfl, ?_⟩
      rw [g, iN_s, sI_sI]
      exact ih (j + 1) (by omega) (by omega)
    unfold P_X12_stepOn_0
    rw [g]
    refine ⟨rfl, ⟨_, rfl⟩, s_byte X1 hn (by omega) (fun _ => ⟨fun _ => K, fun z1 => ⟨rfl, ⟨_, rfl⟩, ?_⟩⟩) (fun z => by omega)⟩
    rw [g]
    refine s_byte X1 hn (by omega) (fun _ => ⟨fun z2 => ?_, fun _ => K⟩) (fun z => by omega)
    rcases hws j hi (by omega) with z | z
    · exact absurd z z1
    · exact absurd z z2
theorem s_st76 (hn : n ≤ 700) {st0 : St} (X : TxM T n st0) {b e : Nat} (he : e ≤ n) (hl : ∀ j, b ≤ j → j < e → isLt (T j)) (hend : e = n ∨ ¬ isLt (T e)) (h : P_X12_stepOn_212 58 post (sI (sI st0 58 17 (iN e)) 58 19 1)) : ∀ r j, j + r = e → b ≤ j → P_X12_stepOn_76 58 post (r + 1) (sI st0 58 17 (iN j)) := by
  intro r
  induction r with
  | zero =>
    intro j hj hi
    have ej : j = e := by omega
    subst ej
    have g : gI (sI st0 58 17 (iN j)) 58 17 = iN j := gI_sI _ _ _ _
    have X1 : TxM T n (sI st0 58 17 (iN j)) := X.fr (FrT.si (Or.inl rfl) _)
    unfold P_X12_stepOn_76
    rw [g]
    exact ⟨rfl, ⟨_, rfl⟩, s_byte X1 hn (by omega) (fun hj => s_ltM (fun z => absurd z (hend.resolve_left (by omega))) (fun _ => ⟨fun _ => ⟨rfl, h⟩, fun z => absurd rfl z⟩)) (fun _ => s_ltM (fun z => absurd z m1_lt) (fun _ => ⟨fun _ => ⟨rfl, h⟩, fun z => absurd rfl z⟩))⟩
  | succ r ih =>
    intro j hj hi
    have g : gI (sI st0 58 17 (iN j)) 58 17 = iN j := gI_sI _ _ _ _
    have X1 : TxM T n (sI st0 58 17 (iN j)) := X.fr (FrT.si (Or.inl rfl) _)
    unfold P_X12_stepOn_76
    rw [g]
    refine ⟨rfl, ⟨_, rfl⟩, s_byte X1 hn (by omega) (fun _ => s_ltM (fun _ => ⟨fun z => absurd z (by decide), fun _ => ⟨rfl, rfl, ?_⟩⟩) (fun z => absurd (hl j hi (by omega)) z)) (fun z => by omega)⟩
    rw [g, iN_s, sI_sI]
    exact ih (j + 1) (by omega) (by omega)
theorem s_st123 (hn : n ≤ 700) {st0 : St} (X : TxM T n st0) {b e : Nat} (he : e ≤ n) (hl : ∀ j, b ≤ j → j < e → isDg (T j)) (hend : e = n ∨ ¬ isDg (T e)) (h : ∀ x : Int32, (e - b ≤ 4 → x = iN (vN T b (e - b))) → P_X12_stepOn_212 58 post (sI (sI (sI st0 58 20 x) 58 17 (iN e)) 58 19 2)) : ∀ r k x, b + k + r = e → (k ≤ 4 → x = iN (vN T b k)) → P_X12_stepOn_123 58 post (r + 1) (sI (sI st0 58 20 x) 58 17 (iN (b + k))) := by
  intro r
  induction r with
  | zero =>
    intro k x hk hx
    have ek : e = b + k := by omega
    have g : gI (sI (sI st0 58 20 x) 58 17 (iN (b + k))) 58 17 = iN (b + k) := gI_sI _ _ _ _
    have X1 : TxM T n (sI (sI st0 58 20 x) 58 17 (iN (b + k))) := X.fr ((FrT.si (Or.inr (Or.inr (Or.inl rfl))) _).tr (FrT.si (Or.inl rfl) _))
    have K := h x (fun z => by rw [show e - b = k by omega] at z ⊢; exact hx z)
    rw [ek] at K hend
    unfold P_X12_stepOn_123
    rw [g]
    exact ⟨rfl, ⟨_, rfl⟩, s_byte X1 hn (by omega) (fun hj => s_dgM (fun z => absurd z (hend.resolve_left (by omega))) (fun _ => ⟨fun _ => ⟨rfl, K⟩, fun z => absurd rfl z⟩)) (fun _ => s_dgM (fun z => absurd z m1_dg) (fun _ => ⟨fun _ => ⟨rfl, K⟩, fun z => absurd rfl z⟩))⟩
  | succ r ih =>
    intro k x hk hx
    have g : gI (sI (sI st0 58 20 x) 58 17 (iN (b + k))) 58 17 = iN (b + k) := gI_sI _ _ _ _
    have g20 : gI (sI (sI st0 58 20 x) 58 17 (iN (b + k))) 58 20 = x := by rw [gI_sI_ne (by decide), gI_sI]
    have X1 : TxM T n (sI (sI st0 58 20 x) 58 17 (iN (b + k))) := X.fr ((FrT.si (Or.inr (Or.inr (Or.inl rfl))) _).tr (FrT.si (Or.inl rfl) _))
    unfold P_X12_stepOn_123
    rw [g]
    refine ⟨rfl, ⟨_, rfl⟩, s_byte X1 hn (by omega) (fun _ => s_dgM (fun _ => ⟨fun z => absurd z (by decide), fun _ => ⟨rfl, rfl, ⟨_, rfl⟩, ?_⟩⟩) (fun z => absurd (hl (b + k) (by omega) (by omega)) z)) (fun z => by omega)⟩
    rw [g]
    refine s_byte X1 hn (by omega) (fun _ => ⟨rfl, rfl, rfl, ?_⟩) (fun z => by omega)
    have dk := dg_ok (hl (b + k) (by omega) (by omega))
    rw [g20, gI_sI_ne (by decide), g, iN_s, sI_4]
    refine ih (k + 1) _ (by omega) (fun h4 => ?_)
    rw [hx (by omega), dk.2, dg_sm]
    have lt := vN_lt (T := T) (b := b) (k + 1) (fun j hj => hl (b + j) (by omega) (by omega))
    have p := p4 h4
    rw [vN_s] at lt ⊢
    rw [if_pos]
    exact (iN_lt (b := 100000) (by omega) (by decide)).mpr (by omega)
theorem stp_fin {st : St} {t : Tok} {s2 : St} (F : FrT st s2) (h : ∀ st', FrT st st' → TkM st' t → post st') (e17 : gI s2 58 17 = iN (tE t)) (e19 : gI s2 58 19 = iN (tK t)) (e21 : gI s2 58 21 = iN (tB t)) (e20 : tK t = 2 → tL t = false → gI s2 58 20 = iN (tN t)) : P_X12_stepOn_212 58 post s2 := by
  refine ⟨rfl, rfl, ?_⟩
  rw [e17]
  refine h _ (F.tr (FrT.si (Or.inr (Or.inr (Or.inr (Or.inr rfl)))) _)) ⟨?_, ?_, ?_, gI_sI _ _ _ _, fun z1 z2 => ?_⟩
  · rw [gI_sI_ne (by decide)]; exact e17
  · rw [gI_sI_ne (by decide)]; exact e19
  · rw [gI_sI_ne (by decide)]; exact e21
  · rw [gI_sI_ne (by decide)]; exact e20 z1 z2
end Sm
theorem tokN_of {T : Nat → Int32} {n i b e k m : Nat} {l : Bool} {w : Option Nat} {s : Int32} (h : i ≤ b ∧ b ≤ e ∧ e ≤ n ∧ (k ≠ 0 → b < e) ∧ k ≤ 4 ∧ (w = none ∨ ∃ w', w' < 19 ∧ w = some (1000 + w')) ∧ (∀ w', w' < 19 → (w = some (1000 + w') ↔ k = 1 ∧ Mt T w' b e)) ∧ (k = 3 → s = T b) ∧ (k ≠ 3 → s = 0) ∧ (l = true ↔ k = 2 ∧ 4 < e - b) ∧ m ≤ 9999) : TokN T n i (tkD b e k m l w s) := h
set_option maxHeartbeats 1000000 in
theorem tok_ex {T : Nat → Int32} {n : Nat} (hn : n ≤ 700) (hB : ∀ j, j < n → ∃ k, k < 256 ∧ T j = iN k) {i : Nat} (hi : i ≤ n) : ∃ t, TokN T n i t ∧ AdvC T n i t ∧ AdvM T n i t := by
  obtain ⟨b, b1, b2, b3, b4⟩ := scan_ex (fun j => isWs (T j)) n (n - i) i (by omega)
  -- what both sides do up to there
  have cl : ∀ (t : Tok), (∀ st post, TxC T n st → gI st 35 4 = iN b → (∀ st', Fr35 st st' → TkF st' t → post st') → P_X8_advance_60 35 post st) → AdvC T n i t := by
    intro t h st post X e h2
    refine ⟨rfl, rfl, b - i + 1, ?_⟩
    rw [e]
    refine s_adv8 hn X b2 b3 b4 ?_ (b - i) i (by omega) (Nat.le_refl _)
    exact h _ _ (X.fr (Fr35.si (by decide) _)) (gI_sI _ _ _ _) (fun st' F K => h2 st' ((Fr35.si (by decide) _).tr F) K)
  have ml : ∀ (t : Tok), (∀ st post, TxM T n st → gI st 58 17 = iN b → (∀ st', FrT st st' → TkM st' t → post st') → StpM post st) → AdvM T n i t := by
    intro t h st post X e h2
    have es : st = sI st 58 17 (iN i) := by
      have ef : (fun c d => if c = 58 ∧ d = 17 then iN i else st.1 c d) = st.1 := by
        funext c d
        by_cases hh : c = 58 ∧ d = 17
        · rw [if_pos hh, hh.1, hh.2]; exact e.symm
        · rw [if_neg hh]
      show st = ((fun c d => if c = 58 ∧ d = 17 then iN i else st.1 c d, st.2) : St)
      rw [ef]
    refine ⟨b - i + 1, ?_⟩
    rw [es]
    refine s_stp0 hn X b2 b3 b4 ?_ (b - i) i (by omega) (Nat.le_refl _)
    exact h _ _ (X.fr (FrT.si (Or.inl rfl) _)) (gI_sI _ _ _ _) (fun st' F K => h2 st' ((FrT.si (Or.inl rfl) _).tr F) K)
  -- the byte there
  have stp : ∀ (st : St) (post : St → Prop), TxM T n st → gI st 58 17 = iN b → TxM T n (sI st 58 21 (iN b)) ∧ gI (sI st 58 21 (iN b)) 58 17 = iN b ∧ FrT st (sI st 58 21 (iN b)) ∧ gI (sI st 58 21 (iN b)) 58 21 = iN b := fun st post X e => ⟨X.fr (FrT.si (Or.inr (Or.inr (Or.inr (Or.inl rfl)))) _), (gI_sI_ne (by decide)).trans e, FrT.si (Or.inr (Or.inr (Or.inr (Or.inl rfl)))) _, gI_sI _ _ _ _⟩
  by_cases hbn : b = n
  · refine ⟨tkD n n 0 0 false none 0, tokN_of ⟨by show i ≤ n; omega, Nat.le_refl _, Nat.le_refl _, fun z => absurd rfl z, (by decide), Or.inl rfl, fun w hw => ⟨(fun z => by cases z), fun z => absurd z.1 (by decide)⟩, fun z => absurd z (by decide), fun _ => rfl, ⟨(fun z => by cases z), fun z => absurd z.1 (by decide)⟩, Nat.zero_le _⟩, cl _ (fun st post X e h => s_a60end X (by rw [e, hbn]) h), ml _ (fun st post X e h => ?_)⟩
    obtain ⟨X1, e1, F1, e2⟩ := stp st post X e
    unfold StpM
    rw [e, e1]
    refine s_byte X1 hn (by omega) (fun z => by omega) (fun _ => ⟨fun z => absurd rfl z, fun _ => ⟨rfl, stp_fin (F1.tr (FrT.si (Or.inr (Or.inl rfl)) _)) h ?_ (gI_sI _ _ _ _) ?_ (fun z => absurd z (show ¬ (0 : Nat) = 2 by decide))⟩⟩)
    · rw [gI_sI_ne (by decide), e1, hbn]; rfl
    · rw [gI_sI_ne (by decide), e2, hbn]; rfl
  · have hbl : b < n := by omega
    obtain ⟨c, hc, ec⟩ := hB b hbl
    have nm1 : ¬ T b = -1 := by rw [ec]; exact iN_ne_m1 (by omega)
    by_cases hlt : isLt (T b)
    · obtain ⟨e, e1, e2, e3, e4⟩ := scan_ex (fun j => isLt (T j)) n (n - b) b (by omega)
      have hbe : b < e := by
        by_cases z : b = e
        · rw [← z] at e4
          rcases e4 with y | y
          · omega
          · exact absurd hlt y
        · omega
      have md : ∀ wd : Option Nat, AdvM T n i (tkD b e 1 0 false wd 0) := fun wd => ml _ (fun st post X eq h => by
        obtain ⟨X1, k1, F1, k2⟩ := stp st post X eq
        unfold StpM
        rw [eq, k1]
        refine s_byte X1 hn (by omega) (fun _ => ⟨fun _ => s_ltM (fun _ => ⟨fun z => absurd z (by decide), fun _ => ?_⟩) (fun z => absurd hlt z), fun z => absurd z nm1⟩) (fun z => by omega)
        have es : sI st 58 21 (iN b) = sI (sI st 58 21 (iN b)) 58 17 (iN b) := by
          have ef : (fun c d => if c = 58 ∧ d = 17 then iN b else (sI st 58 21 (iN b)).1 c d) = (sI st 58 21 (iN b)).1 := by
            funext c d
            by_cases hh : c = 58 ∧ d = 17
            · rw [if_pos hh, hh.1, hh.2]; exact k1.symm
            · rw [if_neg hh]
          show sI st 58 21 (iN b) = ((fun c d => if c = 58 ∧ d = 17 then iN b else (sI st 58 21 (iN b)).1 c d, (sI st 58 21 (iN b)).2) : St)
          rw [ef]
        refine ⟨e - b + 1, ?_⟩
        rw [es]
        refine s_st76 hn X1 (b := b) e2 e3 e4 ?_ (e - b) b (by omega) (Nat.le_refl _)
        refine stp_fin ((F1.tr (FrT.si (Or.inl rfl) _)).tr (FrT.si (Or.inr (Or.inl rfl)) _)) h ?_ (gI_sI _ _ _ _) ?_ (fun z => absurd z (show ¬ (1 : Nat) = 2 by decide))
        · rw [gI_sI_ne (by decide), gI_sI]; rfl
        · rw [gI_sI_ne (by decide), gI_sI_ne (by decide), k2]; rfl)
      by_cases hw : ∃ w, w < 19 ∧ Mt T w b e
      · obtain ⟨w, hw, mw⟩ := hw
        refine ⟨tkD b e 1 0 false (some (1000 + w)) 0, tokN_of ⟨b1, e1, e2, fun _ => hbe, by decide, Or.inr ⟨w, hw, rfl⟩, fun w2 hw2 => ⟨fun z => ⟨rfl, ?_⟩, fun z => ?_⟩, fun z => absurd z (by decide), fun _ => rfl, ⟨(fun z => by cases z), fun z => absurd z.1 (by decide)⟩, Nat.zero_le _⟩, cl _ (fun st post X eq h => s_a60w hn X hbl eq hbe e2 e3 e4 (fun w2 hw2 m2 => by rw [Mt_uq hw hw2 mw m2]) (fun z => absurd mw (z w hw)) h), md _⟩
        · have z : some (1000 + w) = some (1000 + w2) := z
          injection z with z
          rw [show w2 = w by omega]; exact mw
        · show some (1000 + w) = some (1000 + w2)
          rw [Mt_uq hw hw2 mw z.2]
      · refine ⟨tkD b e 1 0 false none 0, tokN_of ⟨b1, e1, e2, fun _ => hbe, by decide, Or.inl rfl, fun w2 hw2 => ⟨(fun z => by cases z), fun z => absurd ⟨w2, hw2, z.2⟩ hw⟩, fun z => absurd z (by decide), fun _ => rfl, ⟨(fun z => by cases z), fun z => absurd z.1 (by decide)⟩, Nat.zero_le _⟩, cl _ (fun st post X eq h => s_a60w hn X hbl eq hbe e2 e3 e4 (fun w2 hw2 m2 => absurd ⟨w2, hw2, m2⟩ hw) (fun _ => rfl) h), md _⟩
    · by_cases hdg : isDg (T b)
      · obtain ⟨e, e1, e2, e3, e4⟩ := scan_ex (fun j => isDg (T j)) n (n - b) b (by omega)
        have hbe : b < e := by
          by_cases z : b = e
          · rw [← z] at e4
            rcases e4 with y | y
            · omega
            · exact absurd hdg y
          · omega
        have md : ∀ (m : Nat) (l : Bool), (l = false → e - b ≤ 4 ∧ m = vN T b (e - b)) → AdvM T n i (tkD b e 2 m l none 0) := fun m l hml => ml _ (fun st post X eq h => by
          obtain ⟨X1, k1, F1, k2⟩ := stp st post X eq
          unfold StpM
          rw [eq, k1]
          refine s_byte X1 hn (by omega) (fun _ => ⟨fun _ => s_ltM (fun z => absurd z hlt) (fun _ => ⟨fun _ => s_dgM (fun _ => ⟨fun z => absurd z (by decide), fun _ => ⟨rfl, ?_⟩⟩) (fun z => absurd hdg z), fun z => absurd rfl z⟩), fun z => absurd z nm1⟩) (fun z => by omega)
          have es : sI (sI st 58 21 (iN b)) 58 20 0 = sI (sI (sI st 58 21 (iN b)) 58 20 (iN (vN T b 0))) 58 17 (iN (b + 0)) := by
            rw [vN_0]
            have ef : (fun c d => if c = 58 ∧ d = 17 then iN (b + 0) else (sI (sI st 58 21 (iN b)) 58 20 (iN 0)).1 c d) = (sI (sI st 58 21 (iN b)) 58 20 (iN 0)).1 := by
              funext c d
              by_cases hh : c = 58 ∧ d = 17
              · rw [if_pos hh, hh.1, hh.2]
                have k3 : gI (sI (sI st 58 21 (iN b)) 58 20 (iN 0)) 58 17 = iN b := (gI_sI_ne (by decide)).trans k1
                exact k3.symm
              · rw [if_neg hh]
            show sI (sI st 58 21 (iN b)) 58 20 (iN 0) = ((fun c d => if c = 58 ∧ d = 17 then iN (b + 0) else (sI (sI st 58 21 (iN b)) 58 20 (iN 0)).1 c d, (sI (sI st 58 21 (iN b)) 58 20 (iN 0)).2) : St)
            rw [ef]
          refine ⟨e - b + 1, ?_⟩
          rw [es]
          refine s_st123 hn X1 (b := b) e2 e3 e4 (fun x hx => ?_) (e - b) 0 _ (by omega) (fun _ => rfl)
          refine stp_fin (((F1.tr (FrT.si (Or.inr (Or.inr (Or.inl rfl))) _)).tr (FrT.si (Or.inl rfl) _)).tr (FrT.si (Or.inr (Or.inl rfl)) _)) h ?_ (gI_sI _ _ _ _) ?_ (fun _ z => ?_)
          · rw [gI_sI_ne (by decide), gI_sI]; rfl
          · rw [gI_sI_ne (by decide), gI_sI_ne (by decide), gI_sI_ne (by decide), k2]; rfl
          · rw [gI_sI_ne (by decide), gI_sI_ne (by decide), gI_sI, hx (hml z).1]
            show iN (vN T b (e - b)) = iN m
            rw [(hml z).2])
        have lt := vN_lt (T := T) (b := b) (e - b) (fun j hj => e3 (b + j) (by omega) (by omega))
        by_cases h4 : e - b ≤ 4
        · have p := p4 h4
          refine ⟨tkD b e 2 (vN T b (e - b)) false none 0, tokN_of ⟨b1, e1, e2, fun _ => hbe, by decide, Or.inl rfl, fun w2 hw2 => ⟨(fun z => by cases z), fun z => absurd z.1 (by decide)⟩, fun z => absurd z (by decide), fun _ => rfl, ⟨(fun z => by cases z), fun z => absurd z.2 (by show ¬ 4 < e - b; omega)⟩, (by show vN T b (e - b) ≤ 9999; omega)⟩, cl _ (fun st post X eq h => s_a60n hn X hbl eq hbe e2 e3 hlt e4 (Or.inl ⟨h4, rfl, rfl⟩) h), md _ _ (fun _ => ⟨h4, rfl⟩)⟩
        · refine ⟨tkD b e 2 0 true none 0, tokN_of ⟨b1, e1, e2, fun _ => hbe, by decide, Or.inl rfl, fun w2 hw2 => ⟨(fun z => by cases z), fun z => absurd z.1 (by decide)⟩, fun z => absurd z (by decide), fun _ => rfl, ⟨fun _ => ⟨rfl, by show 4 < e - b; omega⟩, fun _ => rfl⟩, Nat.zero_le _⟩, cl _ (fun st post X eq h => s_a60n hn X hbl eq hbe e2 e3 hlt e4 (Or.inr ⟨by omega, rfl, rfl⟩) h), md _ _ (fun z => by cases z)⟩
      · have md : ∀ (kd : Nat) (sg : Int32), ((isMk (T b) ∧ kd = 3) ∨ (¬ isMk (T b) ∧ kd = 4)) → AdvM T n i (tkD b (b + 1) kd 0 false none sg) := fun kd sg hk => ml _ (fun st post X eq h => by
          obtain ⟨X1, k1, F1, k2⟩ := stp st post X eq
          unfold StpM
          rw [eq, k1]
          refine s_byte X1 hn (by omega) (fun _ => ⟨fun _ => s_ltM (fun z => absurd z hlt) (fun _ => ⟨fun _ => s_dgM (fun z => absurd z hdg) (fun _ => ⟨fun _ => ⟨rfl, rfl, ?_⟩, fun z => absurd rfl z⟩), fun z => absurd rfl z⟩), fun z => absurd z nm1⟩) (fun z => by omega)
          rw [k1, iN_s]
          have fin : ∀ x : Int32, x = iN kd → P_X12_stepOn_209 58 post x 58 (sI (sI st 58 21 (iN b)) 58 17 (iN (b + 1))) := by
            intro x ex
            refine ⟨rfl, stp_fin ((F1.tr (FrT.si (Or.inl rfl) _)).tr (FrT.si (Or.inr (Or.inl rfl)) _)) h ?_ ?_ ?_ (fun z => ?_)⟩
            · rw [gI_sI_ne (by decide), gI_sI]; rfl
            · rw [gI_sI]; exact ex
            · rw [gI_sI_ne (by decide), gI_sI_ne (by decide), k2]; rfl
            · have z : kd = 2 := z
              omega
          refine s_mkM (fun mk => ⟨fun z => absurd z (by decide), fun _ => fin 3 ?_⟩) (fun mk => ⟨fun _ => fin 4 ?_, fun z => absurd rfl z⟩)
          · rcases hk with ⟨_, rfl⟩ | ⟨z, _⟩
            · rfl
            · exact absurd mk z
          · rcases hk with ⟨z, _⟩ | ⟨_, rfl⟩
            · exact absurd z mk
            · rfl)
        by_cases mk : isMk (T b)
        · refine ⟨tkD b (b + 1) 3 0 false none (T b), tokN_of ⟨b1, (by show b ≤ b + 1; omega), (by show b + 1 ≤ n; omega), fun _ => (by show b < b + 1; omega), by decide, Or.inl rfl, fun w2 hw2 => ⟨(fun z => by cases z), fun z => absurd z.1 (by decide)⟩, fun _ => rfl, fun z => absurd rfl z, ⟨(fun z => by cases z), fun z => absurd z.1 (by decide)⟩, Nat.zero_le _⟩, cl _ (fun st post X eq h => s_a60s hn X ⟨c, hc, ec⟩ hbl eq hlt hdg (Or.inl ⟨mk, rfl, rfl⟩) h), md _ _ (Or.inl ⟨mk, rfl⟩)⟩
        · refine ⟨tkD b (b + 1) 4 0 false none 0, tokN_of ⟨b1, (by show b ≤ b + 1; omega), (by show b + 1 ≤ n; omega), fun _ => (by show b < b + 1; omega), by decide, Or.inl rfl, fun w2 hw2 => ⟨(fun z => by cases z), fun z => absurd z.1 (by decide)⟩, fun z => absurd z (by decide), fun _ => rfl, ⟨(fun z => by cases z), fun z => absurd z.1 (by decide)⟩, Nat.zero_le _⟩, cl _ (fun st post X eq h => s_a60s hn X ⟨c, hc, ec⟩ hbl eq hlt hdg (Or.inr ⟨mk, rfl, rfl⟩) h), md _ _ (Or.inr ⟨mk, rfl⟩)⟩
