/-! PURE: a token is taken -/
theorem sI_sI (st : St) (o k : Nat) (x y : Int32) : sI (sI st o k x) o k y = sI st o k y := by
  have e : (fun a b => if a = o ∧ b = k then y else (if a = o ∧ b = k then x else st.1 a b)) = (fun a b => if a = o ∧ b = k then y else st.1 a b) := by
    funext a b
    by_cases h : a = o ∧ b = k
    · rw [if_pos h, if_pos h]
    · rw [if_neg h, if_neg h, if_neg h]
  show ((fun a b => if a = o ∧ b = k then y else (if a = o ∧ b = k then x else st.1 a b), st.2) : St) = (fun a b => if a = o ∧ b = k then y else st.1 a b, st.2)
  rw [e]
theorem sI_4 (st : St) (o a b : Nat) (x y x2 y2 : Int32) : sI (sI (sI (sI st o a x) o b y) o a x2) o b y2 = sI (sI st o a x2) o b y2 := by
  have e : (fun c d => if c = o ∧ d = b then y2 else (if c = o ∧ d = a then x2 else (if c = o ∧ d = b then y else (if c = o ∧ d = a then x else st.1 c d)))) = (fun c d => if c = o ∧ d = b then y2 else (if c = o ∧ d = a then x2 else st.1 c d)) := by
    funext c d
    by_cases h : c = o ∧ d = b
    · rw [if_pos h, if_pos h]
    · by_cases h2 : c = o ∧ d = a
      · rw [if_neg h, if_pos h2, if_neg h, if_pos h2]
      · rw [if_neg h, if_neg h, if_neg h2, if_neg h2, if_neg h, if_neg h2]
  show ((fun c d => if c = o ∧ d = b then y2 else (if c = o ∧ d = a then x2 else (if c = o ∧ d = b then y else (if c = o ∧ d = a then x else st.1 c d))), st.2) : St) = (fun c d => if c = o ∧ d = b then y2 else (if c = o ∧ d = a then x2 else st.1 c d), st.2)
  rw [e]
abbrev Tok : Type := Nat × Nat × Nat × Nat × Bool × Option Nat × Int32
def tB (t : Tok) : Nat := t.1
def tE (t : Tok) : Nat := t.2.1
def tK (t : Tok) : Nat := t.2.2.1
def tN (t : Tok) : Nat := t.2.2.2.1
def tL (t : Tok) : Bool := t.2.2.2.2.1
def tW (t : Tok) : Option Nat := t.2.2.2.2.2.1
def tS (t : Tok) : Int32 := t.2.2.2.2.2.2
def TokN (T : Nat → Int32) (n i : Nat) (t : Tok) : Prop := i ≤ tB t ∧ tB t ≤ tE t ∧ tE t ≤ n ∧ (tK t ≠ 0 → tB t < tE t) ∧ tK t ≤ 4 ∧ (tW t = none ∨ ∃ w, w < 19 ∧ tW t = some (1000 + w)) ∧ (∀ w, w < 19 → (tW t = some (1000 + w) ↔ tK t = 1 ∧ Mt T w (tB t) (tE t))) ∧ (tK t = 3 → tS t = T (tB t)) ∧ (tK t ≠ 3 → tS t = 0) ∧ (tL t = true ↔ tK t = 2 ∧ 4 < tE t - tB t) ∧ tN t ≤ 9999
def TxC (T : Nat → Int32) (n : Nat) (st : St) : Prop := gI st 35 1 = iN n ∧ ∀ j, j < n → gA st 1 j = T j
def TkF (st : St) (t : Tok) : Prop := gI st 35 2 = iN (tE t) ∧ gI st 35 3 = iN (tK t) ∧ gI st 35 4 = iN (tB t) ∧ gI st 35 5 = iN (tN t) ∧ gI st 35 6 = (if tL t = true then 1 else 0) ∧ gR st 35 7 = tW t ∧ gI st 35 8 = tS t
def Fr35 (a b : St) : Prop := (∀ o k, ¬ (o = 35 ∧ k ≠ 1) → gI b o k = gI a o k) ∧ (∀ o k, ¬ (o = 35 ∧ k = 7) → gR b o k = gR a o k) ∧ ∀ x, gA b x = gA a x
theorem Fr35.tr {a b c : St} (h1 : Fr35 a b) (h2 : Fr35 b c) : Fr35 a c := ⟨fun o k q => (h2.1 o k q).trans (h1.1 o k q), fun o k q => (h2.2.1 o k q).trans (h1.2.1 o k q), fun x => (h2.2.2 x).trans (h1.2.2 x)⟩
theorem Fr35.si {a : St} {k : Nat} (hk : k ≠ 1) (v : Int32) : Fr35 a (sI a 35 k v) := ⟨fun o k2 q => gI_sI_ne (fun z => q ⟨z.1, by rw [z.2]; exact hk⟩), fun _ _ _ => rfl, fun _ => rfl⟩
theorem Fr35.sr {a : St} (v : Option Nat) : Fr35 a (sR a 35 7 v) := ⟨fun _ _ _ => rfl, fun o k q => gR_sR_ne q, fun _ => rfl⟩
theorem TxC.fr {T : Nat → Int32} {n : Nat} {a b : St} (F : Fr35 a b) (h : TxC T n a) : TxC T n b := ⟨(F.1 35 1 (by decide)).trans h.1, fun j hj => by rw [F.2.2]; exact h.2 j hj⟩
def AdvC (T : Nat → Int32) (n i : Nat) (t : Tok) : Prop := ∀ st post, TxC T n st → gI st 35 2 = iN i → (∀ st', Fr35 st st' → TkF st' t → post st') → P_X8_advance 35 st post
section Sc
variable {T : Nat → Int32} {n : Nat} {post : St → Prop}
theorem s_adv8 (hn : n ≤ 700) {st0 : St} (X : TxC T n st0) {i b : Nat} (hb : b ≤ n) (hws : ∀ j, i ≤ j → j < b → isWs (T j)) (hend : b = n ∨ ¬ isWs (T b)) (h : P_X8_advance_60 35 post (sI st0 35 4 (iN b))) : ∀ r j, j + r = b → i ≤ j → P_X8_advance_8 35 post (r + 1) (sI st0 35 4 (iN j)) := by
  intro r
  induction r with
  | zero =>
    intro j hj hi
    have ej : j = b := by omega
    subst ej
    have g4 : gI (sI st0 35 4 (iN j)) 35 4 = iN j := gI_sI _ _ _ _
    have g1 : gI (sI st0 35 4 (iN j)) 35 1 = iN n := (gI_sI_ne (by decide)).trans X.1
    unfold P_X8_advance_8
    rw [g1, g4, iN_cl (by omega)]
    refine ⟨rfl, rfl, fun _ => h, fun hz => ?_⟩
    rw [iN_le (by omega) (by omega)] at hz
    have hw : ¬ isWs (T j) := hend.resolve_left (by omega)
    have v : vp_in (iN j) 700 := iN_vp (by omega) (by decide)
    have eT : gA (sI st0 35 4 (iN j)) 1 j = T j := X.2 j (by omega)
    exact ⟨1, rfl, rfl, v, fun z => absurd (Or.inl (eT.symm.trans z)) hw, fun _ => ⟨1, rfl, rfl, v, fun _ => h, fun z => absurd (Or.inr (eT.symm.trans z)) hw⟩⟩
  | succ r ih =>
    intro j hj hi
    have g4 : gI (sI st0 35 4 (iN j)) 35 4 = iN j := gI_sI _ _ _ _
    have g1 : gI (sI st0 35 4 (iN j)) 35 1 = iN n := (gI_sI_ne (by decide)).trans X.1
    have K : P_X8_advance_47 35 (fun st => P_X8_advance_8 35 post (r + 1) st) post (sI st0 35 4 (iN j)) := by
      refine ⟨rfl, rfl, ?_⟩
      rw [g4, iN_s, sI_sI]
      exact ih (j + 1) (by omega) (by omega)
    unfold P_X8_advance_8
    rw [g1, g4, iN_cl (by omega)]
    refine ⟨rfl, rfl, fun hz => absurd hz (nle (by omega) (by omega)), fun _ => ?_⟩
    have v : vp_in (iN j) 700 := iN_vp (by omega) (by decide)
    have eT : gA (sI st0 35 4 (iN j)) 1 j = T j := X.2 j (by omega)
    refine ⟨1, rfl, rfl, v, fun _ => K, fun z1 => ⟨1, rfl, rfl, v, fun z2 => ?_, fun _ => K⟩⟩
    rcases hws j hi (by omega) with z | z
    · exact absurd (eT.trans z) z1
    · exact absurd (eT.trans z) z2
theorem s_tw5 (hn : n ≤ 700) {st0 : St} (X : TxC T n st0) {b e : Nat} (he : e ≤ n) (hl : ∀ j, b ≤ j → j < e → isLt (T j)) (hend : e = n ∨ ¬ isLt (T e)) (h : P_X8_takeWord_44 35 post (sI st0 35 2 (iN e))) : ∀ r j, j + r = e → b ≤ j → P_X8_takeWord_5 35 post (r + 1) (sI st0 35 2 (iN j)) := by
  intro r
  induction r with
  | zero =>
    intro j hj hi
    have ej : j = e := by omega
    subst ej
    have g2 : gI (sI st0 35 2 (iN j)) 35 2 = iN j := gI_sI _ _ _ _
    have g1 : gI (sI st0 35 2 (iN j)) 35 1 = iN n := (gI_sI_ne (by decide)).trans X.1
    unfold P_X8_takeWord_5
    rw [g1, g2, iN_cl (by omega)]
    refine ⟨rfl, rfl, fun _ => h, fun hz => ?_⟩
    rw [iN_le (by omega) (by omega)] at hz
    have eT : gA (sI st0 35 2 (iN j)) 1 j = T j := X.2 j (by omega)
    have hw : ¬ isLt (T j) := hend.resolve_left (by omega)
    refine ⟨1, rfl, rfl, (show vp_in (iN j) 700 from iN_vp (by omega) (by decide)), ?_⟩
    rw [eT]
    exact s_ltC (fun z => absurd z hw) (fun _ => ⟨fun _ => h, fun z => absurd rfl z⟩)
  | succ r ih =>
    intro j hj hi
    have g2 : gI (sI st0 35 2 (iN j)) 35 2 = iN j := gI_sI _ _ _ _
    have g1 : gI (sI st0 35 2 (iN j)) 35 1 = iN n := (gI_sI_ne (by decide)).trans X.1
    unfold P_X8_takeWord_5
    rw [g1, g2, iN_cl (by omega)]
    have eT : gA (sI st0 35 2 (iN j)) 1 j = T j := X.2 j (by omega)
    refine ⟨rfl, rfl, fun hz => absurd hz (nle (by omega) (by omega)), fun _ => ⟨1, rfl, rfl, (show vp_in (iN j) 700 from iN_vp (by omega) (by decide)), ?_⟩⟩
    rw [eT]
    refine s_ltC (fun _ => ⟨fun z => absurd z (by decide), fun _ => ⟨rfl, rfl, ?_⟩⟩) (fun z => absurd (hl j hi (by omega)) z)
    rw [g2, iN_s, sI_sI]
    exact ih (j + 1) (by omega) (by omega)
theorem s_tn5 (hn : n ≤ 700) {st0 : St} (X : TxC T n st0) {b e : Nat} (he : e ≤ n) (hl : ∀ j, b ≤ j → j < e → isDg (T j)) (hend : e = n ∨ ¬ isDg (T e)) (h : P_X8_takeNumber_44 35 post (sI st0 35 2 (iN e))) : ∀ r j, j + r = e → b ≤ j → P_X8_takeNumber_5 35 post (r + 1) (sI st0 35 2 (iN j)) := by
  intro r
  induction r with
  | zero =>
    intro j hj hi
    have ej : j = e := by omega
    subst ej
    have g2 : gI (sI st0 35 2 (iN j)) 35 2 = iN j := gI_sI _ _ _ _
    have g1 : gI (sI st0 35 2 (iN j)) 35 1 = iN n := (gI_sI_ne (by decide)).trans X.1
    unfold P_X8_takeNumber_5
    rw [g1, g2, iN_cl (by omega)]
    refine ⟨rfl, rfl, fun _ => h, fun hz => ?_⟩
    rw [iN_le (by omega) (by omega)] at hz
    have eT : gA (sI st0 35 2 (iN j)) 1 j = T j := X.2 j (by omega)
    have hw : ¬ isDg (T j) := hend.resolve_left (by omega)
    refine ⟨1, rfl, rfl, (show vp_in (iN j) 700 from iN_vp (by omega) (by decide)), ?_⟩
    rw [eT]
    exact s_dgC (fun z => absurd z hw) (fun _ => ⟨fun _ => h, fun z => absurd rfl z⟩)
  | succ r ih =>
    intro j hj hi
    have g2 : gI (sI st0 35 2 (iN j)) 35 2 = iN j := gI_sI _ _ _ _
    have g1 : gI (sI st0 35 2 (iN j)) 35 1 = iN n := (gI_sI_ne (by decide)).trans X.1
    unfold P_X8_takeNumber_5
    rw [g1, g2, iN_cl (by omega)]
    have eT : gA (sI st0 35 2 (iN j)) 1 j = T j := X.2 j (by omega)
    refine ⟨rfl, rfl, fun hz => absurd hz (nle (by omega) (by omega)), fun _ => ⟨1, rfl, rfl, (show vp_in (iN j) 700 from iN_vp (by omega) (by decide)), ?_⟩⟩
    rw [eT]
    refine s_dgC (fun _ => ⟨fun z => absurd z (by decide), fun _ => ⟨rfl, rfl, ?_⟩⟩) (fun z => absurd (hl j hi (by omega)) z)
    rw [g2, iN_s, sI_sI]
    exact ih (j + 1) (by omega) (by omega)
end Sc
/-! numbers -/
def dgN (T : Nat → Int32) (j : Nat) : Nat := (T j).toNatClampNeg - 48
def vN (T : Nat → Int32) (b k : Nat) : Nat := lp (fun m v => 10 * v + dgN T (b + m)) 0 k
theorem vN_0 (T : Nat → Int32) (b : Nat) : vN T b 0 = 0 := by unfold vN; rw [lp_0]
theorem vN_s (T : Nat → Int32) (b k : Nat) : vN T b (k + 1) = 10 * vN T b k + dgN T (b + k) := by unfold vN; rw [lp_s]
theorem dg_ok {T : Nat → Int32} {j : Nat} (h : isDg (T j)) : dgN T j ≤ 9 ∧ T j = iN (48 + dgN T j) := by
  have h1 : ¬ (T j).toInt < 48 := fun z => h.1 ((lt_iN (n := 48) (by decide)).mpr z)
  have h2 : ¬ 57 < (T j).toInt := fun z => h.2 (by rw [Int32.lt_iff_toInt_lt]; exact z)
  obtain ⟨m, m1, m2, e⟩ := (inR (lo := 48) (hi := 57) (a := T j) (by decide)).mp ⟨by omega, by omega⟩
  unfold dgN
  rw [e, iN_cl (by omega)]
  exact ⟨by omega, by rw [show 48 + (m - 48) = m by omega]⟩
theorem vN_lt {T : Nat → Int32} {b : Nat} : ∀ k, (∀ j, j < k → isDg (T (b + j))) → vN T b k < 10 ^ k := by
  intro k
  induction k with
  | zero => intro _; rw [vN_0]; decide
  | succ k ih =>
    intro h
    rw [vN_s, Nat.pow_succ]
    have := ih (fun j hj => h j (by omega))
    have := (dg_ok (h k (by omega))).1
    omega
theorem dg_st (v d : Nat) : ((iN v * 10) + iN (48 + d)) - 48 = iN (10 * v + d) := by
  have e : (iN v * 10) + iN (48 + d) = iN (10 * v + d) + 48 := by
    have e1 : iN v * 10 = iN (v * 10) := (iN_mul v 10).symm
    have e2 : iN (10 * v + d) + 48 = iN (10 * v + d + 48) := (iN_add (10 * v + d) 48).symm
    rw [e1, e2, ← iN_add]
    congr 1; omega
  rw [e]; exact Int32.add_sub_cancel _ _
theorem dg_sm (v d : Nat) : ((10 * iN v) + iN (48 + d)) - 48 = iN (10 * v + d) := by rw [Int32.mul_comm]; exact dg_st v d
theorem p4 {k : Nat} (hk : k ≤ 4) : 10 ^ k ≤ 10000 := Nat.le_trans (Nat.pow_le_pow_right (by decide) hk) (by decide)
theorem s_tn71 {T : Nat → Int32} {n : Nat} (hn : n ≤ 700) {st0 : St} (X : TxC T n st0) {b e : Nat} (he : e ≤ n) (hl : ∀ j, b ≤ j → j < e → isDg (T j)) (h4 : e - b ≤ 4) (g2 : gI st0 35 2 = iN e) (g6 : gI st0 35 6 = 0) {post : St → Prop} (h : post (sI st0 35 5 (iN (vN T b (e - b))))) : ∀ r k, b + k + r = e → P_X8_takeNumber_71 35 post (r + 1) (iN (b + k)) (sI st0 35 5 (iN (vN T b k))) := by
  intro r
  induction r with
  | zero =>
    intro k hk
    have ek : e - b = k := by omega
    rw [ek] at h
    unfold P_X8_takeNumber_71
    refine ⟨rfl, fun _ => h, fun hz => absurd ?_ hz⟩
    rw [gI_sI_ne (by decide), g2, show e = b + k by omega]; exact Int32.le_refl _
  | succ r ih =>
    intro k hk
    have g5 : gI (sI st0 35 5 (iN (vN T b k))) 35 5 = iN (vN T b k) := gI_sI _ _ _ _
    have g2' : gI (sI st0 35 5 (iN (vN T b k))) 35 2 = iN e := (gI_sI_ne (by decide)).trans g2
    have g6' : gI (sI st0 35 5 (iN (vN T b k))) 35 6 = 0 := (gI_sI_ne (by decide)).trans g6
    have eT : gA (sI st0 35 5 (iN (vN T b k))) 1 (b + k) = T (b + k) := X.2 (b + k) (by omega)
    unfold P_X8_takeNumber_71
    rw [g5, g2', g6', iN_cl (by omega)]
    refine ⟨rfl, fun hz => absurd hz (nle (by omega) (by omega)), fun _ => ⟨rfl, fun z => absurd rfl z, fun _ => ⟨rfl, 1, rfl, (show vp_in (iN (b + k)) 700 from iN_vp (by omega) (by decide)), rfl, ?_⟩⟩⟩
    rw [eT, (dg_ok (hl (b + k) (by omega) (by omega))).2, dg_st, iN_s, sI_sI, ← vN_s]
    exact ih (k + 1) (by omega)
