/-! PURE: what is asked for before an answer; how the two sides come together -/
def isI (n : Nat) (a : Int32) : Prop := ∃ p, p < n ∧ a = iN p
theorem isI_iff {n : Nat} (hn : n < 2147483648) {a : Int32} : isI n a ↔ 0 ≤ a.toInt ∧ a.toInt < n := by
  constructor
  · rintro ⟨p, hp, rfl⟩
    rw [iN_toInt (by omega)]; omega
  · rintro ⟨h1, h2⟩
    refine ⟨a.toInt.toNat, by omega, ?_⟩
    apply Int32.toInt_inj.mp
    rw [iN_toInt (by omega)]; omega
theorem lt0 {a : Int32} : a < 0 ↔ a.toInt < 0 := by rw [Int32.lt_iff_toInt_lt]; rfl
section Need
variable {st : St} {p : Nat} {q : PD} {post : St → Prop} {pex : String → St → Prop}
theorem s_needP {a : Nat} (D : DSt st 3 p q) (ha : a < q.1) (h : post st) : P_X11_needPerson 0 (iN a) st post pex := by
  have hq := D.ok.1
  refine ⟨fun hc => ?_, fun _ => ⟨3, rfl, p, D.pl, pl_0 D.hp, fun _ => h, fun hc => absurd ?_ hc⟩⟩
  · rw [lt0, iN_toInt (by omega)] at hc; omega
  · rw [D.np, iN_lt (by omega) (by omega)]; exact ha
theorem s_needP0 {a : Int32} (D : DSt st 3 p q) (ha : ¬ isI q.1 a) (h : pex NSE st) : P_X11_needPerson 0 a st post pex := by
  have hq := D.ok.1
  refine ⟨fun _ => h, fun h0 => ⟨3, rfl, p, D.pl, pl_0 D.hp, fun hc => absurd ?_ ha, fun _ => h⟩⟩
  rw [isI_iff (by omega)]
  rw [lt0] at h0
  rw [D.np, Int32.lt_iff_toInt_lt, iN_toInt (by omega)] at hc
  omega
theorem s_needB {a : Nat} (D : DSt st 3 p q) (ha : a < q.2.1) (h : post st) : P_X11_needBride 0 (iN a) st post pex := by
  have hq := D.ok.2.1
  refine ⟨fun hc => ?_, fun _ => ⟨3, rfl, p, D.pl, pl_1 D.hp, fun _ => h, fun hc => absurd ?_ hc⟩⟩
  · rw [lt0, iN_toInt (by omega)] at hc; omega
  · rw [D.nb, iN_lt (by omega) (by omega)]; exact ha
theorem s_needB0 {a : Int32} (D : DSt st 3 p q) (ha : ¬ isI q.2.1 a) (h : pex NSE st) : P_X11_needBride 0 a st post pex := by
  have hq := D.ok.2.1
  refine ⟨fun _ => h, fun h0 => ⟨3, rfl, p, D.pl, pl_1 D.hp, fun hc => absurd ?_ ha, fun _ => h⟩⟩
  rw [isI_iff (by omega)]
  rw [lt0] at h0
  rw [D.nb, Int32.lt_iff_toInt_lt, iN_toInt (by omega)] at hc
  omega
theorem s_needW {a l : Nat} (hl : l < 1000) (ha : a < l + 1) (h : post st) : P_X11_needWhat 0 (iN a) (iN l) st post pex := by
  refine ⟨fun hc => ?_, fun _ => ⟨fun _ => h, fun hc => absurd ?_ hc⟩⟩
  · rw [lt0, iN_toInt (by omega)] at hc; omega
  · rw [iN_le (by omega) (by omega)]; omega
theorem s_needW0 {a : Int32} {l : Nat} (hl : l < 1000) (ha : ¬ isI (l + 1) a) (h : pex NSE st) : P_X11_needWhat 0 a (iN l) st post pex := by
  refine ⟨fun _ => h, fun h0 => ⟨fun hc => absurd ?_ ha, fun _ => h⟩⟩
  rw [isI_iff (by omega)]
  rw [lt0] at h0
  rw [Int32.le_iff_toInt_le, iN_toInt (by omega)] at hc
  omega
theorem s_needF {a : Nat} (ha : a < 61) (h : post st) : P_X11_needForesight 0 (iN a) st post pex := by
  refine ⟨fun hc => ?_, fun _ => ⟨fun _ => h, fun hc => absurd ?_ hc⟩⟩
  · rw [lt0, iN_toInt (by omega)] at hc; omega
  · show iN a ≤ iN 60
    rw [iN_le (by omega) (by omega)]; omega
theorem s_needF0 {a : Int32} (ha : ¬ isI 61 a) (h : pex IAE st) : P_X11_needForesight 0 a st post pex := by
  refine ⟨fun _ => h, fun h0 => ⟨fun hc => absurd ?_ ha, fun _ => h⟩⟩
  rw [isI_iff (by omega)]
  rw [lt0] at h0
  have hc : a ≤ iN 60 := hc
  rw [Int32.le_iff_toInt_le, iN_toInt (by omega)] at hc
  omega
end Need
/-! the reference -/
theorem cmp_lt {x y : Int64} : lg_cmp x y < 0 ↔ x.toInt < y.toInt := by rw [lg_cmp_lt, Int64.lt_iff_toInt_lt]
theorem cmp_gt {x y : Int64} : 0 < lg_cmp x y ↔ y.toInt < x.toInt := by rw [lg_cmp_gt, Int64.lt_iff_toInt_lt]
section Mneed
variable {st : St} {q : PD} {post : Int32 → St → Prop}
theorem s_isIn1 {x a b : Int64} (h1 : a.toInt ≤ x.toInt) (h2 : x.toInt ≤ b.toInt) (h : post 1 st) : P_X12_isIn x a b st post := by
  refine ⟨fun hc => ?_, fun _ => ⟨fun hc => ?_, fun _ => ⟨Or.inr rfl, h⟩⟩⟩
  · rw [cmp_lt] at hc; omega
  · rw [cmp_gt] at hc; omega
theorem s_isIn0 {x a b : Int64} (hn : ¬ (a.toInt ≤ x.toInt ∧ x.toInt ≤ b.toInt)) (h : post 0 st) : P_X12_isIn x a b st post := by
  refine ⟨fun _ => ⟨Or.inl rfl, h⟩, fun h1 => ⟨fun _ => ⟨Or.inl rfl, h⟩, fun h2 => ?_⟩⟩
  rw [cmp_lt] at h1
  rw [cmp_gt] at h2
  exact absurd ⟨by omega, by omega⟩ hn
theorem n1_toInt {n : Nat} (h : n ≤ 9) : (iN n - 1).toInt = (n : Int) - 1 := by
  rw [Int32.toInt_sub, iN_toInt (by omega), show (1 : Int32).toInt = 1 by decide, Int.bmod_def]
  omega
theorem z64 : (0 : Int64).toInt = 0 := by decide
theorem s_isP {a : Nat} (M : MPl st q) (ha : a < q.1) (h : post 1 st) : P_X12_isPerson 58 (iN a) st post := by
  have hq := M.2.2.2.2.2.1.1
  have e : gA st 62 (0 : Int32).toNatClampNeg = iN q.1 := M.1
  refine ⟨62, rfl, vp0 _ (by decide) (by decide), s_isIn1 ?_ ?_ ⟨Or.inr rfl, h⟩⟩
  · rw [Int32.toInt_toInt64, z64, iN_toInt (by omega)]; omega
  · rw [e, Int32.toInt_toInt64, Int32.toInt_toInt64, n1_toInt hq, iN_toInt (by omega)]; omega
theorem s_isP0 {a : Int32} (M : MPl st q) (ha : ¬ isI q.1 a) (h : post 0 st) : P_X12_isPerson 58 a st post := by
  have hq := M.2.2.2.2.2.1.1
  have e : gA st 62 (0 : Int32).toNatClampNeg = iN q.1 := M.1
  refine ⟨62, rfl, vp0 _ (by decide) (by decide), s_isIn0 ?_ ⟨Or.inl rfl, h⟩⟩
  rw [isI_iff (by omega)] at ha
  rw [e, Int32.toInt_toInt64, Int32.toInt_toInt64, n1_toInt hq, z64]
  omega
theorem s_isB {a : Nat} (M : MPl st q) (ha : a < q.2.1) (h : post 1 st) : P_X12_isBride 58 (iN a) st post := by
  have hq := M.2.2.2.2.2.1.2.1
  have e : gA st 62 (1 : Int32).toNatClampNeg = iN q.2.1 := M.2.1
  refine ⟨62, rfl, iN_vp (j := 1) (by decide) (by decide), s_isIn1 ?_ ?_ ⟨Or.inr rfl, h⟩⟩
  · rw [Int32.toInt_toInt64, z64, iN_toInt (by omega)]; omega
  · rw [e, Int32.toInt_toInt64, Int32.toInt_toInt64, n1_toInt (by omega), iN_toInt (by omega)]; omega
theorem s_isB0 {a : Int32} (M : MPl st q) (ha : ¬ isI q.2.1 a) (h : post 0 st) : P_X12_isBride 58 a st post := by
  have hq := M.2.2.2.2.2.1.2.1
  have e : gA st 62 (1 : Int32).toNatClampNeg = iN q.2.1 := M.2.1
  refine ⟨62, rfl, iN_vp (j := 1) (by decide) (by decide), s_isIn0 ?_ ⟨Or.inl rfl, h⟩⟩
  rw [isI_iff (by omega)] at ha
  rw [e, Int32.toInt_toInt64, Int32.toInt_toInt64, n1_toInt (by omega), z64]
  omega
theorem s_fail {k : Int32} (h : post 0 (sI st 58 4 k)) : P_X12_fail 58 k st post := ⟨rfl, h⟩
end Mneed
/-! scratch of both sides -/
def ScC (a : Nat) : Prop := a = 5 ∨ a = 6 ∨ a = 19 ∨ a = 20 ∨ a = 31 ∨ a = 32 ∨ a = 33 ∨ a = 37 ∨ a = 38 ∨ a = 44 ∨ a = 47 ∨ a = 52 ∨ a = 55 ∨ a = 56 ∨ a = 57
def QFr (a b : St) : Prop := (∀ o k, o ≠ 34 → o ≠ 35 → o ≠ 36 → gI b o k = gI a o k) ∧ (∀ o k, ¬ (o = 30 ∧ k = 0) → o ≠ 34 → o ≠ 35 → gR b o k = gR a o k) ∧ (∃ pt, isPl pt ∧ gR b 30 0 = some pt) ∧ ∀ x, ¬ ScC x → gA b x = gA a x
theorem QFr.cfr {a b : St} (h : QFr a b) : CFr a b := ⟨fun o k ho => h.1 o k (by omega) (by omega) (by omega), fun o k ho => h.2.1 o k (by omega) (by omega) (by omega), fun x hx => h.2.2.2 x (by unfold ScC; omega)⟩
theorem QFr.tr {a b c : St} (h1 : QFr a b) (h2 : QFr b c) : QFr a c := ⟨fun o k q1 q2 q3 => (h2.1 o k q1 q2 q3).trans (h1.1 o k q1 q2 q3), fun o k q1 q2 q3 => (h2.2.1 o k q1 q2 q3).trans (h1.2.1 o k q1 q2 q3), h2.2.2.1, fun x hx => (h2.2.2.2 x hx).trans (h1.2.2.2 x hx)⟩
theorem QFr.ex {S : Nat → Prop} {a b : St} (h : Ex S a b) (hS : ∀ x, S x → ScC x) (ht : ∃ pt, isPl pt ∧ gR a 30 0 = some pt) : QFr a b := ⟨fun o k _ _ _ => h.eI o k, fun o k _ _ _ => h.eR o k, by obtain ⟨pt, h1, h2⟩ := ht; exact ⟨pt, h1, by rw [h.eR]; exact h2⟩, fun x hx => h.eA (fun z => hx (hS x z))⟩
theorem pl_sc {p : Nat} (h : isPl p) : (p ≠ 34 ∧ p ≠ 35 ∧ p ≠ 36) ∧ (ch p 3 ≠ 34 ∧ ch p 3 ≠ 35 ∧ ch p 3 ≠ 36) ∧ (ch p 4 ≠ 34 ∧ ch p 4 ≠ 35 ∧ ch p 4 ≠ 36) ∧ ¬ ScC (ch p 2) ∧ ¬ ScC (ch (ch p 3) 1) ∧ ¬ ScC (ch (ch p 4) 1) := by
  rcases h with rfl | rfl <;> unfold ScC <;> decide
theorem DSt.qfr {a b : St} (h : QFr a b) {p : Nat} {q : PD} (D : DSt a 3 p q) : DSt b 3 p q := by
  obtain ⟨h1, h2, h3, h4, h5, h6, h7, h8, h9⟩ := D
  obtain ⟨⟨a1, a2, a3⟩, ⟨b1, b2, b3⟩, ⟨c1, c2, c3⟩, l2, l5, l6⟩ := pl_sc h2
  have e : pdOf b p = pdOf a p := by
    unfold pdOf rlOf
    rw [h.1 _ _ a1 a2 a3, h.1 _ _ a1 a2 a3, h.1 _ _ b1 b2 b3, h.1 _ _ b1 b2 b3, h.1 _ _ c1 c2 c3, h.1 _ _ c1 c2 c3, h.2.2.2 _ l2, h.2.2.2 _ l5, h.2.2.2 _ l6]
  exact ⟨h1, h2, by rw [h.2.1 _ _ (by decide) (by decide) (by decide)]; exact h3, e.trans h4, by rw [h.1 _ _ a1 a2 a3]; exact h5, by rw [h.1 _ _ a1 a2 a3]; exact h6, by rw [h.1 _ _ b1 b2 b3]; exact h7, by rw [h.1 _ _ c1 c2 c3]; exact h8, h9⟩
theorem BkC.qfr {a b : St} (h : QFr a b) {o : Nat} (ho : o = 0 ∨ o = 14) {v : Bk} (B : BkC a o v) : BkC b o v := by
  obtain ⟨h1, ⟨f, f1, f2, f3, f4⟩, h3, h4, h5⟩ := B
  have l : ∀ k, k < 5 → ¬ ScC (10 + o + k) := by
    intro k hk
    unfold ScC
    rcases ho with rfl | rfl <;> omega
  rcases ho with rfl | rfl
  · exact ⟨by rw [h.2.2.2 _ (by unfold ScC; decide)]; exact h1, ⟨f, f1, by rw [h.1 _ _ (by decide) (by decide) (by decide)]; exact f2, by rw [h.1 _ _ (by decide) (by decide) (by decide)]; exact f3, fun k hk => by rw [h.2.2.2 _ (by unfold ScC; decide)]; exact f4 k hk⟩, by rw [h.1 _ _ (by decide) (by decide) (by decide)]; exact h3, fun i hi k hk => by rw [h.2.2.2 _ (l k hk)]; exact h4 i hi k hk, fun k hk => by rw [h.2.2.2 _ (by unfold ScC; decide)]; exact h5 k hk⟩
  · exact ⟨by rw [h.2.2.2 _ (by unfold ScC; decide)]; exact h1, ⟨f, f1, by rw [h.1 _ _ (by decide) (by decide) (by decide)]; exact f2, by rw [h.1 _ _ (by decide) (by decide) (by decide)]; exact f3, fun k hk => by rw [h.2.2.2 _ (by unfold ScC; decide)]; exact f4 k hk⟩, by rw [h.1 _ _ (by decide) (by decide) (by decide)]; exact h3, fun i hi k hk => by rw [h.2.2.2 _ (l k hk)]; exact h4 i hi k hk, fun k hk => by rw [h.2.2.2 _ (by unfold ScC; decide)]; exact h5 k hk⟩
theorem InvC.qfr {a b : St} (h : QFr a b) {v : AV} (H : InvC a v) : InvC b v := by
  obtain ⟨p, p', h1, h2, h3, h4, h5, ⟨pp, h6, h6'⟩, h7, h8, h9, h10, h11, h12⟩ := H
  refine ⟨p, p', h1.qfr h, h2, h3, by rw [h.2.1 _ _ (by decide) (by decide) (by decide)]; exact h4, h.2.2.1, ⟨pp, h6, by rw [h.2.1 _ _ (by decide) (by decide) (by decide)]; exact h6'.1, by rw [h.2.2.2 _ (by unfold ScC; decide)]; exact h6'.2⟩, h7.qfr h (Or.inl rfl), fun e => by rw [h.1 _ _ (by decide) (by decide) (by decide)]; exact h8 e, fun w e => ?_, by rw [h.1 _ _ (by decide) (by decide) (by decide)]; exact h10, fun j hj => by rw [h.2.2.2 _ (by unfold ScC; decide)]; exact h11 j hj, by rw [h.1 _ _ (by decide) (by decide) (by decide)]; exact h12⟩
  obtain ⟨q1, q2, q3⟩ := h9 w e
  exact ⟨by rw [h.1 _ _ (by decide) (by decide) (by decide)]; exact q1, by rw [h.2.1 _ _ (by decide) (by decide) (by decide)]; exact q2, q3.qfr h (Or.inr rfl)⟩
/-- the reference's scratch -/
def IcM (o k : Nat) : Prop := o = 58 ∧ (k = 4 ∨ (17 ≤ k ∧ k ≤ 24) ∨ k = 26 ∨ k = 54 ∨ k = 57)
def ScM (a : Nat) : Prop := (82 ≤ a ∧ a ≤ 87) ∨ a = 92 ∨ (94 ≤ a ∧ a ≤ 97)
def QMr (nb : Nat) (a b : St) : Prop := (∀ o k, ¬ IcM o k → ¬ (o = 58 ∧ (k = 36 ∨ k = 37)) → gI b o k = gI a o k) ∧ (∀ o k, ¬ (o = 58 ∧ k = 3) → gR b o k = gR a o k) ∧ (∀ x, ¬ ScM x → ¬ isM x → gA b x = gA a x) ∧ (∀ x, gL b x = gL a x) ∧ mC nb b = mC nb a
theorem QMr.tr {nb : Nat} {a b c : St} (h1 : QMr nb a b) (h2 : QMr nb b c) : QMr nb a c := ⟨fun o k q1 q2 => (h2.1 o k q1 q2).trans (h1.1 o k q1 q2), fun o k q1 => (h2.2.1 o k q1).trans (h1.2.1 o k q1), fun x q1 q2 => (h2.2.2.1 x q1 q2).trans (h1.2.2.1 x q1 q2), fun x => (h2.2.2.2.1 x).trans (h1.2.2.2.1 x), h2.2.2.2.2.trans h1.2.2.2.2⟩
theorem QMr.rf {nb : Nat} {a : St} : QMr nb a a := ⟨fun _ _ _ _ => rfl, fun _ _ _ => rfl, fun _ _ _ => rfl, fun _ => rfl, rfl⟩
theorem QMr.fx {nb : Nat} {I : Nat → Nat → Prop} {S : Nat → Prop} {a b : St} (h : Fx I S a b) (hi : ∀ o k, I o k → IcM o k) (hs : ∀ x, S x → ScM x) : QMr nb a b := by
  refine ⟨fun o k q1 _ => h.eI (fun z => q1 (hi o k z)), fun o k _ => h.eR o k, fun x q1 _ => h.eA (fun z => q1 (hs x z)), fun x => h.eL x, mC_fx h (fun z => ?_) (fun z => ?_) (fun x z y => ?_) nb⟩
  · have := hi _ _ z; unfold IcM at this; omega
  · have := hi _ _ z; unfold IcM at this; omega
  · have := hs x z; unfold ScM at this; unfold isM at y; omega
theorem QMr.ex {nb : Nat} {S : Nat → Prop} {a b : St} (h : Ex S a b) (hs : ∀ x, S x → ScM x) : QMr nb a b := QMr.fx (I := noI) (Ex.fx h) (fun _ _ z => z.elim) hs
theorem QMr.code {nb : Nat} {a : St} (k : Int32) : QMr nb a (sI a 58 4 k) := QMr.fx (I := IcM) (S := fun _ => False) (Fx.si ⟨rfl, Or.inl rfl⟩ k) (fun _ _ z => z) (fun _ z => z.elim)
theorem QMr.mfr {nb : Nat} {a b : St} (h : QMr nb a b) : MFr a b := ⟨fun o k ho => h.1 o k (by unfold IcM; omega) (by omega), fun o k ho => h.2.1 o k (by omega), fun x hx => h.2.2.1 x (by unfold ScM; omega) (by unfold isM; omega), h.2.2.2.1⟩
theorem MPl.qmr {nb : Nat} {a b : St} (h : QMr nb a b) {q : PD} (M : MPl a q) : MPl b q := by
  have e : ∀ x, ¬ ScM x → ¬ isM x → gA b x = gA a x := h.2.2.1
  unfold MPl at M ⊢
  rw [e 62 (by unfold ScM; decide) (by unfold isM; decide), e 63 (by unfold ScM; decide) (by unfold isM; decide), e 69 (by unfold ScM; decide) (by unfold isM; decide), e 70 (by unfold ScM; decide) (by unfold isM; decide)]
  exact M
theorem mseN_s : ∀ k, k < 5 → ¬ ScM (mseN k) ∧ ¬ isM (mseN k) := by unfold ScM isM; decide
theorem mseT_s : ∀ k, k < 5 → ¬ ScM (mseT k) ∧ ¬ isM (mseT k) := by unfold ScM isM; decide
theorem InvM.qmr {a b : St} {v : AV} (h : QMr v.1.2.1 a b) (H : InvM a v) : InvM b v := by
  obtain ⟨h1, ⟨b1, b2, b3, b4, b5, b6⟩, h3, h4, h5, h6, h7⟩ := H
  have eA : ∀ x, ¬ ScM x → ¬ isM x → gA b x = gA a x := h.2.2.1
  have eI : ∀ k, ¬ IcM 58 k → ¬ (k = 36 ∨ k = 37) → gI b 58 k = gI a 58 k := fun k q1 q2 => h.1 58 k q1 (fun z => q2 z.2)
  refine ⟨h1.qmr h, ⟨h.2.2.2.2.trans b1, by rw [eI 38 (by unfold IcM; decide) (by decide)]; exact b2, fun k hk => by rw [eA 81 (by unfold ScM; decide) (by unfold isM; decide)]; exact b3 k hk, by rw [eI 39 (by unfold IcM; decide) (by decide)]; exact b4, fun i hi k hk => by rw [eA _ (mseN_s k hk).1 (mseN_s k hk).2]; exact b5 i hi k hk, fun k hk => by rw [eA 71 (by unfold ScM; decide) (by unfold isM; decide)]; exact b6 k hk⟩, fun e => by rw [eI 58 (by unfold IcM; decide) (by decide)]; exact h3 e, fun w e => ?_, by rw [eI 16 (by unfold IcM; decide) (by decide)]; exact h5, fun j hj => by rw [eA 72 (by unfold ScM; decide) (by unfold isM; decide)]; exact h6 j hj, by rw [eI 25 (by unfold IcM; decide) (by decide)]; exact h7.1, h7.2.cg (eA 93 (by unfold ScM; decide) (by unfold isM; decide)) (eA 105 (by unfold ScM; decide) (by unfold isM; decide))⟩
  obtain ⟨q1, t1, t2, t3, t4, t5, t6⟩ := h4 w e
  exact ⟨by rw [eI 58 (by unfold IcM; decide) (by decide)]; exact q1, by rw [eA 98 (by unfold ScM; decide) (by unfold isM; decide)]; exact t1, by rw [eI 59 (by unfold IcM; decide) (by decide)]; exact t2, fun k hk => by rw [eA 99 (by unfold ScM; decide) (by unfold isM; decide)]; exact t3 k hk, by rw [eI 60 (by unfold IcM; decide) (by decide)]; exact t4, fun i hi k hk => by rw [eA _ (mseT_s k hk).1 (mseT_s k hk).2]; exact t5 i hi k hk, fun k hk => by rw [eA 104 (by unfold ScM; decide) (by unfold isM; decide)]; exact t6 k hk⟩
/-! a call whose throw is caught, both sides together -/
section Meet
variable {PC : (Int32 → St → Prop) → (String → St → Prop) → Prop} {PM : St → (Int32 → St → Prop) → Prop} {v v2 : AV} {st : St}
def Bth (PM : St → (Int32 → St → Prop) → Prop) (k : Int32) (st : St) : Prop := PM st (fun r2 st2 => P_X12_thrown 58 st2 (fun r3 st3 => r3 = k ∧ (k = 0 → gL st3 106 0 = r2.toInt64) ∧ Inv st3))
theorem h_ok {r : Int32} {pex : String → St → Prop} (hM : InvM st v) (hO : AvOk v2) (hc : ∀ post, (∀ st1, CFr st st1 → InvC st1 v2 → post r st1) → PC post pex)
    (hm : ∀ s1 post, InvM s1 v → (∀ s2, MFr s1 s2 → InvM s2 v2 → gI s2 58 4 = 0 → post r s2) → PM s1 post) : PC (fun r1 st1 => Bth PM 0 (sL st1 106 0 r1.toInt64)) pex := by
  refine hc _ (fun st1 hF hI => hm _ _ ((hM.cfr hF).cfr (CFr.sL _ _ _)) (fun s2 hF2 hI2 hk => ⟨rfl, hk, fun _ => ?_, v2, InvC.mfr hF2 (show InvC (sL st1 106 0 r.toInt64) v2 from hI), hI2, hO⟩))
  rw [hF2.2.2.2]
  show (if (106 : Nat) = 106 then vp_updL (gL st1 106) 0 r.toInt64 else st1.2.2.2 106) 0 = _
  rw [if_pos rfl]
  simp [vp_updL]
/-- it throws on both sides; nothing has changed -/
theorem h_thr {X : String} {k : Int32} (hk0 : k ≠ 0) {post : Int32 → St → Prop} {pex : String → St → Prop} (hI : InvC st v) (hM : InvM st v) (hO : AvOk v) (hc : ∀ pex : String → St → Prop, pex X st → PC post pex)
    (hm : ∀ s1 post, InvM s1 v → (∀ r s2, MFr s1 s2 → InvM s2 v → gI s2 58 4 = k → post r s2) → PM s1 post) (hp : Bth PM k st → pex X st) : PC post pex := by
  refine hc _ (hp (hm _ _ hM (fun r s2 hF hI2 hk => ⟨rfl, hk, fun e => absurd e hk0, v, InvC.mfr hF hI, hI2, hO⟩)))
end Meet
