/-! PURE: how both read: states, small steps -/
def Tks (T : Nat → Int32) (n : Nat) (τ : Nat → Tok) : Prop := n ≤ 700 ∧ ∀ i, i ≤ n → TokN T n i (τ i) ∧ AdvC T n i (τ i) ∧ AdvM T n i (τ i)
def TxD (T : Nat → Int32) (n : Nat) (st : St) : Prop := TxC T n st ∧ gI st 34 6 = 0
theorem TxD.fr {T : Nat → Int32} {n : Nat} {a b : St} (F : Fr35 a b) (h : TxD T n a) : TxD T n b := ⟨h.1.fr F, (F.1 34 6 (by decide)).trans h.2⟩
def CX (T : Nat → Int32) (n : Nat) (τ : Nat → Tok) (r kv : Nat) (st : St) (i len : Nat) (row : Nat → Int32) : Prop := TxD T n st ∧ TkF st (τ i) ∧ gR st 34 2 = some r ∧ gI st 34 3 = iN kv ∧ gI st r 2 = iN len ∧ ∀ k, k < len → gA st (ch r 1) k = row k
def CE (r : Nat) (st : St) (k pl : Nat) : Prop := gR st 34 2 = some r ∧ ¬ gI st r 2 < 0 ∧ gI st 34 6 = iN k ∧ gI st 35 4 = iN pl
def CWi (r o k : Nat) : Prop := (o = 34 ∧ (k = 5 ∨ k = 6)) ∨ (o = 35 ∧ k ≠ 1) ∨ (o = r ∧ k = 2)
def CWf (r : Nat) (a b : St) : Prop := (∀ o k, ¬ CWi r o k → gI b o k = gI a o k) ∧ (∀ o k, ¬ (o = 35 ∧ k = 7) → gR b o k = gR a o k) ∧ ∀ x, x ≠ ch r 1 → gA b x = gA a x
theorem CWf.tr {r : Nat} {a b c : St} (h1 : CWf r a b) (h2 : CWf r b c) : CWf r a c := ⟨fun o k q => (h2.1 o k q).trans (h1.1 o k q), fun o k q => (h2.2.1 o k q).trans (h1.2.1 o k q), fun x q => (h2.2.2 x q).trans (h1.2.2 x q)⟩
theorem CWf.fr {r : Nat} {a b : St} (h : Fr35 a b) : CWf r a b := ⟨fun o k q => h.1 o k (fun z => q (Or.inr (Or.inl z))), h.2.1, fun x _ => h.2.2 x⟩
theorem CWf.s34 {r : Nat} {a : St} {k : Nat} (hk : k = 5 ∨ k = 6) (v : Int32) : CWf r a (sI a 34 k v) := ⟨fun o k2 q => gI_sI_ne (fun z => q (Or.inl ⟨z.1, by rw [z.2]; exact hk⟩)), fun _ _ _ => rfl, fun _ _ => rfl⟩
def MX (T : Nat → Int32) (n : Nat) (τ : Nat → Tok) (mo : Nat) (st : St) (i len : Nat) (row : Nat → Int32) : Prop := TxM T n st ∧ TkM st (τ i) ∧ gI st 58 23 = 0 ∧ gI st 58 26 = iN mo ∧ gR st 58 3 = some (60 + mo) ∧ gA st 62 (8 + mo) = iN len ∧ ∀ k, k < len → gA st (69 + mo) (700 + k) = trC (row k)
def ME (st : St) (k pl : Nat) : Prop := gI st 58 23 = iN k ∧ gI st 58 24 = iN pl
def MWi (o k : Nat) : Prop := o = 58 ∧ 17 ≤ k ∧ k ≤ 24 ∧ k ≠ 18
def MWf (mo : Nat) (a b : St) : Prop := (∀ o k, ¬ MWi o k → gI b o k = gI a o k) ∧ (∀ o k, gR b o k = gR a o k) ∧ (∀ x, x ≠ 62 → x ≠ 69 + mo → gA b x = gA a x) ∧ (∀ j, j ≠ 8 + mo → gA b 62 j = gA a 62 j) ∧ (∀ j, j < 700 → gA b (69 + mo) j = gA a (69 + mo) j) ∧ ∀ x, gL b x = gL a x
theorem MWf.rf {mo : Nat} {a : St} : MWf mo a a := ⟨fun _ _ _ => rfl, fun _ _ => rfl, fun _ _ _ => rfl, fun _ _ => rfl, fun _ _ => rfl, fun _ => rfl⟩
theorem MWf.tr {mo : Nat} {a b c : St} (h1 : MWf mo a b) (h2 : MWf mo b c) : MWf mo a c := ⟨fun o k q => (h2.1 o k q).trans (h1.1 o k q), fun o k => (h2.2.1 o k).trans (h1.2.1 o k), fun x q1 q2 => (h2.2.2.1 x q1 q2).trans (h1.2.2.1 x q1 q2), fun j q => (h2.2.2.2.1 j q).trans (h1.2.2.2.1 j q), fun j q => (h2.2.2.2.2.1 j q).trans (h1.2.2.2.2.1 j q), fun x => (h2.2.2.2.2.2 x).trans (h1.2.2.2.2.2 x)⟩
theorem MWf.fx {mo : Nat} {I : Nat → Nat → Prop} {a b : St} (h : Fx I noS a b) (hI : ∀ o k, I o k → MWi o k) : MWf mo a b := ⟨fun o k q => h.eI (fun z => q (hI o k z)), fun o k => h.eR o k, fun x _ _ => h.eA (fun z => z), fun j _ => by rw [h.eA (fun z => z)], fun j _ => by rw [h.eA (fun z => z)], fun x => h.eL x⟩
theorem itk_mw : ∀ o k, ITk o k → MWi o k := by
  rintro o k ⟨h1, h2⟩
  unfold MWi
  omega
theorem MWf.fr {mo : Nat} {a b : St} (h : FrT a b) : MWf mo a b := MWf.fx h itk_mw
section Ru
variable {T : Nat → Int32} {n : Nat} {τ : Nat → Tok} (TK : Tks T n τ) {r kv mo : Nat}
theorem ru_ne {r : Nat} (hr : isRu r) : r ≠ 34 ∧ r ≠ 35 ∧ ch r 1 ≠ 1 := by rcases hr with rfl | rfl | rfl | rfl <;> decide
theorem s_advX (TK : Tks T n τ) (hr : isRu r) {st : St} {i len : Nat} {row : Nat → Int32} (hi : i ≤ n) (X : CX T n τ r kv st i len row) {post : St → Prop} (h : ∀ st', CWf r st st' → CX T n τ r kv st' (tE (τ i)) len row → post st') : P_X8_advance 35 st post := by
  obtain ⟨x1, x2, x3, x4, x5, x6⟩ := X
  have N := (TK.2 i hi).1
  refine (TK.2 (tE (τ i)) N.2.2.1).2.1 st post x1.1 x2.1 (fun st' F K => h st' (CWf.fr F) ⟨x1.fr F, K, ?_, ?_, ?_, fun k hk => ?_⟩)
  · rw [F.2.1 _ _ (by decide)]; exact x3
  · rw [F.1 _ _ (by decide)]; exact x4
  · rw [F.1 _ _ (fun z => (ru_ne hr).2.1 z.1)]; exact x5
  · rw [F.2.2]; exact x6 k hk
theorem s_stepX (TK : Tks T n τ) {st : St} {i len : Nat} {row : Nat → Int32} (hi : i ≤ n) (X : MX T n τ mo st i len row) {post : St → Prop} (h : ∀ st', MWf mo st st' → MX T n τ mo st' (tE (τ i)) len row → post st') : P_X12_stepOn 58 st post := by
  obtain ⟨x1, x2, x3, x4, x5, x6, x7⟩ := X
  have N := (TK.2 i hi).1
  refine (TK.2 (tE (τ i)) N.2.2.1).2.2 st post x1 x2.1 (fun st' F K => h st' (MWf.fr F) ⟨x1.fr F, K, ?_, ?_, ?_, ?_, fun k hk => ?_⟩)
  · rw [F.eI (by unfold ITk; decide)]; exact x3
  · rw [F.eI (by unfold ITk; decide)]; exact x4
  · rw [F.eR]; exact x5
  · rw [F.eA (fun z => z)]; exact x6
  · rw [F.eA (fun z => z)]; exact x7 k hk
/-! a code is added -/
theorem s_addX (hr : isRu r) {st : St} {i len : Nat} {row : Nat → Int32} (X : CX T n τ r kv st i len row) (hl : len < 700) (c : Int32) {post : St → Prop} (h : ∀ st', CWf r st st' → CX T n τ r kv st' i (len + 1) (upd row len c) → post st') : P_X5_add r c st post := by
  obtain ⟨x1, x2, x3, x4, x5, x6⟩ := X
  obtain ⟨n1, n2, n3⟩ := ru_ne hr
  have e7 : Int32.ofNat (al 0 (ch r 1)) = iN 700 := by rw [ru_aw hr]; rfl
  unfold P_X5_add P_X5_add_32
  refine ⟨ru_2 hr, ch r 1, ru_w hr _, by rw [ru_aw hr]; decide, fun hz => ?_, fun _ => ⟨ch r 1, ru_w hr _, ru_2 hr, ?_, ru_2 hr, ru_2 hr, ?_⟩⟩
  · rw [e7, x5] at hz; exact absurd hz (nle (by decide) hl)
  · rw [x5, ru_aw hr]; exact iN_vp hl (by decide)
  · rw [gI_sA, x5, iN_cl (by omega), iN_s]
    refine h _ ⟨fun o k q => ?_, fun _ _ _ => rfl, fun x q => ?_⟩ ⟨⟨⟨?_, fun j hj => ?_⟩, ?_⟩, ?_, x3, ?_, gI_sI _ _ _ _, fun k hk => ?_⟩
    · rw [gI_sI_ne (fun z => q (Or.inr (Or.inr z)))]; rfl
    · rw [gA_sI, gA_sA_ne q]
    · rw [gI_sI_ne (fun z => n2 z.1.symm)]; exact x1.1.1
    · rw [gA_sI, gA_sA_ne (Ne.symm n3)]; exact x1.1.2 j hj
    · rw [gI_sI_ne (fun z => n1 z.1.symm)]; exact x1.2
    · obtain ⟨t1, t2, t3, t4, t5, t6, t7⟩ := x2
      exact ⟨by rw [gI_sI_ne (fun z => n2 z.1.symm)]; exact t1, by rw [gI_sI_ne (fun z => n2 z.1.symm)]; exact t2, by rw [gI_sI_ne (fun z => n2 z.1.symm)]; exact t3, by rw [gI_sI_ne (fun z => n2 z.1.symm)]; exact t4, by rw [gI_sI_ne (fun z => n2 z.1.symm)]; exact t5, t6, by rw [gI_sI_ne (fun z => n2 z.1.symm)]; exact t7⟩
    · rw [gI_sI_ne (fun z => n1 z.1.symm)]; exact x4
    · rw [gA_sI, gA_sA]
      by_cases e : k = len
      · rw [e, upd_same, upd_same]
      · rw [upd_ne e, upd_ne e]; exact x6 k (by omega)
theorem s_addE (hr : isRu r) {st : St} {k pl : Nat} (X : CE r st k pl) (c : Int32) {post : St → Prop} (h : ∀ st', CWf r st st' → CE r st' k pl → post st') : P_X5_add r c st post := by
  obtain ⟨x1, x2, x3, x4⟩ := X
  obtain ⟨n1, n2, n3⟩ := ru_ne hr
  have e7 : Int32.ofNat (al 0 (ch r 1)) = iN 700 := by rw [ru_aw hr]; rfl
  obtain ⟨e5, l5⟩ := nn_iN x2
  unfold P_X5_add P_X5_add_32
  refine ⟨ru_2 hr, ch r 1, ru_w hr _, by rw [ru_aw hr]; decide, fun hz => h st ⟨fun _ _ _ => rfl, fun _ _ _ => rfl, fun _ _ => rfl⟩ ⟨x1, x2, x3, x4⟩, fun hz => ?_⟩
  rw [e7, e5, iN_le (by decide) l5] at hz
  refine ⟨ch r 1, ru_w hr _, ru_2 hr, ?_, ru_2 hr, ru_2 hr, ?_⟩
  · rw [e5, ru_aw hr]; exact iN_vp (by omega) (by decide)
  · refine h _ ⟨fun o k q => ?_, fun _ _ _ => rfl, fun x q => ?_⟩ ⟨x1, ?_, ?_, ?_⟩
    · rw [gI_sI_ne (fun z => q (Or.inr (Or.inr z)))]; rfl
    · rw [gA_sI, gA_sA_ne q]
    · rw [gI_sI, gI_sA, e5, iN_s, lt0, iN_toInt (by omega)]; omega
    · rw [gI_sI_ne (fun z => n1 z.1.symm)]; exact x3
    · rw [gI_sI_ne (fun z => n2 z.1.symm)]; exact x4
theorem al6x : ∀ mo, mo < 2 → al 0 (69 + mo) = 1400 := by decide
theorem s_layX (hmo : mo < 2) {st : St} {i len : Nat} {row : Nat → Int32} (X : MX T n τ mo st i len row) (hl : len < 700) (c : Int32) {post : St → Prop} (h : ∀ st', MWf mo st st' → MX T n τ mo st' i (len + 1) (upd row len c) → post st') : P_X12_lay 58 (trC c) st post := by
  obtain ⟨x1, x2, x3, x4, x5, x6, x7⟩ := X
  have key : P_X12_lay_41 58 (trC c) post (iN (8 + mo)) (69 + mo) st := by
    have e8 : (iN (8 + mo)).toNatClampNeg = 8 + mo := iN_cl (by omega)
    have v8 : vp_in (iN (8 + mo)) (al 0 62) := by rw [al62]; exact iN_vp (by omega) (by decide)
    have e7 : 700 + iN len = iN (700 + len) := (iN_add 700 len).symm
    have ne : (62 : Nat) ≠ 69 + mo := by omega
    unfold P_X12_lay_41
    rw [e8]
    refine ⟨62, rfl, v8, ?_⟩
    rw [x6, e7, iN_cl (by omega)]
    refine ⟨by rw [al6x mo hmo]; exact iN_vp (by omega) (by decide), 62, rfl, v8, v8, ?_⟩
    rw [gA_sA_ne ne, x6, iN_s]
    refine h _ ⟨fun _ _ _ => rfl, fun _ _ => rfl, fun x q1 q2 => ?_, fun j q => ?_, fun j q => ?_, fun _ => rfl⟩ ⟨⟨x1.1, fun j hj => ?_⟩, x2, x3, x4, x5, ?_, fun k hk => ?_⟩
    · rw [gA_sA_ne q1, gA_sA_ne q2]
    · rw [gA_sA, upd_ne q, gA_sA_ne ne]
    · rw [gA_sA_ne (Ne.symm ne), gA_sA, upd_ne (by omega)]
    · rw [gA_sA_ne (by decide), gA_sA_ne (by omega)]; exact x1.2 j hj
    · rw [gA_sA, upd_same]
    · rw [gA_sA_ne (Ne.symm ne), gA_sA]
      by_cases e : k = len
      · rw [e, upd_same, upd_same]
      · rw [upd_ne (by omega), upd_ne e]; exact x7 k (by omega)
  have hm : mo = 0 ∨ mo = 1 := by omega
  unfold P_X12_lay P_X12_lay_21
  rw [x3, x4]
  rcases hm with rfl | rfl
  · exact ⟨rfl, fun _ => ⟨rfl, fun _ => ⟨rfl, fun _ => ⟨69, rfl, key⟩, fun z => absurd rfl z⟩, fun z => absurd rfl z⟩, fun z => absurd rfl z⟩
  · exact ⟨rfl, fun _ => ⟨rfl, fun z => absurd z (by decide), fun _ => ⟨rfl, fun z => absurd z (by decide), fun _ => ⟨70, rfl, key⟩⟩⟩, fun z => absurd rfl z⟩
/-! the reference has gone wrong: nothing more comes -/
theorem ME.ne {st : St} {k pl : Nat} (hk : 0 < k ∧ k < 10) (X : ME st k pl) : ¬ gI st 58 23 = 0 := by
  rw [X.1]
  intro z
  have := (iN_eq (b := 0) (by omega) (by decide)).mp z
  omega
theorem N_lay {st : St} (hb : ¬ gI st 58 23 = 0) {c : Int32} {post : St → Prop} (h : post st) : P_X12_lay 58 c st post := ⟨rfl, fun z => absurd z hb, fun _ => h⟩
theorem N_mkd {st : St} (hb : ¬ gI st 58 23 = 0) {c : Int32} {post : Int32 → St → Prop} (h : post 0 st) : P_X12_isMarked 58 c st post := ⟨rfl, fun _ => ⟨Or.inl rfl, h⟩, fun z => absurd z hb⟩
theorem N_is {st : St} (hb : ¬ gI st 58 23 = 0) {w : Nat} {post : Int32 → St → Prop} (h : post 0 st) : P_X12_is 58 w st post := ⟨rfl, fun _ => ⟨1, fun _ => ⟨Or.inl rfl, h⟩, fun z => absurd rfl z⟩, fun z => absurd z hb⟩
theorem N_mark {st : St} (hb : ¬ gI st 58 23 = 0) {c : Int32} {post : St → Prop} (h : post st) : P_X12_mark 58 c st post := ⟨rfl, fun _ => ⟨rfl, fun _ => h, fun z => absurd z hb⟩, fun z => absurd z hb⟩
theorem N_num {st : St} (hb : ¬ gI st 58 23 = 0) {a b : Int32} {post : Int32 → St → Prop} (h : post 0 st) : P_X12_readNumber 58 a b st post := ⟨⟨_, rfl⟩, rfl, fun z => absurd z hb, fun _ => ⟨rfl, fun _ => h, fun z => absurd z hb⟩⟩
variable {rcM : Nat → Int32 → St → (St → Prop) → Prop} {d : Int32}
theorem N_part {st : St} (hb : ¬ gI st 58 23 = 0) {post : St → Prop} (h : post st) : P_X12_readPart rcM 58 d st post := ⟨rfl, fun z => absurd z hb, fun _ => h⟩
theorem N_prod5 {st : St} (hb : ¬ gI st 58 23 = 0) {f : Nat} {post : St → Prop} (h : post st) : P_X12_readProduct_5 rcM 58 d post (f + 1) st := by
  unfold P_X12_readProduct_5
  exact ⟨⟨_, rfl⟩, N_mkd hb ⟨fun z => absurd rfl z, fun _ => ⟨⟨_, rfl⟩, N_mkd hb ⟨fun _ => h, fun z => absurd rfl z⟩⟩⟩⟩
theorem N_prod {st : St} (hb : ¬ gI st 58 23 = 0) {post : St → Prop} (h : post st) : P_X12_readProduct rcM 58 d st post := ⟨⟨_, rfl⟩, N_part hb ⟨1, N_prod5 hb h⟩⟩
theorem N_sum5 {st : St} (hb : ¬ gI st 58 23 = 0) {f : Nat} {post : St → Prop} (h : post st) : P_X12_readSum_5 rcM 58 d post (f + 1) st := by
  unfold P_X12_readSum_5
  exact ⟨⟨_, rfl⟩, N_mkd hb ⟨fun z => absurd rfl z, fun _ => ⟨⟨_, rfl⟩, N_mkd hb ⟨fun _ => h, fun z => absurd rfl z⟩⟩⟩⟩
theorem N_sum {st : St} (hb : ¬ gI st 58 23 = 0) {post : St → Prop} (h : post st) : P_X12_readSum rcM 58 d st post := ⟨⟨_, rfl⟩, N_prod hb ⟨1, N_sum5 hb h⟩⟩
theorem N_not94 {st : St} (hb : ¬ gI st 58 23 = 0) {a : Nat} (ha : a < 100) {post : St → Prop} (h : post st) : P_X12_readNot_94 rcM 58 d post (iN a) st := by
  refine ⟨a + 1, loop_up (α := Unit) (P := fun n i _ st => P_X12_readNot_96 rcM 58 d post n (iN a) i st) (N := a) (fun _ _ st' => st' = st) ?_ ?_ a 0 () st (by omega) rfl⟩
  · rintro i hi _ st' m rfl ih
    show P_X12_readNot_96 rcM 58 d post (m + 1) (iN a) (iN i) st'
    unfold P_X12_readNot_96
    refine ⟨fun hz => absurd hz (nle (by omega) hi), fun _ => ⟨⟨_, rfl⟩, N_lay hb ?_⟩⟩
    rw [iN_s]; exact ih () st' rfl
  · rintro _ st' m rfl
    show P_X12_readNot_96 rcM 58 d post (m + 1) (iN a) (iN a) st'
    unfold P_X12_readNot_96
    exact ⟨fun _ => h, fun hz => absurd (Int32.le_refl _) hz⟩
theorem N_not2 {st : St} (hb : ¬ gI st 58 23 = 0) {a f : Nat} (ha : a < 100) {post : St → Prop} (h : post st) : P_X12_readNot_2 rcM 58 d post (f + 1) (iN a) st := by
  unfold P_X12_readNot_2
  exact ⟨⟨_, rfl⟩, N_is hb ⟨fun _ => ⟨⟨_, rfl⟩, N_sum hb ⟨⟨_, rfl⟩, N_mkd hb ⟨fun z => absurd rfl z, fun _ => ⟨⟨_, rfl⟩, N_mkd hb ⟨fun _ => N_not94 hb ha h, fun z => absurd rfl z⟩⟩⟩⟩⟩, fun z => absurd rfl z⟩⟩
theorem N_not {st : St} (hb : ¬ gI st 58 23 = 0) {post : St → Prop} (h : post st) : P_X12_readNot rcM 58 d st post := ⟨1, N_not2 (a := 0) hb (by decide) h⟩
theorem N_and5 {st : St} (hb : ¬ gI st 58 23 = 0) {f : Nat} {post : St → Prop} (h : post st) : P_X12_readAnd_5 rcM 58 d post (f + 1) st := by
  unfold P_X12_readAnd_5
  exact ⟨⟨_, rfl⟩, N_is hb ⟨fun _ => h, fun z => absurd rfl z⟩⟩
theorem N_and {st : St} (hb : ¬ gI st 58 23 = 0) {post : St → Prop} (h : post st) : P_X12_readAnd rcM 58 d st post := ⟨⟨_, rfl⟩, N_not hb ⟨1, N_and5 hb h⟩⟩
theorem N_or67 {st : St} (hb : ¬ gI st 58 23 = 0) {f : Nat} {post : St → Prop} (h : post st) : P_X12_readExpression_67 rcM 58 d post (f + 1) st := by
  unfold P_X12_readExpression_67
  exact ⟨⟨_, rfl⟩, N_is hb ⟨fun _ => h, fun z => absurd rfl z⟩⟩
theorem N_ex62 {st : St} (hb : ¬ gI st 58 23 = 0) {post : St → Prop} (h : post st) : P_X12_readExpression_62 rcM 58 d post st := ⟨⟨_, rfl⟩, N_and hb ⟨1, N_or67 hb h⟩⟩
theorem N_exp {g : Nat} {st : St} (hb : ¬ gI st 58 23 = 0) {post : St → Prop} (h : post st) : PE_X12_readExpression (g + 1) 58 d st post := ⟨rfl, fun z => absurd z hb, fun _ => h⟩
end Ru
/-! what the reference sees of its token -/
section See
variable {T : Nat → Int32} {n : Nat} {τ : Nat → Tok} {mo i len : Nat} {row : Nat → Int32} {st : St}
theorem s_mkd (TK : Tks T n τ) (hi : i ≤ n) (X : MX T n τ mo st i len row) {c : Int32} (hc : c ≠ 0) {post : Int32 → St → Prop} (h1 : tS (τ i) = c → post 1 st) (h0 : tS (τ i) ≠ c → post 0 st) : P_X12_isMarked 58 c st post := by
  obtain ⟨x1, x2, x3, _⟩ := X
  obtain ⟨N1, N2, N3, N4, N5, N6, N7, N8, N9, N10, N11⟩ := (TK.2 i hi).1
  have n7 := TK.1
  unfold P_X12_isMarked
  rw [x3, x2.2.1, x2.2.2.1]
  refine ⟨rfl, fun z => absurd rfl z, fun _ => ⟨rfl, fun z => ⟨Or.inl rfl, h0 ?_⟩, fun z => ?_⟩⟩
  · have : tK (τ i) ≠ 3 := fun e => z (by rw [e]; rfl)
    rw [N9 this]; exact Ne.symm hc
  · have k3 : tK (τ i) = 3 := (iN_eq (b := 3) (by omega) (by decide)).mp z
    have lt := N4 (by omega)
    refine ⟨72, rfl, rfl, (show vp_in (iN (tB (τ i))) 700 from iN_vp (by omega) (by decide)), ?_⟩
    rw [iN_cl (by omega), x1.2 _ (by omega), ← N8 k3]
    exact ⟨fun z => ⟨Or.inl rfl, h0 z⟩, fun z => ⟨Or.inr rfl, h1 z⟩⟩
theorem s_isW (TK : Tks T n τ) (hi : i ≤ n) (X : MX T n τ mo st i len row) {w : Nat} (hw : w < 19) {post : Int32 → St → Prop} (h1 : tW (τ i) = some (1000 + w) → post 1 st) (h0 : tW (τ i) ≠ some (1000 + w) → post 0 st) : P_X12_is 58 (2000 + w) st post := by
  obtain ⟨x1, x2, x3, _⟩ := X
  obtain ⟨N1, N2, N3, N4, N5, N6, N7, N8, N9, N10, N11⟩ := (TK.2 i hi).1
  have n7 := TK.1
  have h10 := kl_lt w (by omega)
  have k2 := kOk2 (w := w) (by omega)
  have no : tW (τ i) ≠ some (1000 + w) → P_X12_is_35 58 (2000 + w) post st := fun z => ⟨1, fun _ => ⟨Or.inl rfl, h0 z⟩, fun z => absurd rfl z⟩
  unfold P_X12_is
  rw [x3, x2.2.1]
  refine ⟨rfl, fun z => absurd rfl z, fun _ => ⟨rfl, fun z => no (fun e => z (by rw [((N7 w hw).mp e).1]; rfl)), fun z => ⟨k2, s_len (by omega) ?_⟩⟩⟩
  have k1 : tK (τ i) = 1 := (iN_eq (b := 1) (by omega) (by decide)).mp z
  have lt := N4 (by omega)
  have ed : iN (tE (τ i)) - iN (tB (τ i)) = iN (tE (τ i) - tB (τ i)) := by
    have : iN (tE (τ i)) = iN (tE (τ i) - tB (τ i)) + iN (tB (τ i)) := by rw [← iN_add]; congr 1; omega
    rw [this]; exact Int32.add_sub_cancel _ _
  rw [x2.2.2.2.1, x2.2.2.1, ed]
  refine ⟨rfl, rfl, fun z => no (fun e => z ?_), fun z => ?_⟩
  · have := ((N7 w hw).mp e).2.1
    rw [show tE (τ i) - tB (τ i) = kL.getD w 0 by omega]
  have hl : kL.getD w 0 = tE (τ i) - tB (τ i) := (iN_eq (by omega) (by omega)).mp z
  refine ⟨kL.getD w 0 + 1, loop_up (P := fun m k a st => P_X12_is_39 58 (2000 + w) post m a k st) (N := kL.getD w 0) (fun k a st' => st' = st ∧ ((a = 1 ∧ ∀ k', k' < k → T (tB (τ i) + k') = chW w k') ∨ (a = 0 ∧ tW (τ i) ≠ some (1000 + w)))) ?_ ?_ (kL.getD w 0) 0 1 st (by omega) ⟨rfl, Or.inl ⟨rfl, fun k hk => absurd hk (Nat.not_lt_zero _)⟩⟩⟩
  · rintro k hk a st' m ⟨rfl, J⟩ ih
    show P_X12_is_39 58 (2000 + w) post (m + 1) a (iN k) st'
    unfold P_X12_is_39
    have eb : iN (tB (τ i)) + iN k = iN (tB (τ i) + k) := (iN_add _ _).symm
    refine ⟨fun ha => ⟨Or.inl ha, ?_⟩, fun ha => ⟨k2, s_len (by omega) ⟨fun hz => absurd hz (nle (by omega) hk), fun _ => ⟨k2, s_chr (by omega) hk ⟨72, rfl, rfl, ?_⟩⟩⟩⟩⟩
    · rcases J with ⟨rfl, _⟩ | ⟨rfl, z⟩
      · exact absurd ha (by decide)
      · exact h0 z
    · have J1 : ∀ k', k' < k → T (tB (τ i) + k') = chW w k' := by
        rcases J with ⟨_, z⟩ | ⟨rfl, _⟩
        · exact z
        · exact absurd rfl ha
      rw [x2.2.2.1, eb, iN_cl (by omega), x1.2 _ (by omega)]
      refine ⟨(show vp_in (iN (tB (τ i) + k)) 700 from iN_vp (by omega) (by decide)), fun hz => ?_, fun hz => ?_⟩
      · show P_X12_is_39 58 (2000 + w) post m 0 (iN k + 1) st'
        rw [iN_s]
        exact ih _ _ ⟨rfl, Or.inr ⟨rfl, fun e => hz (((N7 w hw).mp e).2.2 k hk).symm⟩⟩
      · show P_X12_is_39 58 (2000 + w) post m 1 (iN k + 1) st'
        rw [iN_s]
        refine ih _ _ ⟨rfl, Or.inl ⟨rfl, fun k' hk' => ?_⟩⟩
        by_cases e9 : k' = k
        · rw [e9]; exact hz.symm
        · exact J1 k' (by omega)
  · rintro a st' m ⟨rfl, J⟩
    show P_X12_is_39 58 (2000 + w) post (m + 1) a (iN (kL.getD w 0)) st'
    unfold P_X12_is_39
    rcases J with ⟨rfl, z⟩ | ⟨rfl, z⟩
    · exact ⟨fun y => absurd y (by decide), fun _ => ⟨k2, s_len (by omega) ⟨fun _ => ⟨Or.inr rfl, h1 ((N7 w hw).mpr ⟨k1, by omega, z⟩)⟩, fun y => absurd (Int32.le_refl _) y⟩⟩⟩
    · exact ⟨fun _ => ⟨Or.inl rfl, h0 z⟩, fun y => absurd rfl y⟩
/-- which of some words -/
def wsA (a w0 m : Nat) : Prop := al 3 a = m ∧ 0 < m ∧ w0 + m ≤ 19 ∧ ∀ k, k < m → (tbe a).2.2[k]? = some (2000 + (w0 + k))
theorem wsA59 : wsA 59 0 4 := ⟨rfl, by decide, by decide, by decide⟩
theorem wsA60 : wsA 60 11 8 := ⟨rfl, by decide, by decide, by decide⟩
theorem wsA61 : wsA 61 11 5 := ⟨rfl, by decide, by decide, by decide⟩
theorem s_which (TK : Tks T n τ) (hi : i ≤ n) (X : MX T n τ mo st i len row) {a w0 m : Nat} (hA : wsA a w0 m) {post : Int32 → St → Prop} (h1 : ∀ k, k < m → tW (τ i) = some (1000 + (w0 + k)) → post (iN k) st) (h0 : (∀ k, k < m → tW (τ i) ≠ some (1000 + (w0 + k))) → post (-1) st) : P_X12_which 58 a st post := by
  obtain ⟨a1, a2, a3, a4⟩ := hA
  have ea : Int32.ofNat (al 3 a) = iN m := by rw [a1]; rfl
  refine ⟨m + 1, loop_up (α := Unit) (P := fun n8 k _ st => P_X12_which_2 58 a post n8 k st) (N := m) (fun k _ st' => st' = st ∧ ∀ k', k' < k → tW (τ i) ≠ some (1000 + (w0 + k'))) ?_ ?_ m 0 () st (by omega) ⟨rfl, fun k hk => absurd hk (Nat.not_lt_zero _)⟩⟩
  · rintro k hk _ st' n8 ⟨rfl, J⟩ ih
    show P_X12_which_2 58 a post (n8 + 1) (iN k) st'
    unfold P_X12_which_2
    rw [ea, a1, iN_cl (by omega), iN_s]
    refine ⟨a2, fun hz => absurd hz (nle (by omega) hk), fun _ => ⟨iN_vp hk (by omega), 2000 + (w0 + k), a4 k hk, ⟨_, rfl⟩, s_isW TK hi X (by omega) (fun e => ⟨fun z => absurd z (by decide), fun _ => h1 k hk e⟩) (fun e => ⟨fun _ => ih () st' ⟨rfl, fun k' hk' => ?_⟩, fun z => absurd rfl z⟩)⟩⟩
    by_cases e9 : k' = k
    · rw [e9]; exact e
    · exact J k' (by omega)
  · rintro _ st' n8 ⟨rfl, J⟩
    show P_X12_which_2 58 a post (n8 + 1) (iN m) st'
    unfold P_X12_which_2
    rw [ea, a1]
    exact ⟨a2, fun _ => h0 J, fun z => absurd (Int32.le_refl _) z⟩
end See
