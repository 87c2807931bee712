/-! PURE: choice: the reference -/
theorem sh9 : ∀ b, b < 8 → (iN b : Int32) <<< ((9 : Int32) &&& 31) = iN (512 * b) := by decide
theorem ix87 {b k : Nat} (hb : b < 8) : ((iN b : Int32) <<< ((9 : Int32) &&& 31)) + iN k = iN (512 * b + k) := by rw [sh9 b hb, iN_add]
theorem al87 : al 0 87 = 3584 := rfl
def SMx (x : Nat) : Prop := x = 87 ∨ SMw x
theorem smx_sc : ∀ x, SMx x → ScM x := by
  rintro x (rfl | h)
  · unfold ScM; decide
  · exact smw_sc x h
theorem smx_p : nMP SMx := by unfold nMP SMx SMw; decide
theorem smx_m : ∀ x, SMx x → ¬ isM x := by
  rintro x (rfl | h)
  · unfold isM; decide
  · exact smw_m x h
/-- what stands of the reference while it fills -/
def RS (q : PD) (C : Nat → Int32) (st0 st : St) : Prop := Ex SMx st0 st ∧ MPl st q ∧ mC q.2.1 st = C
theorem RS.ex {q : PD} {C : Nat → Int32} {a b c : St} (R : RS q C a b) (E : Ex SMx b c) : RS q C a c := ⟨R.1.tr E, R.2.1.ex E smx_p, (mC_ex E smx_m _).trans R.2.2⟩
theorem RS.w {q : PD} {C : Nat → Int32} {a b c : St} (R : RS q C a b) (E : Ex SMw b c) : RS q C a c := R.ex (E.wk (fun _ z => Or.inr z))
theorem s_mayLead {st st0 : St} {q : PD} {C : Nat → Int32} (R : RS q C st0 st) {b k x : Nat} (hb : b < q.2.1) (hk : k < 512) (hx : x < q.1) {post : Int32 → St → Prop} (h : post (if C (38 + 3 * b + 1) = 1 ∧ k.testBit x = false ∧ 0 < C (56 + 6 * x + b) then 1 else 0) st) : P_X12_mayLead 58 (iN b) (iN k) (iN x) st post := by
  have q1 := R.2.1.np
  have q2 := R.2.1.nb
  have e78 : gA st 78 (iN b).toNatClampNeg = C (38 + 3 * b + 1) := by rw [iN_cl (by omega), ← R.2.2]; exact (rC_h (by omega)).symm
  have e80 : gA st 80 (iN (6 * x + b)).toNatClampNeg = C (56 + 6 * x + b) := by rw [iN_cl (by omega), ← R.2.2]; exact (rC_t2 (by omega) (by omega)).symm
  unfold P_X12_mayLead
  rw [x_m]
  refine ⟨78, rfl, vi6 hb q2 rfl, fun hz => ?_, fun h1 => s_isOf hk (by omega) ⟨fun hz => ?_, fun hz => ⟨80, rfl, by rw [al80]; exact iN_vp (by omega) (by decide), fun h3 => ?_, fun h3 => ?_⟩⟩⟩
  · rw [e78] at hz
    rw [if_neg (fun e => hz e.1)] at h
    exact ⟨Or.inl rfl, h⟩
  · rw [if_neg (fun e => by have := ite2 hz; rw [e.2.1] at this; exact absurd this (by decide))] at h
    exact ⟨Or.inl rfl, h⟩
  · rw [e80] at h3
    rw [if_neg (fun e => absurd e.2.2 (Int32.not_lt.mpr h3))] at h
    exact ⟨Or.inl rfl, h⟩
  · rw [e80] at h3
    rw [e78] at h1
    have hf : k.testBit x = false := by
      cases e : k.testBit x
      · rfl
      · exact absurd e (ite1 hz)
    rw [if_pos ⟨h1, hf, Int32.not_le.mp h3⟩] at h
    exact ⟨Or.inr rfl, h⟩
theorem s_with {st st0 : St} {q : PD} {C : Nat → Int32} (hC : CI q C) (R : RS q C st0 st) {b k x : Nat} (hb : b < q.2.1) (hk : k < 2 ^ q.1) (hx : x < q.1) {f : Nat → Int32} (hf : ∀ j, j < 2 ^ q.1 → gA st 87 (512 * (b + 1) + j) = f j) {post : Int32 → St → Prop} (h : ∀ st1, Ex SMw st st1 → post (weighF q C x b + f (k ||| 2 ^ x)) st1) : P_X12_with 58 (iN b) (iN k) (iN x) st post := by
  have q1 := R.2.1.np
  have q2 := R.2.1.nb
  have l1 := or2_lt hk hx
  have l2 := pow9 q1 l1
  have eb : iN k ||| (1 : Int32) <<< ((iN x : Int32) &&& 31) = iN (k ||| 2 ^ x) := by
    show iN k ||| bit x = _
    rw [bit10 x (by omega), iN_or]
  unfold P_X12_with
  rw [eb, iN_s, ix87 (by omega)]
  refine ⟨fun _ => ⟨⟨_, rfl⟩, s_weightOf (nb := q.2.1) R.2.1 hx hb (by rw [R.2.2]; exact hC) (fun st1 E1 => ⟨87, rfl, by rw [al87]; exact iN_vp (by omega) (by decide), ?_⟩)⟩, fun hz => absurd hz (iN_ne_m1 (by omega))⟩
  rw [iN_cl (by omega), E1.eA (by unfold SMw; decide), hf _ l1, R.2.2]
  exact h st1 E1
set_option maxHeartbeats 2000000 in
theorem s_tellMost {st : St} {q : PD} (M : MPl st q) {C : Nat → Int32} (hm : mC q.2.1 st = C) (hC : CI q C) {post : St → Prop} (h : ∀ st1, RS q C st st1 → (∀ b, b ≤ q.2.1 → ∀ k, k < 2 ^ q.1 → gA st1 87 (512 * b + k) = vD q C (q.2.1 - b) k) → post st1) : P_X12_tellMost 58 st post := by
  have q1 := M.np
  have q2 := M.nb
  have p9 : 2 ^ q.1 ≤ 512 := (show 2 ^ q.1 ≤ 2 ^ 9 from Nat.pow_le_pow_right (by decide) q1)
  have v87 : ∀ b k, b ≤ 6 → k < 2 ^ q.1 → vp_in (iN (512 * b + k)) (al 0 87) := fun b k hb hk => by rw [al87]; exact iN_vp (by omega) (by decide)
  refine ⟨62, rfl, v0_10, ?_⟩
  rw [M.e0]
  have es : (1 : Int32) <<< ((iN q.1 : Int32) &&& 31) = iN (2 ^ q.1) := bit10 q.1 (by omega)
  rw [es]
  refine ⟨2 ^ q.1 + 1, loop_up (α := Unit) (P := fun n i _ st => P_X12_tellMost_11 58 post n (iN (2 ^ q.1)) i st) (N := 2 ^ q.1) (fun i _ st' => RS q C st st' ∧ ∀ k, k < i → gA st' 87 (512 * q.2.1 + k) = 0) ?_ ?_ (2 ^ q.1) 0 () st (by omega) ⟨⟨Ex.rf, M, hm⟩, fun k hk => absurd hk (Nat.not_lt_zero _)⟩⟩
  · rintro i hi _ st' n ⟨R1, e1⟩ ih
    show P_X12_tellMost_11 58 post (n + 1) _ (iN i) st'
    unfold P_X12_tellMost_11
    refine ⟨fun hz => absurd hz (nle (by omega) hi), fun _ => ⟨87, rfl, 62, rfl, v1_10, ?_⟩⟩
    rw [R1.2.1.e1, ix87 (by omega), iN_cl (by omega), iN_s]
    refine ⟨v87 _ _ q2 hi, ih () _ ⟨R1.ex (Ex.sa (S := SMx) (Or.inl rfl) _ _), fun k hk => ?_⟩⟩
    rw [gA_sA]
    by_cases e : k = i
    · subst e; rw [upd_same]
    · rw [upd_ne (by omega)]; exact e1 k (by omega)
  · rintro _ st' n ⟨R1, e1⟩
    show P_X12_tellMost_11 58 post (n + 1) _ (iN (2 ^ q.1)) st'
    unfold P_X12_tellMost_11
    refine ⟨fun _ => ⟨62, rfl, v1_10, q.2.1 + 1, ?_⟩, fun hz => absurd (Int32.le_refl _) hz⟩
    rw [R1.2.1.e1]
    have LD := loop_dn (α := Unit) (P := fun n i _ st => P_X12_tellMost_48 58 post n (iN (2 ^ q.1)) i st) (L := 0) (fun r _ st' => r ≤ q.2.1 ∧ RS q C st st' ∧ ∀ b, r ≤ b → b ≤ q.2.1 → ∀ k, k < 2 ^ q.1 → gA st' 87 (512 * b + k) = vD q C (q.2.1 - b) k) ?_ ?_ q.2.1 () st' ?_
    · rw [Nat.zero_add] at LD
      exact LD
    · rintro r _ _ st2 n2 ⟨hr2, R2, e2⟩ ih2
      show P_X12_tellMost_48 58 post (n2 + 1) _ (iN r) st2
      unfold P_X12_tellMost_48
      refine ⟨fun hz => ?_, fun _ => ⟨2 ^ q.1 + 1, ?_⟩⟩
      · rw [lt0, iN_toInt (by omega)] at hz; omega
      refine loop_up (α := Unit) (P := fun n i _ st => P_X12_tellMost_54 58 (fun x1 x2 st => P_X12_tellMost_48 58 post n2 x1 x2 st) post n (iN (2 ^ q.1)) (iN r) i st) (N := 2 ^ q.1) (fun i _ st3 => RS q C st st3 ∧ (∀ b, r + 1 ≤ b → b ≤ q.2.1 → ∀ k, k < 2 ^ q.1 → gA st3 87 (512 * b + k) = vD q C (q.2.1 - b) k) ∧ ∀ k, k < i → gA st3 87 (512 * r + k) = vD q C (q.2.1 - r) k) ?_ ?_ (2 ^ q.1) 0 () st2 (by omega) ⟨R2, e2, fun k hk => absurd hk (Nat.not_lt_zero _)⟩
      · rintro i hi _ st3 n3 ⟨R3, e3, e4⟩ ih3
        have i9 := pow9 q1 hi
        have f3 : ∀ j, j < 2 ^ q.1 → gA st3 87 (512 * (r + 1) + j) = vD q C (q.2.1 - 1 - r) j := fun j hj => by rw [e3 (r + 1) (by omega) (by omega) j hj]; congr 1; omega
        show P_X12_tellMost_54 58 _ post (n3 + 1) _ (iN r) (iN i) st3
        unfold P_X12_tellMost_54
        refine ⟨fun hz => absurd hz (nle (by omega) hi), fun _ => ⟨⟨_, rfl⟩, fun hz => absurd rfl hz, fun _ => ⟨87, rfl, ?_⟩⟩⟩
        rw [iN_s, ix87 (by omega), iN_cl (by omega), f3 i hi]
        refine ⟨v87 _ _ (by omega) hi, q.1 + 1, ?_⟩
        refine loop_up (P := fun n l s st => P_X12_tellMost_71 58 (fun x1 x2 x3 st => P_X12_tellMost_54 58 (fun x1 x2 st => P_X12_tellMost_48 58 post n2 x1 x2 st) post n3 x1 x2 x3 st) post n (iN (2 ^ q.1)) (iN r) (iN i) s l st) (N := q.1) (fun l s st4 => Ex SMw st3 st4 ∧ s = mstF q C r (vD q C (q.2.1 - 1 - r)) i l) ?_ ?_ q.1 0 (vD q C (q.2.1 - 1 - r) i) st3 (by omega) ⟨Ex.rf, rfl⟩
        · rintro l hl s st4 n4 ⟨E4, rfl⟩ ih4
          have hs := mst_s q C r (vD q C (q.2.1 - 1 - r)) i l
          have R4 := R3.w E4
          have n87 : ¬ SMw 87 := by unfold SMw; decide
          show P_X12_tellMost_71 58 _ post (n4 + 1) _ (iN r) (iN i) _ (iN l) st4
          unfold P_X12_tellMost_71
          refine ⟨62, rfl, v0_10, fun hz => ?_, fun _ => ⟨⟨_, rfl⟩, s_mayLead R4 (by omega) i9 hl ⟨fun hz => ?_, fun hz => ⟨⟨_, rfl⟩, s_with hC R4 (by omega) hi hl (f := vD q C (q.2.1 - 1 - r)) (fun j hj => by rw [E4.eA n87]; exact f3 j hj) (fun st5 E5 => ?_)⟩⟩⟩⟩
          · rw [R4.2.1.e0] at hz; exact absurd hz (nle (by omega) hl)
          · show P_X12_tellMost_71 58 _ post n4 _ (iN r) (iN i) _ (iN l + 1) st4
            rw [iN_s]
            exact ih4 _ _ ⟨E4, by rw [hs, if_neg (ite1 hz)]⟩
          · show P_X12_tellMost_71 58 _ post n4 _ (iN r) (iN i) _ (iN l + 1) st5
            rw [iN_s]
            exact ih4 _ _ ⟨E4.tr E5, (hs.trans (if_pos (ite2 hz))).symm⟩
        · rintro s st4 n4 ⟨E4, rfl⟩
          have R4 := R3.w E4
          have n87 : ¬ SMw 87 := by unfold SMw; decide
          show P_X12_tellMost_71 58 _ post (n4 + 1) _ (iN r) (iN i) _ (iN q.1) st4
          unfold P_X12_tellMost_71
          refine ⟨62, rfl, v0_10, fun _ => ⟨87, rfl, ?_⟩, fun hz => absurd (by rw [R4.2.1.e0]; exact Int32.le_refl _) hz⟩
          rw [ix87 (by omega), iN_cl (by omega), iN_s, ← vD_b (by omega)]
          refine ⟨v87 _ _ (by omega) hi, ih3 () _ ⟨R4.ex (Ex.sa (S := SMx) (Or.inl rfl) _ _), fun b hb hb2 k hk => ?_, fun k hk => ?_⟩⟩
          · rw [gA_sA, upd_ne (by omega), E4.eA n87]; exact e3 b hb hb2 k hk
          · rw [gA_sA, E4.eA n87]
            by_cases e : k = i
            · subst e; rw [upd_same]
            · rw [upd_ne (by omega)]; exact e4 k (by omega)
      · rintro _ st3 n3 ⟨R3, e3, e4⟩
        show P_X12_tellMost_54 58 _ post (n3 + 1) _ (iN r) (iN (2 ^ q.1)) st3
        unfold P_X12_tellMost_54
        refine ⟨fun _ => ?_, fun hz => absurd (Int32.le_refl _) hz⟩
        rw [show iN r + (-1) = iN r - 1 from Int32.add_neg_eq_sub]
        refine ih2 () st3 ⟨by omega, R3, fun b hb hb2 k hk => ?_⟩
        by_cases e : b = r
        · subst e; exact e4 k hk
        · exact e3 b (by omega) hb2 k hk
    · rintro _ st2 n2 ⟨hr2, R2, e2⟩
      show P_X12_tellMost_48 58 post (n2 + 1) _ (iN 0 - 1) st2
      unfold P_X12_tellMost_48
      exact ⟨fun _ => h st2 R2 (fun b hb k hk => e2 b (Nat.zero_le _) hb k hk), fun hz => absurd (by decide) hz⟩
    · refine ⟨by omega, R1, fun b hb hb2 k hk => ?_⟩
      have : b = q.2.1 := by omega
      subst this
      rw [e1 k hk, Nat.sub_self]; rfl
set_option maxHeartbeats 1000000 in
theorem s_chM {st st0 : St} {q : PD} {C : Nat → Int32} (hC : CI q C) (R : RS q C st0 st) (hv : ∀ b, b ≤ q.2.1 → ∀ k, k < 2 ^ q.1 → gA st 87 (512 * b + k) = vD q C (q.2.1 - b) k) {x : Nat} (hx : x < q.2.1) {post : Int32 → St → Prop} (h : ∀ st1, RS q C st0 st1 → post (whF q C x (tkF q C x)) st1) : ∃ n8, P_X12_choice_54 58 (iN x) post n8 0 (-1) 0 st := by
  have q1 := R.2.1.np
  have q2 := R.2.1.nb
  have p9 : 2 ^ q.1 ≤ 512 := (show 2 ^ q.1 ≤ 2 ^ 9 from Nat.pow_le_pow_right (by decide) q1)
  have n87 : ¬ SMw 87 := by unfold SMw; decide
  refine ⟨x + 2, loop_up (α := Int32 × Int32) (P := fun n i s st => P_X12_choice_54 58 (iN x) post n s.1 s.2 i st) (N := x + 1) (fun i s st' => Ex SMw st st' ∧ s.1 = iN (tkF q C i) ∧ (∀ j, i = j + 1 → s.2 = whF q C j (tkF q C j))) ?_ ?_ (x + 1) 0 (0, -1) st (by omega) ⟨Ex.rf, rfl, fun j hj => by omega⟩⟩
  · rintro i hi ⟨s1, s2⟩ st' n ⟨E1, e1, e2⟩ ih
    have e1 : s1 = iN (tkF q C i) := e1
    subst e1
    have R1 := R.w E1
    have tl := tk_lt q1 C i
    have t9 := pow9 q1 tl
    show P_X12_choice_54 58 (iN x) post (n + 1) _ _ (iN i) st'
    unfold P_X12_choice_54
    refine ⟨fun hz => ?_, fun _ => ⟨62, rfl, v0_10, q.1 + 1, ?_⟩⟩
    · rw [iN_lt (by omega) (by omega)] at hz; omega
    rw [R1.2.1.e0]
    have LD := loop_dn (P := fun n2 l s st => P_X12_choice_72 58 (iN x) (fun x2 x3 x4 st => P_X12_choice_54 58 (iN x) post n x2 x3 x4 st) post n2 (iN (tkF q C i)) s (iN i) l st) (L := 0) (fun r s st2 => r ≤ q.1 ∧ Ex SMw st st2 ∧ isFst q C i (tkF q C i) r q.1 s) ?_ ?_ q.1 (-1) st' ?_
    · rw [Nat.zero_add] at LD
      exact LD
    · rintro r _ s st2 n2 ⟨hr, E2, hf⟩ ih2
      have R2 := R.w E2
      have skip : ∀ st3, Ex SMw st st3 → ¬ fitP q C i (tkF q C i) r → P_X12_choice_72 58 (iN x) (fun x2 x3 x4 st => P_X12_choice_54 58 (iN x) post n x2 x3 x4 st) post n2 (iN (tkF q C i)) s (iN i) (iN r + (-1)) st3 := fun st3 E3 hn => by
        rw [show iN r + (-1) = iN r - 1 from Int32.add_neg_eq_sub]
        refine ih2 _ _ ⟨by omega, E3, ?_⟩
        rcases hf with ⟨a1, a2⟩ | ⟨y, a1, a2, a3, a4, a5⟩
        · refine Or.inl ⟨a1, fun p z1 z2 => ?_⟩
          by_cases e : p = r
          · subst e; exact hn
          · exact a2 p (by omega) z2
        · refine Or.inr ⟨y, by omega, a2, a3, a4, fun p z1 z2 => ?_⟩
          by_cases e : p = r
          · subst e; exact hn
          · exact a5 p (by omega) z2
      show P_X12_choice_72 58 (iN x) _ post (n2 + 1) _ _ (iN i) (iN r) st2
      unfold P_X12_choice_72
      refine ⟨fun hz => ?_, fun _ => ⟨⟨_, rfl⟩, s_mayLead R2 (by omega) t9 (by omega) ⟨fun hz => skip st2 E2 (fun e => ite1 hz e.1), fun hz => ⟨⟨_, rfl⟩, s_with hC R2 (by omega) tl (by omega) (f := vD q C (q.2.1 - 1 - i)) (fun j hj => ?_) (fun st3 E3 => ⟨87, rfl, ?_⟩)⟩⟩⟩⟩
      · rw [lt0, iN_toInt (by omega)] at hz; omega
      · rw [E2.eA n87, hv (i + 1) (by omega) j hj]; congr 1; omega
      rw [ix87 (by omega), iN_cl (by omega), E3.eA n87, E2.eA n87, hv i (by omega) _ tl]
      refine ⟨by rw [al87]; exact iN_vp (by omega) (by decide), fun hz => skip st3 (E2.tr E3) (fun e => hz e.2), fun hz2 => ?_⟩
      show P_X12_choice_72 58 (iN x) _ post n2 _ (iN r) (iN i) (iN r + (-1)) st3
      rw [show iN r + (-1) = iN r - 1 from Int32.add_neg_eq_sub]
      exact ih2 _ _ ⟨by omega, E2.tr E3, Or.inr ⟨r, Nat.le_refl _, by omega, rfl, ⟨ite2 hz, hz2⟩, fun p z1 z2 => by omega⟩⟩
    · rintro s st2 n2 ⟨hr, E2, hf⟩
      have ew : s = whF q C i (tkF q C i) := fst_un hf (wh_fst q1 C i (tkF q C i))
      have hs := tk_s q C i
      show P_X12_choice_72 58 (iN x) _ post (n2 + 1) _ _ (iN i) (iN 0 - 1) st2
      unfold P_X12_choice_72
      refine ⟨fun _ => ⟨fun hw => ?_, fun hw => ?_⟩, fun hz => absurd (by decide) hz⟩
      · rcases wh_fst q1 C i (tkF q C i) with ⟨a1, _⟩ | ⟨y, _, a2, a3, _, _⟩
        · rw [ew] at hw; exact absurd a1 hw
        rw [ew, a3]
        have eb : iN (tkF q C i) ||| (1 : Int32) <<< ((iN y : Int32) &&& 31) = iN (tkF q C i ||| 2 ^ y) := by
          show iN (tkF q C i) ||| bit y = _
          rw [bit10 y (by omega), iN_or]
        rw [a3, if_neg (iN_ne_m1 (by omega)), iN_cl (by omega)] at hs
        show P_X12_choice_54 58 (iN x) post n (iN (tkF q C i) ||| (1 : Int32) <<< ((iN y : Int32) &&& 31)) (iN y) (iN i + 1) st2
        rw [iN_s, eb]
        refine ih (_, _) st2 ⟨E2, ?_, fun j hj => ?_⟩
        · show iN (tkF q C i ||| 2 ^ y) = _
          rw [hs]
        · have : i = j := by omega
          subst this; exact a3.symm
      · rw [ew] at hw
        rw [if_pos hw] at hs
        show P_X12_choice_54 58 (iN x) post n (iN (tkF q C i) ||| 0) s (iN i + 1) st2
        rw [iN_s, Int32.or_zero]
        refine ih (_, _) st2 ⟨E2, ?_, fun j hj => ?_⟩
        · show iN (tkF q C i) = _
          rw [hs]
        · have : i = j := by omega
          subst this; exact ew
    · exact ⟨by omega, E1, Or.inl ⟨rfl, fun p z1 z2 => by omega⟩⟩
  · rintro ⟨s1, s2⟩ st' n ⟨E1, e1, e2⟩
    show P_X12_choice_54 58 (iN x) post (n + 1) _ s2 (iN (x + 1)) st'
    unfold P_X12_choice_54
    refine ⟨fun _ => ?_, fun hz => absurd ((iN_lt (by omega) (by omega)).mpr (by omega)) hz⟩
    have e9 : s2 = whF q C x (tkF q C x) := e2 x rfl
    rw [e9]
    exact h st' (R.w E1)
theorem m1_64 : (-1 : Int64).toInt = -1 := by decide
theorem c_choice {a : Int32} {st : St} (hI : Inv st) : P_L_choice a st (fun k st1 => Bth (P_X12_choice 58 a) k st1) := by
  obtain ⟨v, H, HM, HO⟩ := hI
  obtain ⟨p, D⟩ := H.D
  have q1 := HO.1.1
  have q2 := HO.1.2.1
  have hc := H.c
  have hC := HO.2.2.1.1.1
  by_cases ha : a = -1
  · subst ha
    refine h_ok (PC := fun post pex => P_X11_choice 0 (-1) st post pex) (PM := P_X12_choice 58 (-1)) (v2 := v) (r := vD v.1 v.2.1.1 v.1.2.1 0) HM HO (fun post h => ?_) (fun s1 post I0 h => ?_)
    · refine ⟨fun hz => absurd rfl hz, fun _ => ⟨39, rfl, ⟨_, rfl⟩, s_mostTog D hC hc (fun st1 E1 _ => ?_)⟩⟩
      have Q1 := QFr.ex E1 scx_sc H.tp
      exact h st1 Q1.cfr (H.qfr Q1)
    · have I1 := (m_beg I0).1
      have eC := I1.c
      refine ⟨rfl, 62, rfl, v1_10, ?_⟩
      rw [I1.1.e1]
      refine s_isIn1 ?_ ?_ ⟨fun _ => ⟨⟨_, rfl⟩, s_tellMost I1.1 eC hC (fun s2 R2 hv => ⟨fun hz => absurd rfl hz, fun _ => ⟨87, rfl, by rw [al87]; exact vp0 _ (by decide) (by decide), ?_⟩⟩)⟩, fun hz => absurd hz (by decide)⟩
      · rw [Int32.toInt_toInt64, m1_64]; decide
      · rw [Int32.toInt_toInt64, Int32.toInt_toInt64, n1_toInt (by omega), show (-1 : Int32).toInt = -1 by decide]; omega
      have e9 : gA s2 87 (0 : Int32).toNatClampNeg = vD v.1 v.2.1.1 v.1.2.1 0 := hv 0 (Nat.zero_le _) 0 (Nat.pow_pos (by decide))
      rw [e9]
      obtain ⟨g1, g2, g3⟩ := m_qe I0 R2.1 smx_sc
      exact h s2 g1 g2 g3
  · by_cases hb : isI v.1.2.1 a
    · obtain ⟨x, hx, rfl⟩ := hb
      refine h_ok (PC := fun post pex => P_X11_choice 0 (iN x) st post pex) (PM := P_X12_choice 58 (iN x)) (v2 := v) (r := whF v.1 v.2.1.1 x (tkF v.1 v.2.1.1 x)) HM HO (fun post h => ?_) (fun s1 post I0 h => ?_)
      · refine ⟨fun _ => ⟨tb_out, s_needB D hx ⟨39, rfl, ⟨_, rfl⟩, s_chC D hC hc hx (fun st1 E1 => ?_)⟩⟩, fun hz => absurd hz ha⟩
        have Q1 := QFr.ex E1 scx_sc H.tp
        exact h st1 Q1.cfr (H.qfr Q1)
      · have I1 := (m_beg I0).1
        have eC := I1.c
        refine ⟨rfl, 62, rfl, v1_10, ?_⟩
        rw [I1.1.e1]
        refine s_isIn1 ?_ ?_ ⟨fun _ => ⟨⟨_, rfl⟩, s_tellMost I1.1 eC hC (fun s2 R2 hv => ⟨fun _ => s_chM hC R2 hv hx (fun s3 R3 => ?_), fun hz => absurd hz ha⟩)⟩, fun hz => absurd hz (by decide)⟩
        · rw [Int32.toInt_toInt64, m1_64, iN_toInt (by omega)]; omega
        · rw [Int32.toInt_toInt64, Int32.toInt_toInt64, n1_toInt (by omega), iN_toInt (by omega)]; omega
        obtain ⟨g1, g2, g3⟩ := m_qe I0 R3.1 smx_sc
        exact h s3 g1 g2 g3
    · refine h_thr (PC := fun post pex => P_X11_choice 0 a st post pex) (PM := P_X12_choice 58 a) (X := NSE) (k := 1) (by decide) H HM HO (fun pex h => ⟨fun _ => ⟨tb_out, s_needB0 D hb h⟩, fun hz => absurd hz ha⟩) (fun s1 post I0 h => ?_) (fun h => ⟨rfl, h⟩)
      refine ⟨rfl, 62, rfl, v1_10, ?_⟩
      rw [(m_beg I0).1.1.e1]
      refine s_isIn0 (fun hz => ?_) ⟨fun hz => absurd rfl hz, fun _ => ⟨⟨_, rfl⟩, m_fail I0 h⟩⟩
      rw [isI_iff (by omega)] at hb
      rw [Int32.toInt_toInt64, Int32.toInt_toInt64, n1_toInt (by omega), m1_64] at hz
      have hne : a.toInt ≠ -1 := fun e => ha (Int32.toInt_inj.mp (by rw [e]; rfl))
      omega
