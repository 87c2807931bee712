/-! PURE: the reference packs its dale into a row, and takes it out again -/
theorem rC_congr {nb : Nat} {dy dg dy2 dg2 : Int32} {g t o l w h le ti g2 t2 o2 l2 w2 h2 le2 ti2 : Nat → Int32} (e0 : dy = dy2) (e1 : dg = dg2) (eg : ∀ p, p < 9 → g p = g2 p) (et : ∀ p, p < 9 → t p = t2 p) (eo : ∀ p, p < 9 → o p = o2 p) (el : ∀ p, p < 9 → l p = l2 p) (ew : ∀ b, b < 6 → w b = w2 b) (eh : ∀ b, b < 6 → h b = h2 b) (ee : ∀ b, b < 6 → le b = le2 b) (ei : ∀ k, k < 54 → ti k = ti2 k) : rC nb dy dg g t o l w h le ti = rC nb dy2 dg2 g2 t2 o2 l2 w2 h2 le2 ti2 := by
  subst e0
  subst e1
  funext j
  unfold rC
  by_cases h0 : j = 0
  · rw [if_pos h0, if_pos h0]
  rw [if_neg h0, if_neg h0]
  by_cases h1 : j = 1
  · rw [if_pos h1, if_pos h1]
  rw [if_neg h1, if_neg h1]
  by_cases h38 : j < 38
  · rw [if_pos h38, if_pos h38, eg _ (by omega), et _ (by omega), eo _ (by omega), el _ (by omega)]
  rw [if_neg h38, if_neg h38]
  by_cases h56 : j < 56
  · rw [if_pos h56, if_pos h56, ew _ (by omega), eh _ (by omega), ee _ (by omega)]
  rw [if_neg h56, if_neg h56]
  by_cases h110 : j < 110
  · rw [if_pos h110, if_pos h110, ei _ (by omega)]
  · rw [if_neg h110, if_neg h110]
/-- a row holds the dale of a state -/
def Holds (r : Nat → Int32) (st : St) : Prop := r 0 = gI st 58 36 ∧ r 1 = gI st 58 37 ∧ (∀ p, p < 9 → r (2 + p) = gA st 73 p ∧ r (11 + p) = gA st 74 p ∧ r (20 + p) = gA st 75 p ∧ r (29 + p) = gA st 76 p) ∧ (∀ b, b < 6 → r (38 + b) = gA st 77 b ∧ r (44 + b) = gA st 78 b ∧ r (50 + b) = gA st 79 b) ∧ ∀ k, k < 54 → r (56 + k) = gA st 80 k
theorem Holds.row {r : Nat → Int32} {st : St} (H : Holds r st) (nb : Nat) : rowC nb r = mC nb st := by
  obtain ⟨h0, h1, h2, h3, h4⟩ := H
  exact rC_congr h0 h1 (fun p hp => (h2 p hp).1) (fun p hp => (h2 p hp).2.1) (fun p hp => (h2 p hp).2.2.1) (fun p hp => (h2 p hp).2.2.2) (fun b hb => (h3 b hb).1) (fun b hb => (h3 b hb).2.1) (fun b hb => (h3 b hb).2.2) h4
theorem iN_3 (f k x : Nat) : (iN f + iN k) + iN x = iN (f + k + x) := by rw [iN_add, iN_add]
def Sa (a : Nat) : Nat → Prop := fun x => x = a
set_option maxHeartbeats 4000000 in
theorem s_pack {st : St} {a f n : Nat} (ha : al 0 a = n) (hf : f + 110 ≤ n) (hn : n < 100000) (hM : ¬ isM a) {post : St → Prop} (h : ∀ st2, Ex (Sa a) st st2 → Holds (fun i => gA st2 a (f + i)) st → (∀ j, j < f ∨ f + 110 ≤ j → gA st2 a j = gA st a j) → post st2) : P_X12_pack 58 a (iN f) st post := by
  have vi : ∀ j, j < 110 → vp_in (iN (f + j)) (al 0 a) := fun j hj => by rw [ha]; exact iN_vp (by omega) (by omega)
  have ne : ∀ x, 73 ≤ x → x ≤ 80 → x ≠ a := fun x h1 h2 e => hM (e ▸ ⟨h1, h2⟩)
  have hE0 : ∀ {s : St} (j : Nat) (v : Int32), Ex (Sa a) s (sA s a j v) := fun j v => Ex.sa (S := Sa a) rfl j v
  refine ⟨rfl, vi 0 (by decide), rfl, by rw [iN_s]; exact vi 1 (by decide), ?_⟩
  have e1 : iN f + 1 = iN (f + 1) := iN_s f
  have e2 : iN f + 2 = iN (f + 2) := (iN_add f 2).symm
  rw [e1, e2, iN_cl (by omega), iN_cl (by omega), gI_sA]
  -- the people
  refine ⟨10, loop_up (α := Unit) (P := fun n i _ st => P_X12_pack_23 58 a (iN f) post n (iN (f + 2)) i st) (N := 9) (fun i _ st' => Ex (Sa a) st st' ∧ gA st' a f = gI st 58 36 ∧ gA st' a (f + 1) = gI st 58 37 ∧ (∀ p, p < i → gA st' a (f + (2 + p)) = gA st 73 p ∧ gA st' a (f + (11 + p)) = gA st 74 p ∧ gA st' a (f + (20 + p)) = gA st 75 p ∧ gA st' a (f + (29 + p)) = gA st 76 p) ∧ ∀ j, j < f ∨ f + 110 ≤ j → gA st' a j = gA st a j) ?_ ?_ 9 0 () _ (by omega) ⟨(hE0 _ _).tr (hE0 _ _), ?_, ?_, fun p hp => absurd hp (Nat.not_lt_zero _), fun j hj => ?_⟩⟩
  · rintro i hi _ st' n' ⟨hE, c0, c1, c2, c3⟩ ih
    have g : ∀ x, 73 ≤ x → x ≤ 80 → gA st' x = gA st x := fun x h1 h2 => hE.eA (ne x h1 h2)
    show P_X12_pack_23 58 a (iN f) post (n' + 1) (iN (f + 2)) (iN i) st'
    unfold P_X12_pack_23
    have x1 : iN (f + 2) + iN i = iN (f + (2 + i)) := by rw [← iN_add, Nat.add_assoc]
    have x2 : (iN (f + 2) + 9) + iN i = iN (f + (11 + i)) := (iN_3 (f + 2) 9 i).trans (by rw [show f + 2 + 9 + i = f + (11 + i) by omega])
    have x3 : (iN (f + 2) + 18) + iN i = iN (f + (20 + i)) := (iN_3 (f + 2) 18 i).trans (by rw [show f + 2 + 18 + i = f + (20 + i) by omega])
    have x4 : (iN (f + 2) + 27) + iN i = iN (f + (29 + i)) := (iN_3 (f + 2) 27 i).trans (by rw [show f + 2 + 27 + i = f + (29 + i) by omega])
    rw [x1, x2, x3, x4, iN_cl (by omega), iN_cl (by omega), iN_cl (by omega), iN_cl (by omega), iN_cl (by omega), iN_s]
    have v9 : ∀ y, al 0 y = 9 → vp_in (iN i) (al 0 y) := fun y e => by rw [e]; exact iN_vp hi (by decide)
    refine ⟨fun hc => ?_, fun _ => ⟨73, rfl, v9 73 rfl, vi _ (by omega), 74, rfl, v9 74 rfl, vi _ (by omega), 75, rfl, v9 75 rfl, vi _ (by omega), 76, rfl, v9 76 rfl, vi _ (by omega), ?_⟩⟩
    · have hc : iN 9 ≤ iN i := hc
      rw [iN_le (by omega) (by omega)] at hc; omega
    rw [gA_sA_ne (ne 74 (by decide) (by decide)), gA_sA_ne (ne 75 (by decide) (by decide)), gA_sA_ne (ne 75 (by decide) (by decide)), gA_sA_ne (ne 76 (by decide) (by decide)), gA_sA_ne (ne 76 (by decide) (by decide)), gA_sA_ne (ne 76 (by decide) (by decide)), g 73 (by decide) (by decide), g 74 (by decide) (by decide), g 75 (by decide) (by decide), g 76 (by decide) (by decide)]
    refine ih () _ ⟨(((hE.tr (hE0 _ _)).tr (hE0 _ _)).tr (hE0 _ _)).tr (hE0 _ _), ?_, ?_, fun p hp => ?_, fun j hj => ?_⟩
    · simp only [gA_sA]
      rw [upd_ne (by omega), upd_ne (by omega), upd_ne (by omega), upd_ne (by omega)]; exact c0
    · simp only [gA_sA]
      rw [upd_ne (by omega), upd_ne (by omega), upd_ne (by omega), upd_ne (by omega)]; exact c1
    · simp only [gA_sA]
      by_cases hpi : p = i
      · subst hpi
        refine ⟨?_, ?_, ?_, ?_⟩
        · rw [upd_ne (by omega), upd_ne (by omega), upd_ne (by omega), upd_same]
        · rw [upd_ne (by omega), upd_ne (by omega), upd_same]
        · rw [upd_ne (by omega), upd_same]
        · rw [upd_same]
      · obtain ⟨d1, d2, d3, d4⟩ := c2 p (by omega)
        refine ⟨?_, ?_, ?_, ?_⟩
        · rw [upd_ne (by omega), upd_ne (by omega), upd_ne (by omega), upd_ne (by omega)]; exact d1
        · rw [upd_ne (by omega), upd_ne (by omega), upd_ne (by omega), upd_ne (by omega)]; exact d2
        · rw [upd_ne (by omega), upd_ne (by omega), upd_ne (by omega), upd_ne (by omega)]; exact d3
        · rw [upd_ne (by omega), upd_ne (by omega), upd_ne (by omega), upd_ne (by omega)]; exact d4
    · simp only [gA_sA]
      rw [upd_ne (by omega), upd_ne (by omega), upd_ne (by omega), upd_ne (by omega)]; exact c3 j hj
  · rintro _ st' n' ⟨hE, c0, c1, c2, c3⟩
    show P_X12_pack_23 58 a (iN f) post (n' + 1) (iN (f + 2)) (iN 9) st'
    unfold P_X12_pack_23
    refine ⟨fun _ => ?_, fun hc => absurd (Int32.le_refl _) hc⟩
    have e38 : iN (f + 2) + 36 = iN (f + 38) := (iN_add (f + 2) 36).symm
    rw [e38]
    -- the brides
    refine ⟨7, loop_up (α := Unit) (P := fun n i _ st => P_X12_pack_103 58 a (iN f) post n (iN (f + 38)) i st) (N := 6) (fun i _ st'' => Ex (Sa a) st st'' ∧ (∀ j, j < f + 38 → gA st'' a j = gA st' a j) ∧ (∀ b, b < i → gA st'' a (f + (38 + b)) = gA st 77 b ∧ gA st'' a (f + (44 + b)) = gA st 78 b ∧ gA st'' a (f + (50 + b)) = gA st 79 b) ∧ ∀ j, f + 110 ≤ j → gA st'' a j = gA st a j) ?_ ?_ 6 0 () st' (by omega) ⟨hE, fun _ _ => rfl, fun p hp => absurd hp (Nat.not_lt_zero _), fun j hj => c3 j (Or.inr hj)⟩⟩
    · rintro i hi _ st1 n1 ⟨hE1, k1, k2, k3⟩ ih
      have g : ∀ x, 73 ≤ x → x ≤ 80 → gA st1 x = gA st x := fun x h1 h2 => hE1.eA (ne x h1 h2)
      show P_X12_pack_103 58 a (iN f) post (n1 + 1) (iN (f + 38)) (iN i) st1
      unfold P_X12_pack_103
      have x1 : iN (f + 38) + iN i = iN (f + (38 + i)) := by rw [← iN_add, Nat.add_assoc]
      have x2 : (iN (f + 38) + 6) + iN i = iN (f + (44 + i)) := (iN_3 (f + 38) 6 i).trans (by rw [show f + 38 + 6 + i = f + (44 + i) by omega])
      have x3 : (iN (f + 38) + 12) + iN i = iN (f + (50 + i)) := (iN_3 (f + 38) 12 i).trans (by rw [show f + 38 + 12 + i = f + (50 + i) by omega])
      rw [x1, x2, x3, iN_cl (by omega), iN_cl (by omega), iN_cl (by omega), iN_cl (by omega), iN_s]
      have v6 : ∀ y, al 0 y = 6 → vp_in (iN i) (al 0 y) := fun y e => by rw [e]; exact iN_vp hi (by decide)
      refine ⟨fun hc => ?_, fun _ => ⟨77, rfl, v6 77 rfl, vi _ (by omega), 78, rfl, v6 78 rfl, vi _ (by omega), 79, rfl, v6 79 rfl, vi _ (by omega), ?_⟩⟩
      · have hc : iN 6 ≤ iN i := hc
        rw [iN_le (by omega) (by omega)] at hc; omega
      rw [gA_sA_ne (ne 78 (by decide) (by decide)), gA_sA_ne (ne 79 (by decide) (by decide)), gA_sA_ne (ne 79 (by decide) (by decide)), g 77 (by decide) (by decide), g 78 (by decide) (by decide), g 79 (by decide) (by decide)]
      refine ih () _ ⟨((hE1.tr (hE0 _ _)).tr (hE0 _ _)).tr (hE0 _ _), fun j hj => ?_, fun b hb => ?_, fun j hj => ?_⟩
      · simp only [gA_sA]
        rw [upd_ne (by omega), upd_ne (by omega), upd_ne (by omega)]; exact k1 j hj
      · simp only [gA_sA]
        by_cases hbi : b = i
        · subst hbi
          refine ⟨?_, ?_, ?_⟩
          · rw [upd_ne (by omega), upd_ne (by omega), upd_same]
          · rw [upd_ne (by omega), upd_same]
          · rw [upd_same]
        · obtain ⟨d1, d2, d3⟩ := k2 b (by omega)
          refine ⟨?_, ?_, ?_⟩
          · rw [upd_ne (by omega), upd_ne (by omega), upd_ne (by omega)]; exact d1
          · rw [upd_ne (by omega), upd_ne (by omega), upd_ne (by omega)]; exact d2
          · rw [upd_ne (by omega), upd_ne (by omega), upd_ne (by omega)]; exact d3
      · simp only [gA_sA]
        rw [upd_ne (by omega), upd_ne (by omega), upd_ne (by omega)]; exact k3 j hj
    · rintro _ st1 n1 ⟨hE1, k1, k2, k3⟩
      show P_X12_pack_103 58 a (iN f) post (n1 + 1) (iN (f + 38)) (iN 6) st1
      unfold P_X12_pack_103
      refine ⟨fun _ => ?_, fun hc => absurd (Int32.le_refl _) hc⟩
      have e56 : iN (f + 38) + 18 = iN (f + 56) := (iN_add (f + 38) 18).symm
      rw [e56]
      -- the ties
      refine ⟨55, loop_up (α := Unit) (P := fun n i _ st => P_X12_pack_167 58 a (iN f) post n (iN (f + 56)) i st) (N := 54) (fun i _ st'' => Ex (Sa a) st st'' ∧ (∀ j, j < f + 56 → gA st'' a j = gA st1 a j) ∧ (∀ k, k < i → gA st'' a (f + (56 + k)) = gA st 80 k) ∧ ∀ j, f + 110 ≤ j → gA st'' a j = gA st a j) ?_ ?_ 54 0 () st1 (by omega) ⟨hE1, fun _ _ => rfl, fun p hp => absurd hp (Nat.not_lt_zero _), k3⟩⟩
      · rintro i hi _ st2 n2 ⟨hE2, m1, m2, m3⟩ ih
        have g : gA st2 80 = gA st 80 := hE2.eA (ne 80 (by decide) (by decide))
        show P_X12_pack_167 58 a (iN f) post (n2 + 1) (iN (f + 56)) (iN i) st2
        unfold P_X12_pack_167
        have x1 : iN (f + 56) + iN i = iN (f + (56 + i)) := by rw [← iN_add, Nat.add_assoc]
        rw [x1, iN_cl (by omega), iN_cl (by omega), iN_s]
        refine ⟨80, rfl, by rw [al80]; decide, fun hc => ?_, fun _ => ⟨80, rfl, by rw [al80]; exact iN_vp hi (by decide), vi _ (by omega), ?_⟩⟩
        · have hc : iN 54 ≤ iN i := hc
          rw [iN_le (by omega) (by omega)] at hc; omega
        rw [g]
        refine ih () _ ⟨hE2.tr (hE0 _ _), fun j hj => ?_, fun k hk => ?_, fun j hj => ?_⟩
        · rw [gA_sA, upd_ne (by omega)]; exact m1 j hj
        · rw [gA_sA]
          by_cases hki : k = i
          · subst hki; rw [upd_same]
          · rw [upd_ne (by omega)]; exact m2 k (by omega)
        · rw [gA_sA, upd_ne (by omega)]; exact m3 j hj
      · rintro _ st2 n2 ⟨hE2, m1, m2, m3⟩
        show P_X12_pack_167 58 a (iN f) post (n2 + 1) (iN (f + 56)) (iN 54) st2
        unfold P_X12_pack_167
        have low : ∀ j, j < f + 38 → gA st2 a j = gA st' a j := fun j hj => (m1 j (by omega)).trans (k1 j hj)
        refine ⟨80, rfl, by rw [al80]; decide, fun _ => h st2 hE2 ⟨(low _ (by omega)).trans c0, (low _ (by omega)).trans c1, fun p hp => ?_, fun b hb => ?_, fun k hk => m2 k hk⟩ (fun j hj => ?_), fun hc => absurd (Int32.le_refl _) hc⟩
        · obtain ⟨d1, d2, d3, d4⟩ := c2 p hp
          exact ⟨(low _ (by omega)).trans d1, (low _ (by omega)).trans d2, (low _ (by omega)).trans d3, (low _ (by omega)).trans d4⟩
        · obtain ⟨d1, d2, d3⟩ := k2 b hb
          exact ⟨(m1 _ (by omega)).trans d1, (m1 _ (by omega)).trans d2, (m1 _ (by omega)).trans d3⟩
        · rcases hj with hj | hj
          · exact (low j (by omega)).trans (c3 j (Or.inl hj))
          · exact m3 j hj
  · rw [gA_sA, gA_sA, upd_ne (by omega), upd_same]
  · rw [gA_sA, upd_same]
  · rw [gA_sA, gA_sA, upd_ne (by omega), upd_ne (by omega)]
set_option maxHeartbeats 4000000 in
theorem s_unpack {st : St} {a f n : Nat} (ha : al 0 a = n) (hf : f + 110 ≤ n) (hn : n < 100000) (hM : ¬ isM a) {post : St → Prop} (h : ∀ st2, Fx IMd isM st st2 → Holds (fun i => gA st a (f + i)) st2 → post st2) : P_X12_unpack 58 a (iN f) st post := by
  have vi : ∀ j, j < 110 → vp_in (iN (f + j)) (al 0 a) := fun j hj => by rw [ha]; exact iN_vp (by omega) (by omega)
  have im : ∀ x, 73 ≤ x → x ≤ 80 → isM x := fun x h1 h2 => ⟨h1, h2⟩
  have hE0 : ∀ {s : St} (x j : Nat) (v : Int32), isM x → Fx IMd isM s (sA s x j v) := fun x j v hx => Fx.sa hx j v
  have nea : ∀ x, isM x → a ≠ x := fun x hx e => hM (by rw [e]; exact hx)
  have e1 : iN f + 1 = iN (f + 1) := iN_s f
  have e2 : iN f + 2 = iN (f + 2) := (iN_add f 2).symm
  refine ⟨vi 0 (by decide), rfl, by rw [iN_s]; exact vi 1 (by decide), rfl, ?_⟩
  rw [e1, e2, iN_cl (by omega), iN_cl (by omega), gA_sI]
  refine ⟨10, loop_up (α := Unit) (P := fun n i _ st => P_X12_unpack_23 58 a (iN f) post n (iN (f + 2)) i st) (N := 9) (fun i _ st' => Fx IMd isM st st' ∧ gI st' 58 36 = gA st a f ∧ gI st' 58 37 = gA st a (f + 1) ∧ ∀ p, p < i → gA st' 73 p = gA st a (f + (2 + p)) ∧ gA st' 74 p = gA st a (f + (11 + p)) ∧ gA st' 75 p = gA st a (f + (20 + p)) ∧ gA st' 76 p = gA st a (f + (29 + p))) ?_ ?_ 9 0 () _ (by omega) ⟨(Fx.si ⟨rfl, Or.inl rfl⟩ _).tr (Fx.si ⟨rfl, Or.inr rfl⟩ _), ?_, gI_sI _ _ _ _, fun p hp => absurd hp (Nat.not_lt_zero _)⟩⟩
  · rintro i hi _ st' n' ⟨hE, c0, c1, c2⟩ ih
    have ga : gA st' a = gA st a := hE.eA hM
    show P_X12_unpack_23 58 a (iN f) post (n' + 1) (iN (f + 2)) (iN i) st'
    unfold P_X12_unpack_23
    have x1 : iN (f + 2) + iN i = iN (f + (2 + i)) := by rw [← iN_add, Nat.add_assoc]
    have x2 : (iN (f + 2) + 9) + iN i = iN (f + (11 + i)) := (iN_3 (f + 2) 9 i).trans (by rw [show f + 2 + 9 + i = f + (11 + i) by omega])
    have x3 : (iN (f + 2) + 18) + iN i = iN (f + (20 + i)) := (iN_3 (f + 2) 18 i).trans (by rw [show f + 2 + 18 + i = f + (20 + i) by omega])
    have x4 : (iN (f + 2) + 27) + iN i = iN (f + (29 + i)) := (iN_3 (f + 2) 27 i).trans (by rw [show f + 2 + 27 + i = f + (29 + i) by omega])
    rw [x1, x2, x3, x4, iN_cl (by omega), iN_cl (by omega), iN_cl (by omega), iN_cl (by omega), iN_cl (by omega), iN_s]
    have v9 : ∀ y, al 0 y = 9 → vp_in (iN i) (al 0 y) := fun y e => by rw [e]; exact iN_vp hi (by decide)
    refine ⟨fun hc => ?_, fun _ => ⟨73, rfl, vi _ (by omega), v9 73 rfl, 74, rfl, vi _ (by omega), v9 74 rfl, 75, rfl, vi _ (by omega), v9 75 rfl, 76, rfl, vi _ (by omega), v9 76 rfl, ?_⟩⟩
    · have hc : iN 9 ≤ iN i := hc
      rw [iN_le (by omega) (by omega)] at hc; omega
    rw [gA_sA_ne (nea 73 (im _ (by decide) (by decide))), gA_sA_ne (nea 74 (im _ (by decide) (by decide))), gA_sA_ne (nea 73 (im _ (by decide) (by decide))), gA_sA_ne (nea 75 (im _ (by decide) (by decide))), gA_sA_ne (nea 74 (im _ (by decide) (by decide))), gA_sA_ne (nea 73 (im _ (by decide) (by decide))), ga]
    refine ih () _ ⟨(((hE.tr (hE0 _ _ _ (im _ (by decide) (by decide)))).tr (hE0 _ _ _ (im _ (by decide) (by decide)))).tr (hE0 _ _ _ (im _ (by decide) (by decide)))).tr (hE0 _ _ _ (im _ (by decide) (by decide))), c0, c1, fun p hp => ?_⟩
    rw [gA_sA_ne (show (73 : Nat) ≠ 76 by decide), gA_sA_ne (show (73 : Nat) ≠ 75 by decide), gA_sA_ne (show (73 : Nat) ≠ 74 by decide), gA_sA, gA_sA_ne (show (74 : Nat) ≠ 76 by decide), gA_sA_ne (show (74 : Nat) ≠ 75 by decide), gA_sA, gA_sA_ne (show (74 : Nat) ≠ 73 by decide), gA_sA_ne (show (75 : Nat) ≠ 76 by decide), gA_sA, gA_sA_ne (show (75 : Nat) ≠ 74 by decide), gA_sA_ne (show (75 : Nat) ≠ 73 by decide), gA_sA, gA_sA_ne (show (76 : Nat) ≠ 75 by decide), gA_sA_ne (show (76 : Nat) ≠ 74 by decide), gA_sA_ne (show (76 : Nat) ≠ 73 by decide)]
    by_cases hpi : p = i
    · subst hpi
      rw [upd_same, upd_same, upd_same, upd_same]
      exact ⟨rfl, rfl, rfl, rfl⟩
    · rw [upd_ne hpi, upd_ne hpi, upd_ne hpi, upd_ne hpi]
      exact c2 p (by omega)
  · rintro _ st' n' ⟨hE, c0, c1, c2⟩
    have ga : gA st' a = gA st a := hE.eA hM
    show P_X12_unpack_23 58 a (iN f) post (n' + 1) (iN (f + 2)) (iN 9) st'
    unfold P_X12_unpack_23
    refine ⟨fun _ => ?_, fun hc => absurd (Int32.le_refl _) hc⟩
    have e38 : iN (f + 2) + 36 = iN (f + 38) := (iN_add (f + 2) 36).symm
    rw [e38]
    refine ⟨7, loop_up (α := Unit) (P := fun n i _ st => P_X12_unpack_103 58 a (iN f) post n (iN (f + 38)) i st) (N := 6) (fun i _ st1 => Fx IMd isM st st1 ∧ gI st1 58 36 = gA st a f ∧ gI st1 58 37 = gA st a (f + 1) ∧ (∀ x, 73 ≤ x → x ≤ 76 → gA st1 x = gA st' x) ∧ ∀ b, b < i → gA st1 77 b = gA st a (f + (38 + b)) ∧ gA st1 78 b = gA st a (f + (44 + b)) ∧ gA st1 79 b = gA st a (f + (50 + b))) ?_ ?_ 6 0 () st' (by omega) ⟨hE, c0, c1, fun _ _ _ => rfl, fun p hp => absurd hp (Nat.not_lt_zero _)⟩⟩
    · rintro i hi _ st1 n1 ⟨hE1, k0, k1, k2, k3⟩ ih
      have ga1 : gA st1 a = gA st a := hE1.eA hM
      show P_X12_unpack_103 58 a (iN f) post (n1 + 1) (iN (f + 38)) (iN i) st1
      unfold P_X12_unpack_103
      have x1 : iN (f + 38) + iN i = iN (f + (38 + i)) := by rw [← iN_add, Nat.add_assoc]
      have x2 : (iN (f + 38) + 6) + iN i = iN (f + (44 + i)) := (iN_3 (f + 38) 6 i).trans (by rw [show f + 38 + 6 + i = f + (44 + i) by omega])
      have x3 : (iN (f + 38) + 12) + iN i = iN (f + (50 + i)) := (iN_3 (f + 38) 12 i).trans (by rw [show f + 38 + 12 + i = f + (50 + i) by omega])
      rw [x1, x2, x3, iN_cl (by omega), iN_cl (by omega), iN_cl (by omega), iN_cl (by omega), iN_s]
      have v6 : ∀ y, al 0 y = 6 → vp_in (iN i) (al 0 y) := fun y e => by rw [e]; exact iN_vp hi (by decide)
      refine ⟨fun hc => ?_, fun _ => ⟨77, rfl, vi _ (by omega), v6 77 rfl, 78, rfl, vi _ (by omega), v6 78 rfl, 79, rfl, vi _ (by omega), v6 79 rfl, ?_⟩⟩
      · have hc : iN 6 ≤ iN i := hc
        rw [iN_le (by omega) (by omega)] at hc; omega
      rw [gA_sA_ne (nea 77 (im _ (by decide) (by decide))), gA_sA_ne (nea 78 (im _ (by decide) (by decide))), gA_sA_ne (nea 77 (im _ (by decide) (by decide))), ga1]
      refine ih () _ ⟨((hE1.tr (hE0 _ _ _ (im _ (by decide) (by decide)))).tr (hE0 _ _ _ (im _ (by decide) (by decide)))).tr (hE0 _ _ _ (im _ (by decide) (by decide))), k0, k1, fun x h1 h2 => ?_, fun b hb => ?_⟩
      · rw [gA_sA_ne (by omega), gA_sA_ne (by omega), gA_sA_ne (by omega)]; exact k2 x h1 h2
      · rw [gA_sA_ne (show (77 : Nat) ≠ 79 by decide), gA_sA_ne (show (77 : Nat) ≠ 78 by decide), gA_sA, gA_sA_ne (show (78 : Nat) ≠ 79 by decide), gA_sA, gA_sA_ne (show (78 : Nat) ≠ 77 by decide), gA_sA, gA_sA_ne (show (79 : Nat) ≠ 78 by decide), gA_sA_ne (show (79 : Nat) ≠ 77 by decide)]
        by_cases hbi : b = i
        · subst hbi
          rw [upd_same, upd_same, upd_same]
          exact ⟨rfl, rfl, rfl⟩
        · rw [upd_ne hbi, upd_ne hbi, upd_ne hbi]
          exact k3 b (by omega)
    · rintro _ st1 n1 ⟨hE1, k0, k1, k2, k3⟩
      have ga1 : gA st1 a = gA st a := hE1.eA hM
      show P_X12_unpack_103 58 a (iN f) post (n1 + 1) (iN (f + 38)) (iN 6) st1
      unfold P_X12_unpack_103
      refine ⟨fun _ => ?_, fun hc => absurd (Int32.le_refl _) hc⟩
      have e56 : iN (f + 38) + 18 = iN (f + 56) := (iN_add (f + 38) 18).symm
      rw [e56]
      refine ⟨55, loop_up (α := Unit) (P := fun n i _ st => P_X12_unpack_167 58 a (iN f) post n (iN (f + 56)) i st) (N := 54) (fun i _ st2 => Fx IMd isM st st2 ∧ gI st2 58 36 = gA st a f ∧ gI st2 58 37 = gA st a (f + 1) ∧ (∀ x, 73 ≤ x → x ≤ 79 → gA st2 x = gA st1 x) ∧ ∀ k, k < i → gA st2 80 k = gA st a (f + (56 + k))) ?_ ?_ 54 0 () st1 (by omega) ⟨hE1, k0, k1, fun _ _ _ => rfl, fun p hp => absurd hp (Nat.not_lt_zero _)⟩⟩
      · rintro i hi _ st2 n2 ⟨hE2, m0, m1, m2, m3⟩ ih
        have ga2 : gA st2 a = gA st a := hE2.eA hM
        show P_X12_unpack_167 58 a (iN f) post (n2 + 1) (iN (f + 56)) (iN i) st2
        unfold P_X12_unpack_167
        have x1 : iN (f + 56) + iN i = iN (f + (56 + i)) := by rw [← iN_add, Nat.add_assoc]
        rw [x1, iN_cl (by omega), iN_cl (by omega), iN_s]
        refine ⟨80, rfl, by rw [al80]; decide, fun hc => ?_, fun _ => ⟨80, rfl, vi _ (by omega), by rw [al80]; exact iN_vp hi (by decide), ?_⟩⟩
        · have hc : iN 54 ≤ iN i := hc
          rw [iN_le (by omega) (by omega)] at hc; omega
        rw [ga2]
        refine ih () _ ⟨hE2.tr (hE0 _ _ _ (im _ (by decide) (by decide))), m0, m1, fun x h1 h2 => ?_, fun k hk => ?_⟩
        · rw [gA_sA_ne (by omega)]; exact m2 x h1 h2
        · rw [gA_sA]
          by_cases hki : k = i
          · subst hki; rw [upd_same]
          · rw [upd_ne hki]; exact m3 k (by omega)
      · rintro _ st2 n2 ⟨hE2, m0, m1, m2, m3⟩
        show P_X12_unpack_167 58 a (iN f) post (n2 + 1) (iN (f + 56)) (iN 54) st2
        unfold P_X12_unpack_167
        refine ⟨80, rfl, by rw [al80]; decide, fun _ => h st2 hE2 ⟨m0.symm, m1.symm, fun p hp => ?_, fun b hb => ?_, fun k hk => (m3 k hk).symm⟩, fun hc => absurd (Int32.le_refl _) hc⟩
        · obtain ⟨d1, d2, d3, d4⟩ := c2 p hp
          rw [m2 73 (by decide) (by decide), m2 74 (by decide) (by decide), m2 75 (by decide) (by decide), m2 76 (by decide) (by decide), k2 73 (by decide) (by decide), k2 74 (by decide) (by decide), k2 75 (by decide) (by decide), k2 76 (by decide) (by decide)]
          exact ⟨d1.symm, d2.symm, d3.symm, d4.symm⟩
        · obtain ⟨d1, d2, d3⟩ := k3 b hb
          rw [m2 77 (by decide) (by decide), m2 78 (by decide) (by decide), m2 79 (by decide) (by decide)]
          exact ⟨d1.symm, d2.symm, d3.symm⟩
  · rw [gI_sI_ne (by decide), gI_sI]
