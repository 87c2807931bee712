/-! the law's start: classes, numbering, prologue -/
theorem known_all {args : Array Value} {s : State} (hts : ∀ w ∈ WL, w.before args s = true) : ∃ Dg : va_G, ∀ (c : Nat) (q : vw_C), vwCl[c]? = some q → u_Kn s q.1 q.2.1 q.2.2 (Dg.1 c) (Dg.2 c) := by
  have h0 : ∀ c : Nat, ∃ r : ClassId × (Nat → Nat), ∀ q : vw_C, vwCl[c]? = some q → u_Kn s q.1 q.2.1 q.2.2 r.1 r.2 := by
    intro c
    match c with
    | 0 =>
      obtain ⟨cC, iS, h⟩ := u_known (C := RX0) (T := TX0) (N := 3) hts in_wsX00 (hts (.instantiable RX0 3) (wl_in (wt_1 (List.mem_of_getElem? (i := 104) rfl)) rfl))
      exact ⟨(cC, iS), fun q hq => by cases hq; exact h⟩
    | 1 =>
      obtain ⟨cC, iS, h⟩ := u_known (C := RX1) (T := TX1) (N := 4) hts in_wsX10 (hts (.instantiable RX1 4) (wl_in (wt_1 (List.mem_of_getElem? (i := 98) rfl)) rfl))
      exact ⟨(cC, iS), fun q hq => by cases hq; exact h⟩
    | 2 =>
      obtain ⟨cC, iS, h⟩ := u_known (C := RX2) (T := TX2) (N := 4) hts in_wsX20 (hts (.instantiable RX2 4) (wl_in (wt_1 (List.mem_of_getElem? (i := 149) rfl)) rfl))
      exact ⟨(cC, iS), fun q hq => by cases hq; exact h⟩
    | 3 =>
      obtain ⟨cC, iS, h⟩ := u_known (C := RX3) (T := TX3) (N := 5) hts in_wsX30 (hts (.instantiable RX3 5) (wl_in (wt_1 (List.mem_of_getElem? (i := 37) rfl)) rfl))
      exact ⟨(cC, iS), fun q hq => by cases hq; exact h⟩
    | 4 =>
      obtain ⟨cC, iS, h⟩ := u_known (C := RX4) (T := TX4) (N := 7) hts in_wsX40 (hts (.instantiable RX4 7) (wl_in (wt_1 (List.mem_of_getElem? (i := 192) rfl)) rfl))
      exact ⟨(cC, iS), fun q hq => by cases hq; exact h⟩
    | 5 =>
      obtain ⟨cC, iS, h⟩ := u_known (C := RX5) (T := TX5) (N := 4) hts in_wsX50 (hts (.instantiable RX5 4) (wl_in (wt_1 (List.mem_of_getElem? (i := 43) rfl)) rfl))
      exact ⟨(cC, iS), fun q hq => by cases hq; exact h⟩
    | 6 =>
      obtain ⟨cC, iS, h⟩ := u_known (C := RX6) (T := TX6) (N := 3) hts in_wsX60 (hts (.instantiable RX6 3) (wl_in (wt_2 (List.mem_of_getElem? (i := 45) rfl)) rfl))
      exact ⟨(cC, iS), fun q hq => by cases hq; exact h⟩
    | 7 =>
      obtain ⟨cC, iS, h⟩ := u_known (C := RX7) (T := TX7) (N := 6) hts in_wsX70 (hts (.instantiable RX7 6) (wl_in (wt_1 (List.mem_of_getElem? (i := 122) rfl)) rfl))
      exact ⟨(cC, iS), fun q hq => by cases hq; exact h⟩
    | 8 =>
      obtain ⟨cC, iS, h⟩ := u_known (C := RX8) (T := TX8) (N := 9) hts in_wsX80 (hts (.instantiable RX8 9) (wl_in (wt_1 (List.mem_of_getElem? (i := 198) rfl)) rfl))
      exact ⟨(cC, iS), fun q hq => by cases hq; exact h⟩
    | 9 =>
      obtain ⟨cC, iS, h⟩ := u_known (C := RX9) (T := TX9) (N := 6) hts in_wsX90 (hts (.instantiable RX9 6) (wl_in (wt_2 (List.mem_of_getElem? (i := 20) rfl)) rfl))
      exact ⟨(cC, iS), fun q hq => by cases hq; exact h⟩
    | 10 =>
      obtain ⟨cC, iS, h⟩ := u_known (C := RX10) (T := TX10) (N := 0) hts in_wsX100 (hts (.instantiable RX10 6) (wl_in (wt_3 (List.mem_of_getElem? (i := 173) rfl)) rfl))
      exact ⟨(cC, iS), fun q hq => by cases hq; exact h⟩
    | 11 =>
      obtain ⟨cC, iS, h⟩ := u_known (C := RX11) (T := TX11) (N := 12) hts in_wsX110 (hts (.instantiable RX11 12) (wl_in (wt_1 (List.mem_of_getElem? (i := 29) rfl)) rfl))
      exact ⟨(cC, iS), fun q hq => by cases hq; exact h⟩
    | 12 =>
      obtain ⟨cC, iS, h⟩ := u_known (C := RX12) (T := TX12) (N := 69) hts in_wsX120 (hts (.instantiable RX12 69) (wl_in (wt_6 (List.mem_of_getElem? (i := 162) rfl)) rfl))
      exact ⟨(cC, iS), fun q hq => by cases hq; exact h⟩
    | c + 13 => exact ⟨(default, fun _ => 0), fun q hq => by cases hq⟩
  obtain ⟨r, hr⟩ := Classical.axiomOfChoice h0
  exact ⟨(fun c => (r c).1, fun c => (r c).2), hr⟩
theorem arr_ok {args : Array Value} {s : State} {t : FieldType} (h : (Cond.arrayClass t).before args s = true) (hra : ∀ c, s.vm.findClass ("[" ++ t.toString) = some c → va_RA s c t) : ∃ cA : ClassId, ArrOfT s cA t ∧ va_RA s cA t := by
  obtain ⟨c, k, comp, h1, h2, h3⟩ := Cond.arrayClass_spec h
  exact ⟨c, fun n z => ⟨fun k h => (by cases h), k, h2, comp, h3⟩, hra c h1⟩
theorem arr_str {s : State} (h : va_AO "java/lang/String" s) : ∃ cA : ClassId, ArrOfT s cA (.object "java/lang/String") ∧ va_RA s cA (.object "java/lang/String") := by
  obtain ⟨comp, c, k, h1, h2, h3, h4, h5⟩ := Cond.arrayOver_spec h
  exact ⟨c, fun n z => ⟨fun k h => (by cases h), k, h3, comp, h4⟩, k, comp, h3, h4, h1, h5⟩
def mpA (B b tA tF : Nat) (aE aK aV aM : Nat → Nat) (j : Nat) : Nat := if j < 1000 then B + j else if j < 1100 then aE (j - 1000) else if j = 1100 then tA else if j = 1200 then tF else if j = 1300 then b else if j < 2020 then aK (j - 2000) else if j < 3000 then aM (j - 2020) else aV (j - 3000)
theorem va_En_cong {E d : String} {nm : List String} {F : List (String × String × String × List Int32)} {ad ad2 : Nat → Nat} {Z : Nat → Prop} {U : State} {H : Heap} (hc : ∀ i, i < nm.length → ad2 i = ad i) (h : va_En E d nm F ad Z U H) : va_En E d nm F ad2 Z U H := by
  refine ⟨fun i hi => ?_, fun i j hi hj e => h.2 i j hi hj (by rw [← hc i hi, ← hc j hj]; exact e)⟩
  rw [hc i hi]
  exact h.1 i hi
theorem vk_S_cong {N : Nat} {len : List Nat} {byt : List (List Int32)} {aK aV aK2 aV2 : Nat → Nat} {Z : Nat → Prop} {U : State} {H : Heap} (h1 : ∀ i, i < N → aK2 i = aK i) (h2 : ∀ i, i < N → aV2 i = aV i) (h : vk_S N len byt aK aV Z U H) : vk_S N len byt aK2 aV2 Z U H := by
  refine ⟨fun i hi => ?_, fun i j hi hj e => h.2 i j hi hj (by rw [← h1 i hi, ← h1 j hj]; exact e)⟩
  rw [h1 i hi, h2 i hi]
  exact h.1 i hi
theorem ldc_all {P : String × Nat × String × Nat → Prop} (h0 : P ("GivenAway", 89, "the tape has not so many bytes", 2020)) (h1 : P ("GivenAway$Tokens", 62, ";()+-*/<=", 2019)) (h2 : P ("GivenAway", 330, "no such what", 2021)) (h3 : P ("GivenAway", 325, "no such person", 2022)) (h4 : P ("GivenAway", 328, "no such bride", 2023)) (h5 : P ("GivenAway", 332, "not 0 to 60 days", 2024)) (h6 : P ("GivenAway", 334, "no two rivals for a bride at home", 2025)) (h7 : P ("GivenAwayModel", 11, "father", 2000)) (h8 : P ("GivenAwayModel", 13, "friend", 2001)) (h9 : P ("GivenAwayModel", 15, "suitor", 2002)) (h10 : P ("GivenAwayModel", 17, "beast", 2003)) (h11 : P ("GivenAwayModel", 23, "grief", 2011)) (h12 : P ("GivenAwayModel", 25, "onions", 2012)) (h13 : P ("GivenAwayModel", 27, "kind", 2013)) (h14 : P ("GivenAwayModel", 29, "led", 2014)) (h15 : P ("GivenAwayModel", 31, "day", 2015)) (h16 : P ("GivenAwayModel", 33, "years", 2016)) (h17 : P ("GivenAwayModel", 35, "left", 2017)) (h18 : P ("GivenAwayModel", 37, "rivals", 2018)) (h19 : P ("GivenAwayModel", 312, "weighs", 2006)) (h20 : P ("GivenAwayModel", 314, "mourns", 2007)) (h21 : P ("GivenAwayModel", 290, "not", 2010)) (h22 : P ("GivenAwayModel", 298, "and", 2009)) (h23 : P ("GivenAwayModel", 303, "or", 2008)) (h24 : P ("GivenAwayModel", 319, "bride", 2004)) (h25 : P ("GivenAwayModel", 324, "tie", 2005)) : ∀ q ∈ ldcL, P q := by
  intro q hq
  unfold ldcL at hq
  simp only [List.mem_cons, List.not_mem_nil, or_false] at hq
  rcases hq with rfl | rfl | rfl | rfl | rfl | rfl | rfl | rfl | rfl | rfl | rfl | rfl | rfl | rfl | rfl | rfl | rfl | rfl | rfl | rfl | rfl | rfl | rfl | rfl | rfl | rfl
  · exact h0
  · exact h1
  · exact h2
  · exact h3
  · exact h4
  · exact h5
  · exact h6
  · exact h7
  · exact h8
  · exact h9
  · exact h10
  · exact h11
  · exact h12
  · exact h13
  · exact h14
  · exact h15
  · exact h16
  · exact h17
  · exact h18
  · exact h19
  · exact h20
  · exact h21
  · exact h22
  · exact h23
  · exact h24
  · exact h25
set_option maxHeartbeats 4000000 in
theorem start_facts {p : Program} {s : State} {m : MethodId} {meth : Method} {c : Code} {b L : Nat} {xs : Nat → Int32} (C0 : lw_At p s m meth c b L xs) : ∃ E : En, (∀ j, j < 1000 → eA E j = s.heap.size + j) ∧ eA E 1300 = b ∧ va_K E.1 vwCl (tyE E) s ∧ CFk E (fun q => s.heap.size ≤ q) s s.heap := by
  obtain ⟨hx, hb, hr, hml, hown, hts, hX, hbl, hlk, hgv⟩ := C0
  have htw : ∀ w ∈ WL, w.before #[Value.ref b] s = true := fun w hw => hts w (List.mem_filter.mp hw).1
  have hA : ∀ a : Nat, a < s.heap.size → ¬ (fun q => s.heap.size ≤ q) a := fun a ha h => Nat.not_le.mpr ha h
  obtain ⟨Dg, hD⟩ := known_all htw
  have hAO : va_AO "java/lang/String" s := va_AO.of (hts _ (wt_6 (List.mem_of_getElem? (i := 168) rfl)))
  obtain ⟨cI, hI1, hI2⟩ := arr_ok (t := .int) (hts _ (wt_1 (List.mem_of_getElem? (i := 63) rfl))) (fun c h => h)
  obtain ⟨cZ, hZ1, hZ2⟩ := arr_ok (t := .boolean) (hts _ (wt_1 (List.mem_of_getElem? (i := 147) rfl))) (fun c h => h)
  obtain ⟨cL, hL1, hL2⟩ := arr_ok (t := .long) (hts _ (wt_9 (List.mem_of_getElem? (i := 108) rfl))) (fun c h => h)
  obtain ⟨cS, hS1, hS2⟩ := arr_str hAO
  obtain ⟨aE, hEn, hEv⟩ := enum_all (Z := fun q => s.heap.size ≤ q) hts hgv hA
  obtain ⟨aK, aV, hSt, hKv⟩ := str_all (Z := fun q => s.heap.size ≤ q) hgv hA
  have hM0 : ∀ i : Nat, ∃ t : Nat, i < 6 → (Term.string "GivenAway" (gIx.getD i 0)).eval #[Value.ref b] s none [] s = some (.ref t) := by
    intro i
    by_cases hi : i < 6
    · obtain ⟨a, _, _, _, q1, _⟩ := Cond.exactly_spec (args := #[Value.ref b]) (first := s) (o := none) (s := s) (idx := []) (t := .string "GivenAway" (gIx.getD i 0)) (cls := "java/lang/String") (n_mex hgv i hi)
      exact ⟨a, fun _ => q1⟩
    · exact ⟨0, fun h => absurd h hi⟩
  obtain ⟨aM, hMv⟩ := Classical.axiomOfChoice hM0
  obtain ⟨tA, htA, hTA⟩ := va_Tof (tm := tmA) (N := 19) (f := fun j => .ref (aE j)) (A := fun q => s.heap.size ≤ q) (by decide) (n_aof hgv) (va_eqt (n_ale hgv)) (fun j hj => va_eqv (n_ael hgv j hj) (hEv j hj)) hA
  have hF0 : ∃ tF : Nat, va_Z "jdk/internal/util/Preconditions" "SIOOBE_FORMATTER" "Ljava/util/function/BiFunction;" .null (fun q => s.heap.size ≤ q) s s.heap ∨ va_Z "jdk/internal/util/Preconditions" "SIOOBE_FORMATTER" "Ljava/util/function/BiFunction;" (.ref tF) (fun q => s.heap.size ≤ q) s s.heap := by
    obtain ⟨v, h1, h2⟩ := Cond.isRef_spec (n_fo hgv)
    cases v with
    | null => exact ⟨0, Or.inl (va_Zof (hts _ (wt_3 (List.mem_of_getElem? (i := 200) rfl))) (hts _ (wt_1 (List.mem_of_getElem? (i := 22) rfl))) h1 hA)⟩
    | ref a => exact ⟨a, Or.inr (va_Zof (hts _ (wt_3 (List.mem_of_getElem? (i := 200) rfl))) (hts _ (wt_1 (List.mem_of_getElem? (i := 22) rfl))) h1 hA)⟩
    | _ => cases h2
  obtain ⟨tF, hF⟩ := hF0
  have mE : ∀ i, i < 19 → mpA s.heap.size b tA tF aE aK aV aM (1000 + i) = aE i := fun i hi => by
    unfold mpA
    rw [if_neg (by omega), if_pos (by omega), Nat.add_sub_cancel_left]
  have mK : ∀ i, i < 20 → mpA s.heap.size b tA tF aE aK aV aM (2000 + i) = aK i := fun i hi => by
    unfold mpA
    rw [if_neg (by omega), if_neg (by omega), if_neg (by omega), if_neg (by omega), if_neg (by omega), if_pos (by omega), Nat.add_sub_cancel_left]
  have mM : ∀ i, i < 900 → mpA s.heap.size b tA tF aE aK aV aM (2020 + i) = aM i := fun i hi => by
    unfold mpA
    rw [if_neg (by omega), if_neg (by omega), if_neg (by omega), if_neg (by omega), if_neg (by omega), if_neg (by omega), if_pos (by omega), Nat.add_sub_cancel_left]
  have mV : ∀ i, i < 20 → mpA s.heap.size b tA tF aE aK aV aM (3000 + i) = aV i := fun i hi => by
    unfold mpA
    rw [if_neg (by omega), if_neg (by omega), if_neg (by omega), if_neg (by omega), if_neg (by omega), if_neg (by omega), if_neg (by omega), Nat.add_sub_cancel_left]
  refine ⟨(Dg, mpA s.heap.size b tA tF aE aK aV aM, cI, cZ, cL, cS), fun j hj => by show mpA _ _ _ _ _ _ _ _ j = _; unfold mpA; rw [if_pos hj], rfl, ⟨hD, ?_⟩, ⟨?_, hAO, ?_⟩⟩
  · intro k q hq
    match k with
    | 0 => cases hq; exact ⟨hI1, hI2⟩
    | 1 => cases hq; exact ⟨hZ1, hZ2⟩
    | 2 => cases hq; exact ⟨hL1, hL2⟩
    | 3 => cases hq; exact ⟨hS1, hS2⟩
    | k + 4 => cases hq
  · refine ⟨va_En_cong mE hEn, fun i hi => ?_, vk_S_cong mK mV hSt, ?_, ?_, ?_, ?_, ?_, ?_, ?_, ?_, ?_, ?_, ?_⟩
    · show va_OF _ _ _ (.ref (mpA s.heap.size b tA tF aE aK aV aM (2000 + i))) (mpA s.heap.size b tA tF aE aK aV aM (1000 + i)) _ _ _
      rw [mE i hi, mK i (by omega)]
      exact va_Efof (N := 19) (E := WD) (nm := enN) (d0 := dW) (v := fun i => .ref (aK i)) (tm := tmS) (ad := aE) hEv (n_le hgv) (fun i hi => hKv i (by omega)) hA i hi
    · exact va_Zof (hts _ (wt_3 (List.mem_of_getElem? (i := 169) rfl))) (hts _ (wt_1 (List.mem_of_getElem? (i := 19) rfl))) htA hA
    · obtain ⟨cell, h1, h2, h3, h4, h5, h6, h7⟩ := hTA
      exact ⟨cell, h1, h2, h3, h4, h5, fun j hj => by rw [h6 j hj]; show some (Value.ref (aE j)) = some (.ref (mpA s.heap.size b tA tF aE aK aV aM (1000 + j))); rw [mE j hj], h7⟩
    · exact va_Zof (hts _ (wt_3 (List.mem_of_getElem? (i := 184) rfl))) (hts _ (wt_1 (List.mem_of_getElem? (i := 20) rfl))) (va_eqi (n_cs hgv)) hA
    · exact hF
    · refine ldc_all (by show vk_R _ _ _ (mpA s.heap.size b tA tF aE aK aV aM (2020 + 0)) _; rw [mM 0 (by decide)]; exact vk_R.of (hts _ (wt_3 (List.mem_of_getElem? (i := 106) rfl))) (hMv 0 (by decide))) (by show vk_R _ _ _ (mpA s.heap.size b tA tF aE aK aV aM (2000 + 19)) _; rw [mK 19 (by decide)]; exact vk_R.of (hts _ (wt_3 (List.mem_of_getElem? (i := 230) rfl))) (hKv 19 (by decide))) (by show vk_R _ _ _ (mpA s.heap.size b tA tF aE aK aV aM (2020 + 1)) _; rw [mM 1 (by decide)]; exact vk_R.of (hts _ (wt_4 (List.mem_of_getElem? (i := 186) rfl))) (hMv 1 (by decide))) (by show vk_R _ _ _ (mpA s.heap.size b tA tF aE aK aV aM (2020 + 2)) _; rw [mM 2 (by decide)]; exact vk_R.of (hts _ (wt_4 (List.mem_of_getElem? (i := 220) rfl))) (hMv 2 (by decide))) (by show vk_R _ _ _ (mpA s.heap.size b tA tF aE aK aV aM (2020 + 3)) _; rw [mM 3 (by decide)]; exact vk_R.of (hts _ (wt_4 (List.mem_of_getElem? (i := 237) rfl))) (hMv 3 (by decide))) (by show vk_R _ _ _ (mpA s.heap.size b tA tF aE aK aV aM (2020 + 4)) _; rw [mM 4 (by decide)]; exact vk_R.of (hts _ (wt_5 (List.mem_of_getElem? (i := 89) rfl))) (hMv 4 (by decide))) (by show vk_R _ _ _ (mpA s.heap.size b tA tF aE aK aV aM (2020 + 5)) _; rw [mM 5 (by decide)]; exact vk_R.of (hts _ (wt_6 (List.mem_of_getElem? (i := 112) rfl))) (hMv 5 (by decide))) (by show vk_R _ _ _ (mpA s.heap.size b tA tF aE aK aV aM (2000 + 0)) _; rw [mK 0 (by decide)]; exact vk_R.of (hts _ (wt_6 (List.mem_of_getElem? (i := 169) rfl))) (va_eqv (n_meq hgv 0 (by decide)) (hKv 0 (by decide)))) (by show vk_R _ _ _ (mpA s.heap.size b tA tF aE aK aV aM (2000 + 1)) _; rw [mK 1 (by decide)]; exact vk_R.of (hts _ (wt_6 (List.mem_of_getElem? (i := 170) rfl))) (va_eqv (n_meq hgv 1 (by decide)) (hKv 1 (by decide)))) (by show vk_R _ _ _ (mpA s.heap.size b tA tF aE aK aV aM (2000 + 2)) _; rw [mK 2 (by decide)]; exact vk_R.of (hts _ (wt_6 (List.mem_of_getElem? (i := 171) rfl))) (va_eqv (n_meq hgv 2 (by decide)) (hKv 2 (by decide)))) (by show vk_R _ _ _ (mpA s.heap.size b tA tF aE aK aV aM (2000 + 3)) _; rw [mK 3 (by decide)]; exact vk_R.of (hts _ (wt_6 (List.mem_of_getElem? (i := 172) rfl))) (va_eqv (n_meq hgv 3 (by decide)) (hKv 3 (by decide)))) (by show vk_R _ _ _ (mpA s.heap.size b tA tF aE aK aV aM (2000 + 11)) _; rw [mK 11 (by decide)]; exact vk_R.of (hts _ (wt_6 (List.mem_of_getElem? (i := 173) rfl))) (va_eqv (n_meq hgv 11 (by decide)) (hKv 11 (by decide)))) (by show vk_R _ _ _ (mpA s.heap.size b tA tF aE aK aV aM (2000 + 12)) _; rw [mK 12 (by decide)]; exact vk_R.of (hts _ (wt_6 (List.mem_of_getElem? (i := 174) rfl))) (va_eqv (n_meq hgv 12 (by decide)) (hKv 12 (by decide)))) (by show vk_R _ _ _ (mpA s.heap.size b tA tF aE aK aV aM (2000 + 13)) _; rw [mK 13 (by decide)]; exact vk_R.of (hts _ (wt_6 (List.mem_of_getElem? (i := 175) rfl))) (va_eqv (n_meq hgv 13 (by decide)) (hKv 13 (by decide)))) (by show vk_R _ _ _ (mpA s.heap.size b tA tF aE aK aV aM (2000 + 14)) _; rw [mK 14 (by decide)]; exact vk_R.of (hts _ (wt_6 (List.mem_of_getElem? (i := 176) rfl))) (va_eqv (n_meq hgv 14 (by decide)) (hKv 14 (by decide)))) (by show vk_R _ _ _ (mpA s.heap.size b tA tF aE aK aV aM (2000 + 15)) _; rw [mK 15 (by decide)]; exact vk_R.of (hts _ (wt_6 (List.mem_of_getElem? (i := 177) rfl))) (va_eqv (n_meq hgv 15 (by decide)) (hKv 15 (by decide)))) (by show vk_R _ _ _ (mpA s.heap.size b tA tF aE aK aV aM (2000 + 16)) _; rw [mK 16 (by decide)]; exact vk_R.of (hts _ (wt_6 (List.mem_of_getElem? (i := 178) rfl))) (va_eqv (n_meq hgv 16 (by decide)) (hKv 16 (by decide)))) (by show vk_R _ _ _ (mpA s.heap.size b tA tF aE aK aV aM (2000 + 17)) _; rw [mK 17 (by decide)]; exact vk_R.of (hts _ (wt_6 (List.mem_of_getElem? (i := 179) rfl))) (va_eqv (n_meq hgv 17 (by decide)) (hKv 17 (by decide)))) (by show vk_R _ _ _ (mpA s.heap.size b tA tF aE aK aV aM (2000 + 18)) _; rw [mK 18 (by decide)]; exact vk_R.of (hts _ (wt_6 (List.mem_of_getElem? (i := 180) rfl))) (va_eqv (n_meq hgv 18 (by decide)) (hKv 18 (by decide)))) (by show vk_R _ _ _ (mpA s.heap.size b tA tF aE aK aV aM (2000 + 6)) _; rw [mK 6 (by decide)]; exact vk_R.of (hts _ (wt_7 (List.mem_of_getElem? (i := 198) rfl))) (va_eqv (n_meq hgv 6 (by decide)) (hKv 6 (by decide)))) (by show vk_R _ _ _ (mpA s.heap.size b tA tF aE aK aV aM (2000 + 7)) _; rw [mK 7 (by decide)]; exact vk_R.of (hts _ (wt_7 (List.mem_of_getElem? (i := 199) rfl))) (va_eqv (n_meq hgv 7 (by decide)) (hKv 7 (by decide)))) (by show vk_R _ _ _ (mpA s.heap.size b tA tF aE aK aV aM (2000 + 10)) _; rw [mK 10 (by decide)]; exact vk_R.of (hts _ (wt_7 (List.mem_of_getElem? (i := 220) rfl))) (va_eqv (n_meq hgv 10 (by decide)) (hKv 10 (by decide)))) (by show vk_R _ _ _ (mpA s.heap.size b tA tF aE aK aV aM (2000 + 9)) _; rw [mK 9 (by decide)]; exact vk_R.of (hts _ (wt_8 (List.mem_of_getElem? (i := 9) rfl))) (va_eqv (n_meq hgv 9 (by decide)) (hKv 9 (by decide)))) (by show vk_R _ _ _ (mpA s.heap.size b tA tF aE aK aV aM (2000 + 8)) _; rw [mK 8 (by decide)]; exact vk_R.of (hts _ (wt_8 (List.mem_of_getElem? (i := 10) rfl))) (va_eqv (n_meq hgv 8 (by decide)) (hKv 8 (by decide)))) (by show vk_R _ _ _ (mpA s.heap.size b tA tF aE aK aV aM (2000 + 4)) _; rw [mK 4 (by decide)]; exact vk_R.of (hts _ (wt_8 (List.mem_of_getElem? (i := 19) rfl))) (va_eqv (n_meq hgv 4 (by decide)) (hKv 4 (by decide)))) (by show vk_R _ _ _ (mpA s.heap.size b tA tF aE aK aV aM (2000 + 5)) _; rw [mK 5 (by decide)]; exact vk_R.of (hts _ (wt_8 (List.mem_of_getElem? (i := 24) rfl))) (va_eqv (n_meq hgv 5 (by decide)) (hKv 5 (by decide))))
    · exact vx_Zqof (hts _ (wt_3 (List.mem_of_getElem? (i := 93) rfl))) (hts _ (wt_1 (List.mem_of_getElem? (i := 13) rfl))) (n_us hgv) hA
    · exact vx_Zqof (hts _ (wt_3 (List.mem_of_getElem? (i := 95) rfl))) (hts _ (wt_1 (List.mem_of_getElem? (i := 13) rfl))) (n_su hgv) hA
    · intro x hx
      unfold dcL at hx
      simp only [List.mem_cons, List.not_mem_nil, or_false] at hx
      rcases hx with rfl | rfl | rfl
      · exact va_Nw.of rfl (hts _ (wt_3 (List.mem_of_getElem? (i := 70) rfl)))
      · exact va_Nw.of rfl (hts _ (wt_3 (List.mem_of_getElem? (i := 72) rfl)))
      · exact va_Nw.of rfl (hts _ (wt_3 (List.mem_of_getElem? (i := 74) rfl)))
    · exact va_Nw.of rfl (hts _ (wt_3 (List.mem_of_getElem? (i := 68) rfl)))
    · exact va_Nw.of rfl (hts _ (wt_4 (List.mem_of_getElem? (i := 179) rfl)))
    · exact va_Nc.of (n_nc hgv)
  · intro q hq
    unfold nestL at hq
    simp only [List.mem_cons, List.not_mem_nil, or_false] at hq
    rcases hq with rfl | rfl | rfl | rfl
    · exact va_Nw.of rfl (hts _ (wt_1 (List.mem_of_getElem? (i := 38) rfl)))
    · exact va_Nw.of rfl (hts _ (wt_1 (List.mem_of_getElem? (i := 44) rfl)))
    · exact va_Nw.of rfl (hts _ (wt_1 (List.mem_of_getElem? (i := 105) rfl)))
    · exact va_Nw.of rfl (hts _ (wt_1 (List.mem_of_getElem? (i := 123) rfl)))
