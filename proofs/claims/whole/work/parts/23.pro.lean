/-! the prologue -/
def posL : List Nat := [0, 1, 18, 28, 29, 30, 31, 19, 20, 21, 22, 23, 24, 25, 26, 27, 32, 42, 43, 44, 45, 33, 34, 35, 36, 37, 38, 39, 40, 41, 46, 47, 48, 49, 50, 51, 52, 53, 54, 55, 2, 3, 4, 5, 6, 7, 8, 9, 10, 11, 12, 13, 14, 15, 16, 17, 56, 57, 58, 59, 60, 61, 62, 63, 64, 65, 66, 67, 68, 69, 70, 71, 72, 73, 74, 75, 76, 77, 78, 79, 80, 81, 82, 83, 84, 85, 86, 87, 88, 89, 90, 91, 92, 93, 94, 95, 96, 97, 98, 99, 100, 101, 102, 103, 104, 105, 106]
def W1 : List AC := [(4, 11, [.ref 1, .int 0, .int (-1), .ref 10, .ref 18, .ref 32, .int 0, .ref 28, .ref 46, .ref 50, .ref 52, .ref 55]), (0, 700, []), (4, 3, [.int 0, .int 0, .ref 3, .ref 4, .ref 7]), (0, 9, []), (4, 5, [.int 0, .ref 5, .int 0, .ref 6]), (0, 700, []), (0, 40, []), (4, 5, [.int 0, .ref 8, .int 0, .ref 9]), (0, 700, []), (0, 40, []), (4, 3, [.int 0, .int 0, .ref 11, .ref 12, .ref 15]), (0, 9, []), (4, 5, [.int 0, .ref 13, .int 0, .ref 14]), (0, 700, []), (0, 40, []), (4, 5, [.int 0, .ref 16, .int 0, .ref 17]), (0, 700, []), (0, 40, []), (4, 1, [.ref 28, .ref 19, .ref 21, .ref 27]), (4, 0, [.ref 20, .int 0, .int 0]), (0, 4400, []), (4, 7, [.ref 22, .ref 23, .ref 24, .ref 25, .ref 26, .int 0]), (0, 8, []), (0, 8, []), (0, 8, []), (0, 8, []), (1, 8, []), (0, 3, []), (4, 2, [.ref 2, .ref 29, .ref 30, .ref 31]), (0, 110, []), (0, 8, []), (0, 6, []), (4, 1, [.ref 42, .ref 33, .ref 35, .ref 41]), (4, 0, [.ref 34, .int 0, .int 0]), (0, 4400, []), (4, 7, [.ref 36, .ref 37, .ref 38, .ref 39, .ref 40, .int 0]), (0, 8, []), (0, 8, []), (0, 8, []), (0, 8, []), (1, 8, []), (0, 3, []), (4, 2, [.ref 2, .ref 43, .ref 44, .ref 45]), (0, 110, []), (0, 8, []), (0, 6, []), (4, 2, [.ref 2, .ref 47, .ref 48, .ref 49]), (0, 110, []), (0, 8, []), (0, 6, []), (4, 4, [.ref 51, .ref 46, .ref 4, .int 0, .int 0, .int 0, .int 0]), (4, 8, [.ref 1, .int 0, .int 0, .int 0, .int 0, .int 0, .int 0, .null, .int 0]), (4, 9, [.ref 28, .ref 46, .ref 21, .ref 53, .ref 54, .int 0]), (0, 6, []), (0, 4, []), (4, 6, [.ref 28, .ref 56, .ref 57]), (0, 54, []), (0, 512, [])]
def W3 : List AC := [(4, 11, [.ref 1, .int 0, .int (-1), .ref 10, .ref 18, .ref 32, .int 0, .ref 28, .ref 46, .ref 50, .ref 52, .ref 55]), (0, 700, []), (4, 3, [.int 0, .int 0, .ref 3, .ref 4, .ref 7]), (0, 9, []), (4, 5, [.int 0, .ref 5, .int 0, .ref 6]), (0, 700, []), (0, 40, []), (4, 5, [.int 0, .ref 8, .int 0, .ref 9]), (0, 700, []), (0, 40, []), (4, 3, [.int 0, .int 0, .ref 11, .ref 12, .ref 15]), (0, 9, []), (4, 5, [.int 0, .ref 13, .int 0, .ref 14]), (0, 700, []), (0, 40, []), (4, 5, [.int 0, .ref 16, .int 0, .ref 17]), (0, 700, []), (0, 40, []), (4, 1, [.ref 28, .ref 19, .ref 21, .ref 27]), (4, 0, [.ref 20, .int 0, .int 0]), (0, 4400, []), (4, 7, [.ref 22, .ref 23, .ref 24, .ref 25, .ref 26, .int 0]), (0, 8, []), (0, 8, []), (0, 8, []), (0, 8, []), (1, 8, []), (0, 3, []), (4, 2, [.ref 2, .ref 29, .ref 30, .ref 31]), (0, 110, []), (0, 8, []), (0, 6, []), (4, 1, [.ref 42, .ref 33, .ref 35, .ref 41]), (4, 0, [.ref 34, .int 0, .int 0]), (0, 4400, []), (4, 7, [.ref 36, .ref 37, .ref 38, .ref 39, .ref 40, .int 0]), (0, 8, []), (0, 8, []), (0, 8, []), (0, 8, []), (1, 8, []), (0, 3, []), (4, 2, [.ref 2, .ref 43, .ref 44, .ref 45]), (0, 110, []), (0, 8, []), (0, 6, []), (4, 2, [.ref 2, .ref 47, .ref 48, .ref 49]), (0, 110, []), (0, 8, []), (0, 6, []), (4, 4, [.ref 51, .ref 46, .ref 4, .int 0, .int 0, .int 0, .int 0]), (4, 8, [.ref 1, .int 0, .int 0, .int 0, .int 0, .int 0, .int 0, .null, .int 0]), (4, 9, [.ref 28, .ref 46, .ref 21, .ref 53, .ref 54, .int 0]), (0, 6, []), (0, 4, []), (4, 6, [.ref 28, .ref 56, .ref 57]), (0, 54, []), (0, 512, []), (4, 12, [.ref 59, .ref 60, .ref 61, .ref 60, .int 0, .ref 62, .ref 63, .ref 64, .ref 65, .ref 66, .ref 67, .ref 68, .ref 69, .ref 70, .ref 71, .ref 72, .int 0, .int 0, .int 0, .int 0, .int 0, .int 0, .int 0, .int 0, .int 0, .int (-1), .int 0, .ref 73, .ref 74, .ref 75, .ref 76, .ref 77, .ref 78, .ref 79, .ref 80, .ref 81, .int 0, .int 0, .int 0, .int 0, .ref 82, .ref 83, .ref 84, .ref 85, .ref 86, .ref 87, .ref 88, .ref 89, .ref 90, .ref 91, .ref 92, .ref 93, .ref 94, .ref 95, .int 0, .ref 96, .ref 97, .int 0, .int 0, .int 0, .int 0, .ref 98, .ref 99, .ref 100, .ref 101, .ref 102, .ref 103, .ref 104, .ref 105]), (3, 4, [.ref 2000, .ref 2001, .ref 2002, .ref 2003]), (3, 8, [.ref 2011, .ref 2012, .ref 2013, .ref 2014, .ref 2015, .ref 2016, .ref 2017, .ref 2018]), (3, 5, [.ref 2011, .ref 2012, .ref 2013, .ref 2014, .ref 2015]), (0, 10, []), (0, 18, []), (0, 18, []), (0, 18, []), (0, 18, []), (0, 12, []), (0, 108, []), (0, 1400, []), (0, 1400, []), (0, 3, []), (0, 700, []), (0, 9, []), (0, 9, []), (0, 9, []), (0, 9, []), (0, 6, []), (0, 6, []), (0, 6, []), (0, 54, []), (0, 4400, []), (0, 8, []), (0, 64, []), (0, 6, []), (0, 110, []), (0, 6, []), (0, 3584, []), (0, 8, []), (0, 8, []), (0, 8, []), (0, 8, []), (0, 110, []), (1, 8, []), (0, 90, []), (0, 540, []), (0, 8, []), (0, 110, []), (0, 110, []), (0, 4400, []), (0, 8, []), (0, 8, []), (0, 8, []), (0, 8, []), (0, 3, []), (1, 8, [])]
def W4 : List AC := W3 ++ [(2, 1, [])]
def st0 : St := (fun o k => if (o = 0 ∧ k = 2) ∨ (o = 58 ∧ k = 25) then -1 else 0, fun o k => if o = 0 ∧ k = 3 then some 48 else if o = 3 ∧ k = 0 then some 40 else if o = 17 ∧ k = 0 then some 40 else if o = 30 ∧ k = 0 then some 40 else if o = 34 ∧ k = 2 then some 42 else if o = 58 ∧ k = 3 then some 60 else none, fun _ _ => 0, fun _ _ => 0)
def E2 (E : En) : En := (E.1, fun i => if i < 107 then eA E (posL.getD i 0) else eA E i, E.2.2)
theorem E2_hi (E : En) {j : Nat} (h : 107 ≤ j) : eA (E2 E) j = eA E j := by
  show (if j < 107 then _ else _) = _
  rw [if_neg (by omega)]
theorem E2_lo (E : En) {j : Nat} (h : j < 107) : eA (E2 E) j = eA E (posL.getD j 0) := by
  show (if j < 107 then _ else _) = _
  rw [if_pos h]
theorem ldc_hi : ∀ q ∈ ldcL, 1000 ≤ q.2.2.2 := by decide +kernel
theorem CFc_E2 {E : En} {A : Nat → Prop} {U : State} {H : Heap} (h : CFc E A U H) : CFc (E2 E) A U H := by
  have e1 : (fun k => eA (E2 E) (1000 + k)) = fun k => eA E (1000 + k) := funext fun k => E2_hi E (by omega)
  have e2 : (fun k => eA (E2 E) (2000 + k)) = fun k => eA E (2000 + k) := funext fun k => E2_hi E (by omega)
  have e3 : (fun k => eA (E2 E) (3000 + k)) = fun k => eA E (3000 + k) := funext fun k => E2_hi E (by omega)
  have e4 : (fun k => Value.ref (eA (E2 E) (2000 + k))) = fun k => .ref (eA E (2000 + k)) := funext fun k => by rw [E2_hi E (by omega)]
  have e5 : (fun k => Value.ref (eA (E2 E) (1000 + k))) = fun k => .ref (eA E (1000 + k)) := funext fun k => by rw [E2_hi E (by omega)]
  unfold CFc at h ⊢
  rw [e1, e2, e3, e4, e5, E2_hi E (j := 1100) (by decide), E2_hi E (j := 1200) (by decide)]
  obtain ⟨h1, h2, h3, h4, h5, h6, h7, h8, h9⟩ := h
  exact ⟨h1, h2, h3, h4, h5, h6, h7, fun q hq => by rw [E2_hi E (by have := ldc_hi q hq; omega)]; exact h8 q hq, h9⟩
theorem pos_lt : ∀ i, i < 107 → posL.getD i 0 < 107 := by decide +kernel
theorem pos_inj : ∀ i, i < 107 → ∀ j, j < 107 → posL.getD i 0 = posL.getD j 0 → i = j := by decide +kernel
theorem str_row (E : En) (l : List Nat) (h : ∀ x ∈ l, 107 ≤ x) : (fun j : Nat => ((l.map Value.ref)[j]?).bind (rfO E)) = fun j : Nat => (l[j]?).map (eA (E2 E)) := by
  funext j
  rw [List.getElem?_map]
  cases hj : l[j]? with
  | none => rfl
  | some x =>
    show some (eA E x) = some (eA (E2 E) x)
    rw [E2_hi E (h x (List.mem_of_getElem? hj))]
def mkS (c : ClassId) (n : Nat) (f : Nat → Option Nat) : va_E := .inl (c, n, .inr (.inr (.inr (.inr f))))
def cOk (E : En) (i : Nat) : Prop := (W4[posL.getD i 0]?).map (cN E) = some (cel (E2 E) st0 i)
set_option maxRecDepth 100000 in
set_option maxHeartbeats 4000000 in
theorem c_0 (E : En) : cOk E 0 := rfl
set_option maxRecDepth 100000 in
set_option maxHeartbeats 4000000 in
theorem c_1 (E : En) : cOk E 1 := rfl
set_option maxRecDepth 100000 in
set_option maxHeartbeats 4000000 in
theorem c_2 (E : En) : cOk E 2 := rfl
set_option maxRecDepth 100000 in
set_option maxHeartbeats 4000000 in
theorem c_3 (E : En) : cOk E 3 := rfl
set_option maxRecDepth 100000 in
set_option maxHeartbeats 4000000 in
theorem c_4 (E : En) : cOk E 4 := rfl
set_option maxRecDepth 100000 in
set_option maxHeartbeats 4000000 in
theorem c_5 (E : En) : cOk E 5 := rfl
set_option maxRecDepth 100000 in
set_option maxHeartbeats 4000000 in
theorem c_6 (E : En) : cOk E 6 := rfl
set_option maxRecDepth 100000 in
set_option maxHeartbeats 4000000 in
theorem c_7 (E : En) : cOk E 7 := rfl
set_option maxRecDepth 100000 in
set_option maxHeartbeats 4000000 in
theorem c_8 (E : En) : cOk E 8 := rfl
set_option maxRecDepth 100000 in
set_option maxHeartbeats 4000000 in
theorem c_9 (E : En) : cOk E 9 := rfl
set_option maxRecDepth 100000 in
set_option maxHeartbeats 4000000 in
theorem c_10 (E : En) : cOk E 10 := rfl
set_option maxRecDepth 100000 in
set_option maxHeartbeats 4000000 in
theorem c_11 (E : En) : cOk E 11 := rfl
set_option maxRecDepth 100000 in
set_option maxHeartbeats 4000000 in
theorem c_12 (E : En) : cOk E 12 := rfl
set_option maxRecDepth 100000 in
set_option maxHeartbeats 4000000 in
theorem c_13 (E : En) : cOk E 13 := rfl
set_option maxRecDepth 100000 in
set_option maxHeartbeats 4000000 in
theorem c_14 (E : En) : cOk E 14 := rfl
set_option maxRecDepth 100000 in
set_option maxHeartbeats 4000000 in
theorem c_15 (E : En) : cOk E 15 := rfl
set_option maxRecDepth 100000 in
set_option maxHeartbeats 4000000 in
theorem c_16 (E : En) : cOk E 16 := rfl
set_option maxRecDepth 100000 in
set_option maxHeartbeats 4000000 in
theorem c_17 (E : En) : cOk E 17 := rfl
set_option maxRecDepth 100000 in
set_option maxHeartbeats 4000000 in
theorem c_18 (E : En) : cOk E 18 := rfl
set_option maxRecDepth 100000 in
set_option maxHeartbeats 4000000 in
theorem c_19 (E : En) : cOk E 19 := rfl
set_option maxRecDepth 100000 in
set_option maxHeartbeats 4000000 in
theorem c_20 (E : En) : cOk E 20 := rfl
set_option maxRecDepth 100000 in
set_option maxHeartbeats 4000000 in
theorem c_21 (E : En) : cOk E 21 := rfl
set_option maxRecDepth 100000 in
set_option maxHeartbeats 4000000 in
theorem c_22 (E : En) : cOk E 22 := rfl
set_option maxRecDepth 100000 in
set_option maxHeartbeats 4000000 in
theorem c_23 (E : En) : cOk E 23 := rfl
set_option maxRecDepth 100000 in
set_option maxHeartbeats 4000000 in
theorem c_24 (E : En) : cOk E 24 := rfl
set_option maxRecDepth 100000 in
set_option maxHeartbeats 4000000 in
theorem c_25 (E : En) : cOk E 25 := rfl
set_option maxRecDepth 100000 in
set_option maxHeartbeats 4000000 in
theorem c_26 (E : En) : cOk E 26 := rfl
set_option maxRecDepth 100000 in
set_option maxHeartbeats 4000000 in
theorem c_27 (E : En) : cOk E 27 := rfl
set_option maxRecDepth 100000 in
set_option maxHeartbeats 4000000 in
theorem c_28 (E : En) : cOk E 28 := rfl
set_option maxRecDepth 100000 in
set_option maxHeartbeats 4000000 in
theorem c_29 (E : En) : cOk E 29 := rfl
set_option maxRecDepth 100000 in
set_option maxHeartbeats 4000000 in
theorem c_30 (E : En) : cOk E 30 := rfl
set_option maxRecDepth 100000 in
set_option maxHeartbeats 4000000 in
theorem c_31 (E : En) : cOk E 31 := rfl
set_option maxRecDepth 100000 in
set_option maxHeartbeats 4000000 in
theorem c_32 (E : En) : cOk E 32 := rfl
set_option maxRecDepth 100000 in
set_option maxHeartbeats 4000000 in
theorem c_33 (E : En) : cOk E 33 := rfl
set_option maxRecDepth 100000 in
set_option maxHeartbeats 4000000 in
theorem c_34 (E : En) : cOk E 34 := rfl
set_option maxRecDepth 100000 in
set_option maxHeartbeats 4000000 in
theorem c_35 (E : En) : cOk E 35 := rfl
set_option maxRecDepth 100000 in
set_option maxHeartbeats 4000000 in
theorem c_36 (E : En) : cOk E 36 := rfl
set_option maxRecDepth 100000 in
set_option maxHeartbeats 4000000 in
theorem c_37 (E : En) : cOk E 37 := rfl
set_option maxRecDepth 100000 in
set_option maxHeartbeats 4000000 in
theorem c_38 (E : En) : cOk E 38 := rfl
set_option maxRecDepth 100000 in
set_option maxHeartbeats 4000000 in
theorem c_39 (E : En) : cOk E 39 := rfl
set_option maxRecDepth 100000 in
set_option maxHeartbeats 4000000 in
theorem c_40 (E : En) : cOk E 40 := rfl
set_option maxRecDepth 100000 in
set_option maxHeartbeats 4000000 in
theorem c_41 (E : En) : cOk E 41 := rfl
set_option maxRecDepth 100000 in
set_option maxHeartbeats 4000000 in
theorem c_42 (E : En) : cOk E 42 := rfl
set_option maxRecDepth 100000 in
set_option maxHeartbeats 4000000 in
theorem c_43 (E : En) : cOk E 43 := rfl
set_option maxRecDepth 100000 in
set_option maxHeartbeats 4000000 in
theorem c_44 (E : En) : cOk E 44 := rfl
set_option maxRecDepth 100000 in
set_option maxHeartbeats 4000000 in
theorem c_45 (E : En) : cOk E 45 := rfl
set_option maxRecDepth 100000 in
set_option maxHeartbeats 4000000 in
theorem c_46 (E : En) : cOk E 46 := rfl
set_option maxRecDepth 100000 in
set_option maxHeartbeats 4000000 in
theorem c_47 (E : En) : cOk E 47 := rfl
set_option maxRecDepth 100000 in
set_option maxHeartbeats 4000000 in
theorem c_48 (E : En) : cOk E 48 := rfl
set_option maxRecDepth 100000 in
set_option maxHeartbeats 4000000 in
theorem c_49 (E : En) : cOk E 49 := rfl
set_option maxRecDepth 100000 in
set_option maxHeartbeats 4000000 in
theorem c_50 (E : En) : cOk E 50 := rfl
set_option maxRecDepth 100000 in
set_option maxHeartbeats 4000000 in
theorem c_51 (E : En) : cOk E 51 := rfl
set_option maxRecDepth 100000 in
set_option maxHeartbeats 4000000 in
theorem c_52 (E : En) : cOk E 52 := rfl
set_option maxRecDepth 100000 in
set_option maxHeartbeats 4000000 in
theorem c_53 (E : En) : cOk E 53 := rfl
set_option maxRecDepth 100000 in
set_option maxHeartbeats 4000000 in
theorem c_54 (E : En) : cOk E 54 := rfl
set_option maxRecDepth 100000 in
set_option maxHeartbeats 4000000 in
theorem c_55 (E : En) : cOk E 55 := rfl
set_option maxRecDepth 100000 in
set_option maxHeartbeats 4000000 in
theorem c_56 (E : En) : cOk E 56 := rfl
set_option maxRecDepth 100000 in
set_option maxHeartbeats 4000000 in
theorem c_57 (E : En) : cOk E 57 := rfl
set_option maxRecDepth 100000 in
set_option maxHeartbeats 4000000 in
theorem c_58 (E : En) : cOk E 58 := rfl
set_option maxRecDepth 100000 in
set_option maxHeartbeats 4000000 in
theorem c_59 (E : En) : cOk E 59 := by
  show some (mkS E.2.2.2.2.2 4 (fun j : Nat => (([2000, 2001, 2002, 2003].map Value.ref)[j]?).bind (rfO E))) = some (mkS E.2.2.2.2.2 4 (fun j : Nat => ([2000, 2001, 2002, 2003][j]?).map (eA (E2 E))))
  rw [str_row E [2000, 2001, 2002, 2003] (by decide)]
set_option maxRecDepth 100000 in
set_option maxHeartbeats 4000000 in
theorem c_60 (E : En) : cOk E 60 := by
  show some (mkS E.2.2.2.2.2 8 (fun j : Nat => (([2011, 2012, 2013, 2014, 2015, 2016, 2017, 2018].map Value.ref)[j]?).bind (rfO E))) = some (mkS E.2.2.2.2.2 8 (fun j : Nat => ([2011, 2012, 2013, 2014, 2015, 2016, 2017, 2018][j]?).map (eA (E2 E))))
  rw [str_row E [2011, 2012, 2013, 2014, 2015, 2016, 2017, 2018] (by decide)]
set_option maxRecDepth 100000 in
set_option maxHeartbeats 4000000 in
theorem c_61 (E : En) : cOk E 61 := by
  show some (mkS E.2.2.2.2.2 5 (fun j : Nat => (([2011, 2012, 2013, 2014, 2015].map Value.ref)[j]?).bind (rfO E))) = some (mkS E.2.2.2.2.2 5 (fun j : Nat => ([2011, 2012, 2013, 2014, 2015][j]?).map (eA (E2 E))))
  rw [str_row E [2011, 2012, 2013, 2014, 2015] (by decide)]
set_option maxRecDepth 100000 in
set_option maxHeartbeats 4000000 in
theorem c_62 (E : En) : cOk E 62 := rfl
set_option maxRecDepth 100000 in
set_option maxHeartbeats 4000000 in
theorem c_63 (E : En) : cOk E 63 := rfl
set_option maxRecDepth 100000 in
set_option maxHeartbeats 4000000 in
theorem c_64 (E : En) : cOk E 64 := rfl
set_option maxRecDepth 100000 in
set_option maxHeartbeats 4000000 in
theorem c_65 (E : En) : cOk E 65 := rfl
set_option maxRecDepth 100000 in
set_option maxHeartbeats 4000000 in
theorem c_66 (E : En) : cOk E 66 := rfl
set_option maxRecDepth 100000 in
set_option maxHeartbeats 4000000 in
theorem c_67 (E : En) : cOk E 67 := rfl
set_option maxRecDepth 100000 in
set_option maxHeartbeats 4000000 in
theorem c_68 (E : En) : cOk E 68 := rfl
set_option maxRecDepth 100000 in
set_option maxHeartbeats 4000000 in
theorem c_69 (E : En) : cOk E 69 := rfl
set_option maxRecDepth 100000 in
set_option maxHeartbeats 4000000 in
theorem c_70 (E : En) : cOk E 70 := rfl
set_option maxRecDepth 100000 in
set_option maxHeartbeats 4000000 in
theorem c_71 (E : En) : cOk E 71 := rfl
set_option maxRecDepth 100000 in
set_option maxHeartbeats 4000000 in
theorem c_72 (E : En) : cOk E 72 := rfl
set_option maxRecDepth 100000 in
set_option maxHeartbeats 4000000 in
theorem c_73 (E : En) : cOk E 73 := rfl
set_option maxRecDepth 100000 in
set_option maxHeartbeats 4000000 in
theorem c_74 (E : En) : cOk E 74 := rfl
set_option maxRecDepth 100000 in
set_option maxHeartbeats 4000000 in
theorem c_75 (E : En) : cOk E 75 := rfl
set_option maxRecDepth 100000 in
set_option maxHeartbeats 4000000 in
theorem c_76 (E : En) : cOk E 76 := rfl
set_option maxRecDepth 100000 in
set_option maxHeartbeats 4000000 in
theorem c_77 (E : En) : cOk E 77 := rfl
set_option maxRecDepth 100000 in
set_option maxHeartbeats 4000000 in
theorem c_78 (E : En) : cOk E 78 := rfl
set_option maxRecDepth 100000 in
set_option maxHeartbeats 4000000 in
theorem c_79 (E : En) : cOk E 79 := rfl
set_option maxRecDepth 100000 in
set_option maxHeartbeats 4000000 in
theorem c_80 (E : En) : cOk E 80 := rfl
set_option maxRecDepth 100000 in
set_option maxHeartbeats 4000000 in
theorem c_81 (E : En) : cOk E 81 := rfl
set_option maxRecDepth 100000 in
set_option maxHeartbeats 4000000 in
theorem c_82 (E : En) : cOk E 82 := rfl
set_option maxRecDepth 100000 in
set_option maxHeartbeats 4000000 in
theorem c_83 (E : En) : cOk E 83 := rfl
set_option maxRecDepth 100000 in
set_option maxHeartbeats 4000000 in
theorem c_84 (E : En) : cOk E 84 := rfl
set_option maxRecDepth 100000 in
set_option maxHeartbeats 4000000 in
theorem c_85 (E : En) : cOk E 85 := rfl
set_option maxRecDepth 100000 in
set_option maxHeartbeats 4000000 in
theorem c_86 (E : En) : cOk E 86 := rfl
set_option maxRecDepth 100000 in
set_option maxHeartbeats 4000000 in
theorem c_87 (E : En) : cOk E 87 := rfl
set_option maxRecDepth 100000 in
set_option maxHeartbeats 4000000 in
theorem c_88 (E : En) : cOk E 88 := rfl
set_option maxRecDepth 100000 in
set_option maxHeartbeats 4000000 in
theorem c_89 (E : En) : cOk E 89 := rfl
set_option maxRecDepth 100000 in
set_option maxHeartbeats 4000000 in
theorem c_90 (E : En) : cOk E 90 := rfl
set_option maxRecDepth 100000 in
set_option maxHeartbeats 4000000 in
theorem c_91 (E : En) : cOk E 91 := rfl
set_option maxRecDepth 100000 in
set_option maxHeartbeats 4000000 in
theorem c_92 (E : En) : cOk E 92 := rfl
set_option maxRecDepth 100000 in
set_option maxHeartbeats 4000000 in
theorem c_93 (E : En) : cOk E 93 := rfl
set_option maxRecDepth 100000 in
set_option maxHeartbeats 4000000 in
theorem c_94 (E : En) : cOk E 94 := rfl
set_option maxRecDepth 100000 in
set_option maxHeartbeats 4000000 in
theorem c_95 (E : En) : cOk E 95 := rfl
set_option maxRecDepth 100000 in
set_option maxHeartbeats 4000000 in
theorem c_96 (E : En) : cOk E 96 := rfl
set_option maxRecDepth 100000 in
set_option maxHeartbeats 4000000 in
theorem c_97 (E : En) : cOk E 97 := rfl
set_option maxRecDepth 100000 in
set_option maxHeartbeats 4000000 in
theorem c_98 (E : En) : cOk E 98 := rfl
set_option maxRecDepth 100000 in
set_option maxHeartbeats 4000000 in
theorem c_99 (E : En) : cOk E 99 := rfl
set_option maxRecDepth 100000 in
set_option maxHeartbeats 4000000 in
theorem c_100 (E : En) : cOk E 100 := rfl
set_option maxRecDepth 100000 in
set_option maxHeartbeats 4000000 in
theorem c_101 (E : En) : cOk E 101 := rfl
set_option maxRecDepth 100000 in
set_option maxHeartbeats 4000000 in
theorem c_102 (E : En) : cOk E 102 := rfl
set_option maxRecDepth 100000 in
set_option maxHeartbeats 4000000 in
theorem c_103 (E : En) : cOk E 103 := rfl
set_option maxRecDepth 100000 in
set_option maxHeartbeats 4000000 in
theorem c_104 (E : En) : cOk E 104 := rfl
set_option maxRecDepth 100000 in
set_option maxHeartbeats 4000000 in
theorem c_105 (E : En) : cOk E 105 := rfl
set_option maxRecDepth 100000 in
set_option maxHeartbeats 4000000 in
theorem c_106 (E : En) : cOk E 106 := rfl
theorem c_all (E : En) : ∀ i, i < 107 → cOk E i := by
  intro i hi
  match i with
  | 0 => exact c_0 E
  | 1 => exact c_1 E
  | 2 => exact c_2 E
  | 3 => exact c_3 E
  | 4 => exact c_4 E
  | 5 => exact c_5 E
  | 6 => exact c_6 E
  | 7 => exact c_7 E
  | 8 => exact c_8 E
  | 9 => exact c_9 E
  | 10 => exact c_10 E
  | 11 => exact c_11 E
  | 12 => exact c_12 E
  | 13 => exact c_13 E
  | 14 => exact c_14 E
  | 15 => exact c_15 E
  | 16 => exact c_16 E
  | 17 => exact c_17 E
  | 18 => exact c_18 E
  | 19 => exact c_19 E
  | 20 => exact c_20 E
  | 21 => exact c_21 E
  | 22 => exact c_22 E
  | 23 => exact c_23 E
  | 24 => exact c_24 E
  | 25 => exact c_25 E
  | 26 => exact c_26 E
  | 27 => exact c_27 E
  | 28 => exact c_28 E
  | 29 => exact c_29 E
  | 30 => exact c_30 E
  | 31 => exact c_31 E
  | 32 => exact c_32 E
  | 33 => exact c_33 E
  | 34 => exact c_34 E
  | 35 => exact c_35 E
  | 36 => exact c_36 E
  | 37 => exact c_37 E
  | 38 => exact c_38 E
  | 39 => exact c_39 E
  | 40 => exact c_40 E
  | 41 => exact c_41 E
  | 42 => exact c_42 E
  | 43 => exact c_43 E
  | 44 => exact c_44 E
  | 45 => exact c_45 E
  | 46 => exact c_46 E
  | 47 => exact c_47 E
  | 48 => exact c_48 E
  | 49 => exact c_49 E
  | 50 => exact c_50 E
  | 51 => exact c_51 E
  | 52 => exact c_52 E
  | 53 => exact c_53 E
  | 54 => exact c_54 E
  | 55 => exact c_55 E
  | 56 => exact c_56 E
  | 57 => exact c_57 E
  | 58 => exact c_58 E
  | 59 => exact c_59 E
  | 60 => exact c_60 E
  | 61 => exact c_61 E
  | 62 => exact c_62 E
  | 63 => exact c_63 E
  | 64 => exact c_64 E
  | 65 => exact c_65 E
  | 66 => exact c_66 E
  | 67 => exact c_67 E
  | 68 => exact c_68 E
  | 69 => exact c_69 E
  | 70 => exact c_70 E
  | 71 => exact c_71 E
  | 72 => exact c_72 E
  | 73 => exact c_73 E
  | 74 => exact c_74 E
  | 75 => exact c_75 E
  | 76 => exact c_76 E
  | 77 => exact c_77 E
  | 78 => exact c_78 E
  | 79 => exact c_79 E
  | 80 => exact c_80 E
  | 81 => exact c_81 E
  | 82 => exact c_82 E
  | 83 => exact c_83 E
  | 84 => exact c_84 E
  | 85 => exact c_85 E
  | 86 => exact c_86 E
  | 87 => exact c_87 E
  | 88 => exact c_88 E
  | 89 => exact c_89 E
  | 90 => exact c_90 E
  | 91 => exact c_91 E
  | 92 => exact c_92 E
  | 93 => exact c_93 E
  | 94 => exact c_94 E
  | 95 => exact c_95 E
  | 96 => exact c_96 E
  | 97 => exact c_97 E
  | 98 => exact c_98 E
  | 99 => exact c_99 E
  | 100 => exact c_100 E
  | 101 => exact c_101 E
  | 102 => exact c_102 E
  | 103 => exact c_103 E
  | 104 => exact c_104 E
  | 105 => exact c_105 E
  | 106 => exact c_106 E
  | i + 107 => omega
theorem wl_st0 {E : En} {Dg : va_G} {H : Heap} (hP : va_P Dg vwCl (wN E W4) H) : va_P Dg vwCl (wl (E2 E) st0) H := by
  intro k q hq
  obtain ⟨hk, rfl⟩ := wl_lt _ _ hq
  have h := c_all E k hk
  unfold cOk at h
  cases hw : W4[posL.getD k 0]? with
  | none => rw [hw] at h; cases h
  | some x =>
    rw [hw] at h
    have h9 := hP (posL.getD k 0) (eA E (posL.getD k 0), cN E x) (by rw [wN_get, hw]; rfl)
    rw [Option.some.inj h] at h9
    rw [E2_lo E hk]
    exact h9
def QP (B b L : Nat) (xs : Nat → Int32) : List Frame → Array Value → State → State → Prop := fun below args s t => (s.heap.size = B ∧ va_X b L xs s s.heap) → lw_Z below args s t
set_option maxRecDepth 100000 in
set_option maxHeartbeats 4000000 in
theorem law_pro {l : Launch} (hl0 : l.stackTraces = false) {E : En} {B b L : Nat} {xs : Nat → Int32} (hb : eA E 1300 = b) (hbB : b < B) (hL : L ≤ 3072) {Inv : St → Prop} (h0 : Inv st0) (hstep : ∀ st, Inv st → ∀ c a1 a2 a3 a4 a5, CaseP c a1 a2 a3 a4 a5 st Inv) :
    Kg l E B room_1 code 7 RL ret False (QP B b L xs) 0 0 0 [(0, .ref 1300)] [] [] := by
  refine K_new (ci := 11) (N := 12) (fs := [.null, .int 0, .int 0, .null, .null, .null, .int 0, .null, .null, .null, .null, .null]) in_wsX110 tyX11 tyX11_ok k_1420 k_1421 k_719 cl_11 (df_11 E) (Nat.le_of_ble_eq_true rfl) (Nat.le_of_ble_eq_true rfl) (by decide) [(4, 11, [.null, .int 0, .int 0, .null, .null, .null, .int 0, .null, .null, .null, .null, .null])] rfl 0 rfl dL_law_0 ?_
  refine K_dup dL_law_3 ?_
  refine K_cI (As := []) md_X11_init k_1425 rfl rfl ⟨Nat.le_of_ble_eq_true rfl, Nat.le_of_ble_eq_true rfl⟩ ⟨Nat.le_of_ble_eq_true rfl, Nat.le_of_ble_eq_true rfl⟩ (Nat.le_of_ble_eq_true rfl) dL_law_4 W1 rfl (ck_X11_init (N := 1) rfl rfl (by decide)) ?_
  refine K_astore_n _ dL_law_7 rfl (by decide) rfl ?_
  refine K_new (ci := 12) (N := 69) (fs := [.null, .null, .null, .null, .int 0, .null, .null, .null, .null, .null, .null, .null, .null, .null, .null, .null, .int 0, .int 0, .int 0, .int 0, .int 0, .int 0, .int 0, .int 0, .int 0, .int 0, .int 0, .null, .null, .null, .null, .null, .null, .null, .null, .null, .int 0, .int 0, .int 0, .int 0, .null, .null, .null, .null, .null, .null, .null, .null, .null, .null, .null, .null, .null, .null, .int 0, .null, .null, .int 0, .int 0, .int 0, .int 0, .null, .null, .null, .null, .null, .null, .null, .null]) in_wsX120 tyX12 tyX12_ok k_1422 k_1423 k_973 cl_12 (df_12 E) (Nat.le_of_ble_eq_true rfl) (Nat.le_of_ble_eq_true rfl) (by decide +kernel) (W1 ++ [(4, 12, [.null, .null, .null, .null, .int 0, .null, .null, .null, .null, .null, .null, .null, .null, .null, .null, .null, .int 0, .int 0, .int 0, .int 0, .int 0, .int 0, .int 0, .int 0, .int 0, .int 0, .int 0, .null, .null, .null, .null, .null, .null, .null, .null, .null, .int 0, .int 0, .int 0, .int 0, .null, .null, .null, .null, .null, .null, .null, .null, .null, .null, .null, .null, .null, .null, .int 0, .null, .null, .int 0, .int 0, .int 0, .int 0, .null, .null, .null, .null, .null, .null, .null, .null])]) rfl 58 rfl dL_law_8 ?_
  refine K_dup dL_law_11 ?_
  refine K_cI (As := []) md_X12_init k_1427 rfl rfl ⟨Nat.le_of_ble_eq_true rfl, Nat.le_of_ble_eq_true rfl⟩ ⟨Nat.le_of_ble_eq_true rfl, Nat.le_of_ble_eq_true rfl⟩ (Nat.le_of_ble_eq_true rfl) dL_law_12 W3 rfl (ck_X12_init (N := 59) rfl rfl (by decide)) ?_
  refine K_astore_n _ dL_law_15 rfl (by decide) rfl ?_
  refine K_iconst 1 dL_law_16 (by decide) ?_
  refine K_newa2 (N := 1) k_1424 (by decide) (by decide) (by decide) (Nat.le_of_ble_eq_true rfl) (Nat.le_of_ble_eq_true rfl) (by decide +kernel) W4 rfl 106 rfl dL_law_17 ?_
  refine K_astore_n _ dL_law_19 rfl (by decide) rfl ?_
  refine K_iconst 0 dL_law_20 (by decide) ?_
  refine K_istore _ dL_law_21 (by decide) rfl ?_
  intro p e s m args below meth c H locs ls C hP hz hcl hS hl
  by_cases hc : ¬ (s.heap.size = B ∧ va_X b L xs s s.heap)
  · intro T hT X
    exact ⟨_, Steps.refl _, fun h => absurd h hc⟩
  obtain ⟨hs, hX⟩ := Classical.not_not.mp hc
  have hE := C.2.2.2.2.2.2.2.2.2.1
  have hlo : ∀ i, i < NN → eA (E2 E) i = B + posL.getD i 0 := fun i hi => by rw [E2_lo E hi, hE _ (by have := pos_lt i hi; omega)]
  have hAA : ∀ q, AA (E2 E) B q → B ≤ q := by
    rintro q (⟨i, hi, rfl⟩ | h)
    · rw [hlo i hi]; omega
    · exact h
  have hb2 : eA (E2 E) 1300 = b := by rw [E2_hi E (by decide)]; exact hb
  have hlaw := law_loop (E := E2 E) hl0 (B := B) (fun i hi => by rw [hlo i hi]; omega) (L := L) (xs := xs) hL (XT := fun _ => True) hstep 512 0 107 31142 st0 h0 (by omega) (by omega) (by omega) (by omega)
  have hW := hlaw p e s m args below meth c B H locs ls ⟨C.1, C.2.1, C.2.2.1, C.2.2.2.1, C.2.2.2.2.1, C.2.2.2.2.2.1, C.2.2.2.2.2.2.1, C.2.2.2.2.2.2.2.1, hs, fun i j hi hj h => by
      rw [hlo i hi, hlo j hj] at h
      exact pos_inj i hi j hj (by omega), ⟨CFc_E2 ((CFc_ok E).2.2.2 _ _ _ _ hAA C.2.2.2.2.2.2.2.2.2.2.1.1), by rw [hb2]; exact hX, by
      rw [hb2]
      intro h
      have := hAA b h
      omega⟩, CFs_ok _ _ _, trivial⟩ (wl_st0 hP) ⟨hS.1, fun q h1 h2 => hS.2.1 q h1 (fun h => h2 (Or.inr h)), fun q hq => Or.inr (hS.2.2 q hq)⟩ (by
      have h9 := lv_sub hl [4, 3, 2, 1, 0] rfl
      exact h9)
  intro T hT X
  obtain ⟨t, a1, b1⟩ := hW T hT X
  exact ⟨t, a1, fun _ => b1 rfl⟩
