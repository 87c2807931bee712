/-! constants: the words (an enum), the texts, what a throw needs; rows on them; methods that may throw -/
def kS : List (List Int32) := [[102, 97, 116, 104, 101, 114], [102, 114, 105, 101, 110, 100], [115, 117, 105, 116, 111, 114], [98, 101, 97, 115, 116], [98, 114, 105, 100, 101], [116, 105, 101], [119, 101, 105, 103, 104, 115], [109, 111, 117, 114, 110, 115], [111, 114], [97, 110, 100], [110, 111, 116], [103, 114, 105, 101, 102], [111, 110, 105, 111, 110, 115], [107, 105, 110, 100], [108, 101, 100], [100, 97, 121], [121, 101, 97, 114, 115], [108, 101, 102, 116], [114, 105, 118, 97, 108, 115], [59, 40, 41, 43, 45, 42, 47, 60, 61]]
def kL : List Nat := [6, 6, 6, 5, 5, 3, 6, 6, 2, 3, 3, 5, 6, 4, 3, 3, 5, 4, 6, 9]
def kl (a : Nat) : Nat := kL.getD (a - 3000) 0
def kb (a j : Nat) : Int32 := (kS.getD (a - 3000) []).getD j 0
def enN : List String := ["FATHER", "FRIEND", "SUITOR", "BEAST", "BRIDE", "TIE", "WEIGHS", "MOURNS", "OR", "AND", "NOT", "GRIEF", "ONIONS", "KIND", "LED", "DAY", "YEARS", "LEFT", "RIVALS"]
def pkL : List Int32 := [0, 1, 2, 3, (-1), (-1), (-1), (-1), (-1), (-1), (-1), (-1), (-1), (-1), (-1), (-1), (-1), (-1), (-1)]
def vaL : List Int32 := [(-1), (-1), (-1), (-1), (-1), (-1), (-1), (-1), (-1), (-1), (-1), 0, 1, 2, 3, 4, 5, 6, 7]
def enF : List (String × String × String × List Int32) := [("GivenAway$Word", "personKind", "I", pkL), ("GivenAway$Word", "value", "I", vaL)]
def ldcL : List (String × Nat × String × Nat) := [("GivenAway", 89, "the tape has not so many bytes", 2020), ("GivenAway$Tokens", 62, ";()+-*/<=", 2019), ("GivenAway", 330, "no such what", 2021), ("GivenAway", 325, "no such person", 2022), ("GivenAway", 328, "no such bride", 2023), ("GivenAway", 332, "not 0 to 60 days", 2024), ("GivenAway", 334, "no two rivals for a bride at home", 2025), ("GivenAwayModel", 11, "father", 2000), ("GivenAwayModel", 13, "friend", 2001), ("GivenAwayModel", 15, "suitor", 2002), ("GivenAwayModel", 17, "beast", 2003), ("GivenAwayModel", 23, "grief", 2011), ("GivenAwayModel", 25, "onions", 2012), ("GivenAwayModel", 27, "kind", 2013), ("GivenAwayModel", 29, "led", 2014), ("GivenAwayModel", 31, "day", 2015), ("GivenAwayModel", 33, "years", 2016), ("GivenAwayModel", 35, "left", 2017), ("GivenAwayModel", 37, "rivals", 2018), ("GivenAwayModel", 312, "weighs", 2006), ("GivenAwayModel", 314, "mourns", 2007), ("GivenAwayModel", 290, "not", 2010), ("GivenAwayModel", 298, "and", 2009), ("GivenAwayModel", 303, "or", 2008), ("GivenAwayModel", 319, "bride", 2004), ("GivenAwayModel", 324, "tie", 2005)]
def dcL : List MethodName := [Bundle.initS "java/lang/RuntimeException", Bundle.initS "java/lang/Exception", Bundle.initS "java/lang/Throwable"]
abbrev IAE : String := "java/lang/IllegalArgumentException"
abbrev NSE : String := "java/util/NoSuchElementException"
def enOk (e : Nat) : Prop := 1000 ≤ e ∧ e < 1019
def kOk (a : Nat) : Prop := 2000 ≤ a ∧ a < 2020
def vOk (a : Nat) : Prop := 3000 ≤ a ∧ a < 3020
def wOk (r : Option Nat) : Prop := ∀ i, r = some i → enOk i
def CFc (E : En) : CFt := fun A U H =>
  va_En "GivenAway$Word" "LGivenAway$Word;" enN enF (fun k => eA E (1000 + k)) A U H ∧
  va_Ef 19 "GivenAway$Word" "letters" "Ljava/lang/String;" (fun k => .ref (eA E (2000 + k))) (fun k => eA E (1000 + k)) A U H ∧
  vk_S 20 kL kS (fun k => eA E (2000 + k)) (fun k => eA E (3000 + k)) A U H ∧
  va_Z "GivenAway$Word" "ALL" "[LGivenAway$Word;" (.ref (eA E 1100)) A U H ∧
  va_T (.object "GivenAway$Word") (eA E 1100) 19 (fun j => .ref (eA E (1000 + j))) A U H ∧
  va_Z "java/lang/String" "COMPACT_STRINGS" "Z" (.int 1) A U H ∧
  (va_Z "jdk/internal/util/Preconditions" "SIOOBE_FORMATTER" "Ljava/util/function/BiFunction;" .null A U H ∨ va_Z "jdk/internal/util/Preconditions" "SIOOBE_FORMATTER" "Ljava/util/function/BiFunction;" (.ref (eA E 1200)) A U H) ∧
  (∀ q ∈ ldcL, vk_R q.1 q.2.1 q.2.2.1 (eA E q.2.2.2) U) ∧
  vx_Zq Bundle.tN "UNASSIGNED_STACK" Bundle.steD A U H ∧ vx_Zq Bundle.tN "SUPPRESSED_SENTINEL" Bundle.listD A U H ∧
  (∀ x ∈ dcL, va_Nw (.declares x) U) ∧ va_Nw (.castable IAE IAE) U ∧ va_Nw (.castable NSE NSE) U ∧ va_Nc IAE NSE U
theorem CFc_ok (E : En) : CFok (CFc E) := by
  refine ⟨fun A u U H hv h => ?_, fun A s U H hW h => ?_, fun A U H H1 hq h => ?_, fun A B U H hAB h => ?_⟩
  · obtain ⟨h1, h2, h3, h4, h5, h6, h7, h8, h9, h10, h11, h12, h13, h14⟩ := h
    have hal : u.vm.Alike U.vm := by rw [hv]; exact Vm.Alike.refl _
    exact ⟨h1.moved hal, fun i hi => (h2 i hi).moved hal, h3.moved hal, h4.moved hal, h5.moved hal, h6.moved hal, h7.elim (fun h => Or.inl (h.moved hal)) (fun h => Or.inr (h.moved hal)), fun q hq => (h8 q hq).same hv.symm, h9.moved hal, h10.moved hal, fun x hx => (h11 x hx).same rfl hv, h12.same rfl hv, h13.same rfl hv, h14.moved hal⟩
  · obtain ⟨h1, h2, h3, h4, h5, h6, h7, h8, h9, h10, h11, h12, h13, h14⟩ := h
    have hal : s.vm.Alike U.vm := hW.alike
    exact ⟨h1.moved hal, fun i hi => (h2 i hi).moved hal, h3.moved hal, h4.moved hal, h5.moved hal, h6.moved hal, h7.elim (fun h => Or.inl (h.moved hal)) (fun h => Or.inr (h.moved hal)), fun q hq => (h8 q hq).warm hW, h9.moved hal, h10.moved hal, fun x hx => (h11 x hx).warmD hW, h12.warmC hW, h13.warmC hW, h14.moved hal⟩
  · obtain ⟨h1, h2, h3, h4, h5, h6, h7, h8, h9, h10, h11, h12, h13, h14⟩ := h
    exact ⟨h1.kept hq, fun i hi => (h2 i hi).kept hq, h3.kept hq, h4.kept hq, h5.kept hq, h6.kept hq, h7.elim (fun h => Or.inl (h.kept hq)) (fun h => Or.inr (h.kept hq)), h8, h9.kept hq, h10.kept hq, h11, h12, h13, h14⟩
  · obtain ⟨h1, h2, h3, h4, h5, h6, h7, h8, h9, h10, h11, h12, h13, h14⟩ := h
    exact ⟨h1.narrow hAB, fun i hi => (h2 i hi).narrow hAB, h3.narrow hAB, h4.narrow hAB, h5.narrow hAB, h6.narrow hAB, h7.elim (fun h => Or.inl (h.narrow hAB)) (fun h => Or.inr (h.narrow hAB)), h8, h9.narrow hAB, h10.narrow hAB, h11, h12, h13, h14⟩
section JK
variable {l : Launch} {E : En} {R : Room} {cc : ByteArray} {nL : Nat} {own : String} {ret : Option FieldType} {XT : Code → Prop} {QQ : List Frame → Array Value → State → Nat → State → Prop} {k n pc : Nat} {lv : List (Nat × Value)} {rest : List Value} {st : St}
theorem J_gsW {i ix : Nat} (hi : i < 19) (hw : Cond.fieldLink own ix "GivenAway$Word" (enN.getD i "") "LGivenAway$Word;" ∈ WL) (hdg : decode cc pc = .ok (.getstatic ix, 3)) (kk : Jg l E (CFc E) R cc nL own ret XT QQ k n (pc + 3) (lv) (.ref (1000 + i) :: rest) st) : Jg l E (CFc E) R cc nL own ret XT QQ k n (pc) (lv) (rest) st := by
  intro p e s m args below meth c sz H locs ls C hP hS hl
  have F := C.2.2.2.2.2.2.2.2.2.2.1
  exact va_gets C.1 C.2.1 (F.1.1 i hi).1 hS C.2.2.2.2.1 (C.2.2.2.2.2.1 _ hw) (fun _ h => h) hdg (kk p e s m args below meth c sz H locs ls C hP hS hl)
theorem J_gsA {ix : Nat} (hw : Cond.fieldLink own ix "GivenAway$Word" "ALL" "[LGivenAway$Word;" ∈ WL) (hdg : decode cc pc = .ok (.getstatic ix, 3)) (kk : Jg l E (CFc E) R cc nL own ret XT QQ k n (pc + 3) (lv) (.ref 1100 :: rest) st) : Jg l E (CFc E) R cc nL own ret XT QQ k n (pc) (lv) (rest) st := by
  intro p e s m args below meth c sz H locs ls C hP hS hl
  have F := C.2.2.2.2.2.2.2.2.2.2.1
  exact va_gets C.1 C.2.1 F.2.2.2.1 hS C.2.2.2.2.1 (C.2.2.2.2.2.1 _ hw) (fun _ h => h) hdg (kk p e s m args below meth c sz H locs ls C hP hS hl)
theorem J_gsC {ix : Nat} (hw : Cond.fieldLink own ix "java/lang/String" "COMPACT_STRINGS" "Z" ∈ WL) (hdg : decode cc pc = .ok (.getstatic ix, 3)) (kk : Jg l E (CFc E) R cc nL own ret XT QQ k n (pc + 3) (lv) (.int 1 :: rest) st) : Jg l E (CFc E) R cc nL own ret XT QQ k n (pc) (lv) (rest) st := by
  intro p e s m args below meth c sz H locs ls C hP hS hl
  have F := C.2.2.2.2.2.2.2.2.2.2.1
  exact va_gets C.1 C.2.1 F.2.2.2.2.2.1 hS C.2.2.2.2.1 (C.2.2.2.2.2.1 _ hw) (fun _ h => h) hdg (kk p e s m args below meth c sz H locs ls C hP hS hl)
theorem J_gsF {ix : Nat} (hw : Cond.fieldLink own ix "jdk/internal/util/Preconditions" "SIOOBE_FORMATTER" "Ljava/util/function/BiFunction;" ∈ WL) (hdg : decode cc pc = .ok (.getstatic ix, 3)) (kk : ∀ r : Option Nat, Jg l E (CFc E) R cc nL own ret XT QQ k n (pc + 3) (lv) (va_rf r :: rest) st) : Jg l E (CFc E) R cc nL own ret XT QQ k n (pc) (lv) (rest) st := by
  intro p e s m args below meth c sz H locs ls C hP hS hl
  have F := C.2.2.2.2.2.2.2.2.2.2.1
  rcases F.2.2.2.2.2.2.1 with h | h
  · exact va_gets C.1 C.2.1 h hS C.2.2.2.2.1 (C.2.2.2.2.2.1 _ hw) (fun _ h => h) hdg (kk none p e s m args below meth c sz H locs ls C hP hS hl)
  · exact va_gets C.1 C.2.1 h hS C.2.2.2.2.1 (C.2.2.2.2.2.1 _ hw) (fun _ h => h) hdg (kk (some 1200) p e s m args below meth c sz H locs ls C hP hS hl)
theorem J_aLen (hdg : decode cc pc = .ok (.arraylength, 1)) (kk : Jg l E (CFc E) R cc nL own ret XT QQ k n (pc + 1) (lv) (.int 19 :: rest) st) : Jg l E (CFc E) R cc nL own ret XT QQ k n (pc) (lv) (.ref 1100 :: rest) st := by
  intro p e s m args below meth c sz H locs ls C hP hS hl
  have F := C.2.2.2.2.2.2.2.2.2.2.1
  exact va_tlen C.1 C.2.1 F.2.2.2.2.1 hS rfl hdg (kk p e s m args below meth c sz H locs ls C hP hS hl)
theorem J_aLd {i : Int32} (hdg : decode cc pc = .ok (.aaload, 1)) (hi : vp_in i 19) (kk : Jg l E (CFc E) R cc nL own ret XT QQ k n (pc + 1) (lv) (.ref (1000 + i.toNatClampNeg) :: rest) st) : Jg l E (CFc E) R cc nL own ret XT QQ k n (pc) (lv) (.int i :: .ref 1100 :: rest) st := by
  intro p e s m args below meth c sz H locs ls C hP hS hl
  have F := C.2.2.2.2.2.2.2.2.2.2.1
  exact vb_tq C.1 C.2.1 F.2.2.2.2.1 hS hi rfl hdg (kk p e s m args below meth c sz H locs ls C hP hS hl)
theorem J_enK {o ix : Nat} (hw : Cond.fieldLink own ix "GivenAway$Word" "personKind" "I" ∈ WL) (hdg : decode cc pc = .ok (.getfield ix, 3)) (ho : enOk o) (kk : Jg l E (CFc E) R cc nL own ret XT QQ k n (pc + 3) (lv) (.int (pkL.getD (o - 1000) 0) :: rest) st) : Jg l E (CFc E) R cc nL own ret XT QQ k n (pc) (lv) (.ref o :: rest) st := by
  intro p e s m args below meth c sz H locs ls C hP hS hl
  have F := C.2.2.2.2.2.2.2.2.2.2.1
  obtain ⟨i, rfl⟩ : ∃ i, o = 1000 + i := ⟨o - 1000, by have := ho.1; omega⟩
  have h2 := kk p e s m args below meth c sz H locs ls C hP hS hl
  rw [show 1000 + i - 1000 = i by omega] at h2
  exact va_getE C.1 C.2.1 F.1 (i := i) (by have := ho.2; show i < 19; omega) hS C.2.2.2.2.1 (q := ("GivenAway$Word", "personKind", "I", pkL)) (by simp [enF]) (C.2.2.2.2.2.1 _ hw) (fun _ h => h) hdg h2
theorem J_enV {o ix : Nat} (hw : Cond.fieldLink own ix "GivenAway$Word" "value" "I" ∈ WL) (hdg : decode cc pc = .ok (.getfield ix, 3)) (ho : enOk o) (kk : Jg l E (CFc E) R cc nL own ret XT QQ k n (pc + 3) (lv) (.int (vaL.getD (o - 1000) 0) :: rest) st) : Jg l E (CFc E) R cc nL own ret XT QQ k n (pc) (lv) (.ref o :: rest) st := by
  intro p e s m args below meth c sz H locs ls C hP hS hl
  have F := C.2.2.2.2.2.2.2.2.2.2.1
  obtain ⟨i, rfl⟩ : ∃ i, o = 1000 + i := ⟨o - 1000, by have := ho.1; omega⟩
  have h2 := kk p e s m args below meth c sz H locs ls C hP hS hl
  rw [show 1000 + i - 1000 = i by omega] at h2
  exact va_getE C.1 C.2.1 F.1 (i := i) (by have := ho.2; show i < 19; omega) hS C.2.2.2.2.1 (q := ("GivenAway$Word", "value", "I", vaL)) (by simp [enF]) (C.2.2.2.2.2.1 _ hw) (fun _ h => h) hdg h2
theorem J_enL {o ix : Nat} (hw : Cond.fieldLink own ix "GivenAway$Word" "letters" "Ljava/lang/String;" ∈ WL) (hdg : decode cc pc = .ok (.getfield ix, 3)) (ho : enOk o) (kk : Jg l E (CFc E) R cc nL own ret XT QQ k n (pc + 3) (lv) (.ref (o + 1000) :: rest) st) : Jg l E (CFc E) R cc nL own ret XT QQ k n (pc) (lv) (.ref o :: rest) st := by
  intro p e s m args below meth c sz H locs ls C hP hS hl
  have F := C.2.2.2.2.2.2.2.2.2.2.1
  obtain ⟨i, rfl⟩ : ∃ i, o = 1000 + i := ⟨o - 1000, by have := ho.1; omega⟩
  have h2 := kk p e s m args below meth c sz H locs ls C hP hS hl
  rw [show 1000 + i + 1000 = 2000 + i by omega] at h2
  exact va_getX C.1 C.2.1 F.2.1 (i := i) (by have := ho.2; omega) hS C.2.2.2.2.1 (C.2.2.2.2.2.1 _ hw) (fun _ h => h) hdg h2
theorem J_kV {o ix : Nat} (hw : Cond.fieldLink own ix "java/lang/String" "value" "[B" ∈ WL) (hdg : decode cc pc = .ok (.getfield ix, 3)) (ho : kOk o) (kk : Jg l E (CFc E) R cc nL own ret XT QQ k n (pc + 3) (lv) (.ref (o + 1000) :: rest) st) : Jg l E (CFc E) R cc nL own ret XT QQ k n (pc) (lv) (.ref o :: rest) st := by
  intro p e s m args below meth c sz H locs ls C hP hS hl
  have F := C.2.2.2.2.2.2.2.2.2.2.1
  obtain ⟨i, rfl⟩ : ∃ i, o = 2000 + i := ⟨o - 2000, by have := ho.1; omega⟩
  have h2 := kk p e s m args below meth c sz H locs ls C hP hS hl
  rw [show 2000 + i + 1000 = 3000 + i by omega] at h2
  exact vk_getf C.1 C.2.1 (F.2.2.1.1 i (by have := ho.2; omega)).2.2.1 hS C.2.2.2.2.1 (C.2.2.2.2.2.1 _ hw) (fun _ h => h) hdg h2
theorem J_kC {o ix : Nat} (hw : Cond.fieldLink own ix "java/lang/String" "coder" "B" ∈ WL) (hdg : decode cc pc = .ok (.getfield ix, 3)) (ho : kOk o) (kk : Jg l E (CFc E) R cc nL own ret XT QQ k n (pc + 3) (lv) (.int 0 :: rest) st) : Jg l E (CFc E) R cc nL own ret XT QQ k n (pc) (lv) (.ref o :: rest) st := by
  intro p e s m args below meth c sz H locs ls C hP hS hl
  have F := C.2.2.2.2.2.2.2.2.2.2.1
  obtain ⟨i, rfl⟩ : ∃ i, o = 2000 + i := ⟨o - 2000, by have := ho.1; omega⟩
  exact vk_getf C.1 C.2.1 (F.2.2.1.1 i (by have := ho.2; omega)).2.1 hS C.2.2.2.2.1 (C.2.2.2.2.2.1 _ hw) (fun _ h => h) hdg (kk p e s m args below meth c sz H locs ls C hP hS hl)
theorem J_kLen {o : Nat} (hdg : decode cc pc = .ok (.arraylength, 1)) (ho : vOk o) (kk : Jg l E (CFc E) R cc nL own ret XT QQ k n (pc + 1) (lv) (.int (Int32.ofNat (kl o)) :: rest) st) : Jg l E (CFc E) R cc nL own ret XT QQ k n (pc) (lv) (.ref o :: rest) st := by
  intro p e s m args below meth c sz H locs ls C hP hS hl
  have F := C.2.2.2.2.2.2.2.2.2.2.1
  obtain ⟨i, rfl⟩ : ∃ i, o = 3000 + i := ⟨o - 3000, by have := ho.1; omega⟩
  have h2 := kk p e s m args below meth c sz H locs ls C hP hS hl
  unfold kl at h2
  rw [show 3000 + i - 3000 = i by omega] at h2
  exact va_tlen C.1 C.2.1 (F.2.2.1.1 i (by have := ho.2; omega)).2.2.2 hS rfl hdg h2
theorem J_kB {o : Nat} {j : Int32} (hdg : decode cc pc = .ok (.baload, 1)) (ho : vOk o) (hj : vp_in j (kl o)) (kk : Jg l E (CFc E) R cc nL own ret XT QQ k n (pc + 1) (lv) (.int (kb o j.toNatClampNeg) :: rest) st) : Jg l E (CFc E) R cc nL own ret XT QQ k n (pc) (lv) (.int j :: .ref o :: rest) st := by
  intro p e s m args below meth c sz H locs ls C hP hS hl
  have F := C.2.2.2.2.2.2.2.2.2.2.1
  obtain ⟨i, rfl⟩ : ∃ i, o = 3000 + i := ⟨o - 3000, by have := ho.1; omega⟩
  have h2 := kk p e s m args below meth c sz H locs ls C hP hS hl
  unfold kb at h2
  unfold kl at hj
  rw [show 3000 + i - 3000 = i by omega] at h2 hj
  exact va_tb C.1 C.2.1 (F.2.2.1.1 i (by have := ho.2; omega)).2.2.2 hS hj rfl hdg h2
theorem J_ldS {ix i : Nat} {tx : String} (hw : (own, ix, tx, i) ∈ ldcL) (hdg : decode cc pc = .ok (.ldc ix, 2)) (kk : Jg l E (CFc E) R cc nL own ret XT QQ k n (pc + 2) (lv) (.ref i :: rest) st) : Jg l E (CFc E) R cc nL own ret XT QQ k n (pc) (lv) (rest) st := by
  intro p e s m args below meth c sz H locs ls C hP hS hl
  have F := C.2.2.2.2.2.2.2.2.2.2.1
  exact va_ldcS C.1 C.2.1 C.2.2.2.2.1 (F.2.2.2.2.2.2.2.1 _ hw) hdg (kk p e s m args below meth c sz H locs ls C hP hS hl)
theorem J_acmp_eq {rx ry : Option Nat} {off : Int} (tgt : Nat) (hdg : decode cc pc = .ok (.if_acmp .eq off, 3)) (ht : (pc : Int) + off = (tgt : Int)) (hx : wOk rx) (hy : wOk ry) (kt : rx = ry → Jg l E (CFc E) R cc nL own ret XT QQ k n (tgt) (lv) (rest) st) (kf : ¬ rx = ry → Jg l E (CFc E) R cc nL own ret XT QQ k n (pc + 3) (lv) (rest) st) : Jg l E (CFc E) R cc nL own ret XT QQ k n (pc) (lv) (va_rf ry :: va_rf rx :: rest) st := by
  intro p e s m args below meth c sz H locs ls C hP hS hl
  have F := C.2.2.2.2.2.2.2.2.2.2.1
  have key : rx.map (eA E) = ry.map (eA E) → rx = ry := by
    intro h
    cases rx with
    | none => cases ry with
      | none => rfl
      | some y => cases h
    | some x => cases ry with
      | none => cases h
      | some y =>
        have h1 := hx x rfl
        have h2 := hy y rfl
        have h3 : eA E (1000 + (x - 1000)) = eA E (1000 + (y - 1000)) := by
          rw [show 1000 + (x - 1000) = x by have := h1.1; omega, show 1000 + (y - 1000) = y by have := h2.1; omega]
          exact Option.some.inj h
        have h4 := F.1.2 (x - 1000) (y - 1000) (by show x - 1000 < 19; have := h1.2; have := h1.1; omega) (by show y - 1000 < 19; have := h2.2; have := h2.1; omega) h3
        rw [show x = y by have := h1.1; have := h2.1; omega]
  rw [List.map_cons, List.map_cons, cv_rf, cv_rf]
  exact lv_acmp_eq C.1 C.2.1 hdg ht (fun h => kt (key h) p e s m args below meth c sz H locs ls C hP hS hl) (fun h => kf (fun z => h (by rw [z])) p e s m args below meth c sz H locs ls C hP hS hl)
theorem J_acmp_ne {rx ry : Option Nat} {off : Int} (tgt : Nat) (hdg : decode cc pc = .ok (.if_acmp .ne off, 3)) (ht : (pc : Int) + off = (tgt : Int)) (hx : wOk rx) (hy : wOk ry) (kt : ¬ rx = ry → Jg l E (CFc E) R cc nL own ret XT QQ k n (tgt) (lv) (rest) st) (kf : rx = ry → Jg l E (CFc E) R cc nL own ret XT QQ k n (pc + 3) (lv) (rest) st) : Jg l E (CFc E) R cc nL own ret XT QQ k n (pc) (lv) (va_rf ry :: va_rf rx :: rest) st := by
  intro p e s m args below meth c sz H locs ls C hP hS hl
  have F := C.2.2.2.2.2.2.2.2.2.2.1
  have key : rx.map (eA E) = ry.map (eA E) → rx = ry := by
    intro h
    cases rx with
    | none => cases ry with
      | none => rfl
      | some y => cases h
    | some x => cases ry with
      | none => cases h
      | some y =>
        have h1 := hx x rfl
        have h2 := hy y rfl
        have h3 : eA E (1000 + (x - 1000)) = eA E (1000 + (y - 1000)) := by
          rw [show 1000 + (x - 1000) = x by have := h1.1; omega, show 1000 + (y - 1000) = y by have := h2.1; omega]
          exact Option.some.inj h
        have h4 := F.1.2 (x - 1000) (y - 1000) (by show x - 1000 < 19; have := h1.2; have := h1.1; omega) (by show y - 1000 < 19; have := h2.2; have := h2.1; omega) h3
        rw [show x = y by have := h1.1; have := h2.1; omega]
  rw [List.map_cons, List.map_cons, cv_rf, cv_rf]
  exact lv_acmp_ne C.1 C.2.1 hdg ht (fun h => kt (fun z => h (by rw [z])) p e s m args below meth c sz H locs ls C hP hS hl) (fun h => kf (key h) p e s m args below meth c sz H locs ls C hP hS hl)
end JK
theorem rc_str {E : En} {o : Nat} (ho : kOk o) : Rc E (CFc E) o "java/lang/String" := by
  intro s H sz locs st hK F hP hS
  obtain ⟨i, rfl⟩ : ∃ i, o = 2000 + i := ⟨o - 2000, by have := ho.1; omega⟩
  exact vk_recv (adK := fun k => eA E (2000 + k)) (i := i) F.2.2.1 (by have := ho.2; omega) hS
theorem rc_enm {E : En} {o : Nat} (ho : enOk o) : Rc E (CFc E) o "GivenAway$Word" := by
  intro s H sz locs st hK F hP hS
  obtain ⟨i, rfl⟩ : ∃ i, o = 1000 + i := ⟨o - 1000, by have := ho.1; omega⟩
  exact va_recvE F.1 (i := i) (by have := ho.2; show i < 19; omega) hS
/-! methods that may throw -/
def XCx (E : En) (pex : String → St → Prop) (sz : Nat) : String → State → State → Prop := vx_X (fun _ : St => True) (fun X u t => pex X u ∧ Ba E u t) (AA E sz)
def QXI (E : En) (post : Int32 → St → Prop) (pex : String → St → Prop) (mc ms : Nat) : List Frame → Array Value → State → Nat → State → Prop := fun below args s sz => vx_MQ below (va_Qi post (Ba E) (AA E sz)) (XCx E pex sz) args s mc ms (AA E sz)
def QXV (E : En) (post : St → Prop) (pex : String → St → Prop) (mc ms : Nat) : List Frame → Array Value → State → Nat → State → Prop := fun below args s sz => vx_MQ below (va_Qv post (Ba E) (AA E sz)) (XCx E pex sz) args s mc ms (AA E sz)
def CtXI (l : Launch) (E : En) (CF : CFt) (L mc ms : Nat) (y : MethodName) (cc : ByteArray) (nL : Nat) (ret : Option FieldType) (av : List Value) (st : St) (post : Int32 → St → Prop) (pex : String → St → Prop) : Prop := ∀ sz : Nat, vx_Met l y (Cond.code y cc nL ret :: WL) (Rm L mc ms) (va_Pc (av.map (cv E)) (Bg E CF sz st)) (va_Qi post (Ba E) (AA E sz)) (XCx E pex sz) mc ms (AA E sz)
def CtXV (l : Launch) (E : En) (CF : CFt) (L mc ms : Nat) (y : MethodName) (cc : ByteArray) (nL : Nat) (ret : Option FieldType) (av : List Value) (st : St) (post : St → Prop) (pex : String → St → Prop) : Prop := ∀ sz : Nat, vx_Met l y (Cond.code y cc nL ret :: WL) (Rm L mc ms) (va_Pc (av.map (cv E)) (Bg E CF sz st)) (va_Qv post (Ba E) (AA E sz)) (XCx E pex sz) mc ms (AA E sz)
def XTn : Code → Prop := fun c => ∀ x ∈ c.exceptionTable.toList, False
theorem bodyX_of {l : Launch} {E : En} {CF : CFt} {y : MethodName} {cc : ByteArray} {nL L mc ms : Nat} {ret : Option FieldType} {av : List Value} {st : St} {QQ : List Frame → Array Value → State → Nat → State → Prop} {sz : Nat}
    (hlen : (lg_sl av).length ≤ nL) (h : Jg l E CF (Rm L mc ms) cc nL y.cls ret XTn QQ 0 0 0 (lv_args 0 av) [] st) :
    ∀ p e s m args below meth c s₁, BodyLoose p l y (headSpec (Cond.code y cc nL ret :: WL) (Rm L mc ms)) cc nL ret e s m args below meth c s₁ → c.maxLocals = nL → (∀ x ∈ c.exceptionTable.toList, False) → va_Pc (av.map (cv E)) (Bg E CF sz st) args s →
      W p l e (headSpec (Cond.code y cc nL ret :: WL) (Rm L mc ms)).room s m args below meth c s.heap [] 0 0 (QQ below args s sz) (entryFrame m args nL) := by
  intro p e s m args below meth c s₁ B hml hxt hv
  obtain ⟨rfl, hsz, hP, hK, had, hCF, hok⟩ := hv
  rw [lg_entry_eq]
  have hl := lv_entry (av.map (cv E)) (n := nL) (by rw [lg_sl_cv]; exact hlen)
  rw [lv_args_cv] at hl
  exact h p e s m _ below meth c sz s.heap [] _ ⟨B.exec, B.bytes, B.returns, hml, findClass_of_methodNamed B.named, fun w hw => atoms_spec (ws := Cond.code y cc nL ret :: WL) B.pre w (List.mem_cons_of_mem _ hw), B.notSynchronized, hK, hsz, had, hCF, hok, hxt⟩ hP va_S.rf hl
theorem ctXI_of {l : Launch} {E : En} {CF : CFt} {y : MethodName} {cc : ByteArray} {nL L mc ms : Nat} {ret : Option FieldType} {av : List Value} {st : St} {post : Int32 → St → Prop} {pex : String → St → Prop} (hy : plainName y.cls = true) (hlen : (lg_sl av).length ≤ nL)
    (h : Jg l E CF (Rm L mc ms) cc nL y.cls ret XTn (QXI E post pex mc ms) 0 0 0 (lv_args 0 av) [] st) : CtXI l E CF L mc ms y cc nL ret av st post pex := fun sz => vx_ofW hy rfl (bodyX_of (sz := sz) hlen h)
theorem ctXV_of {l : Launch} {E : En} {CF : CFt} {y : MethodName} {cc : ByteArray} {nL L mc ms : Nat} {ret : Option FieldType} {av : List Value} {st : St} {post : St → Prop} {pex : String → St → Prop} (hy : plainName y.cls = true) (hlen : (lg_sl av).length ≤ nL)
    (h : Jg l E CF (Rm L mc ms) cc nL y.cls ret XTn (QXV E post pex mc ms) 0 0 0 (lv_args 0 av) [] st) : CtXV l E CF L mc ms y cc nL ret av st post pex := fun sz => vx_ofW hy rfl (bodyX_of (sz := sz) hlen h)
theorem xa_91 : ∀ w ∈ (vx_atS RX11 91 "java/lang/IllegalArgumentException" ["java/lang/RuntimeException", "java/lang/Exception"]).filter goodWord, w ∈ WL := fun w hw => wl_in ((show ∀ w ∈ (vx_atS RX11 91 "java/lang/IllegalArgumentException" ["java/lang/RuntimeException", "java/lang/Exception"]).filter goodWord, w ∈ lw_tbl by decide +kernel) w hw) (List.mem_filter.mp hw).2
theorem xa_327 : ∀ w ∈ (vx_atN RX11 327 "java/util/NoSuchElementException" "java/lang/RuntimeException" ["java/lang/Exception"] 13 prog_32_method_4_code).filter goodWord, w ∈ WL := fun w hw => wl_in ((show ∀ w ∈ (vx_atN RX11 327 "java/util/NoSuchElementException" "java/lang/RuntimeException" ["java/lang/Exception"] 13 prog_32_method_4_code).filter goodWord, w ∈ lw_tbl by decide +kernel) w hw) (List.mem_filter.mp hw).2
def xB (X : String) : List Cond := [.declares (Bundle.initS "java/lang/RuntimeException"), .declares (Bundle.initS "java/lang/Exception"), .declares (Bundle.initS "java/lang/Throwable"), .castable X X]
theorem xb_91 : ∀ w ∈ (vx_atS RX11 91 IAE ["java/lang/RuntimeException", "java/lang/Exception"]).filter (fun w => !goodWord w), w ∈ xB IAE := by decide +kernel
theorem xb_327 : ∀ w ∈ (vx_atN RX11 327 NSE "java/lang/RuntimeException" ["java/lang/Exception"] 13 prog_32_method_4_code).filter (fun w => !goodWord w), w ∈ xB NSE := by decide +kernel
theorem xo_91 : ∀ w ∈ Cond.classLink RX11 87 IAE :: Cond.initialized IAE :: vx_atS RX11 91 IAE ["java/lang/RuntimeException", "java/lang/Exception"], vx_ot w = true := by decide +kernel
theorem xo_327 : ∀ w ∈ Cond.classLink RX11 323 NSE :: Cond.initialized NSE :: vx_atN RX11 327 NSE "java/lang/RuntimeException" ["java/lang/Exception"] 13 prog_32_method_4_code, vx_ot w = true := by decide +kernel
theorem xB_use {E : En} {A : Nat → Prop} {U : State} {H : Heap} {X : String} {args : Array Value} (F : CFc E A U H) (hX : va_Nw (.castable X X) U) : ∀ w ∈ xB X, w.before args U = true := by
  have h11 := F.2.2.2.2.2.2.2.2.2.2.1
  exact vx_c ((h11 _ (by simp [dcL])).use rfl) (vx_c ((h11 _ (by simp [dcL])).use rfl) (vx_c ((h11 _ (by simp [dcL])).use rfl) (vx_c (hX.use rfl) vx_n)))
section JX
variable {l : Launch} {E : En} {R : Room} {cc : ByteArray} {nL : Nat} {ret : Option FieldType} {own : String} {k n pc mc ms : Nat} {lv : List (Nat × Value)} {stk rest : List Value} {st : St} {pex : String → St → Prop}
theorem J_xreti {XT : Code → Prop} {post : Int32 → St → Prop} {v : Int32} (hret : ret = some .int) (hdg : decode cc pc = .ok (.ireturn, 1)) (h : post v st) : Jg l E (CFc E) R cc nL own ret XT (QXI E post pex k n) k n pc lv [.int v] st := by
  intro p e s m args below meth c sz H locs ls C hP hS hl
  exact vx_ret (W.iret (v := v) C.1 C.2.1 (C.2.2.1.trans hret) (fun t ht hW => ⟨⟨v, st, rfl, h, by unfold Ba; rw [ht]; exact hP⟩, hS.F ht⟩) hS.2.2 hdg C.2.2.2.2.2.2.1)
theorem J_xretv {XT : Code → Prop} {post : St → Prop} (hret : ret = none) (hdg : decode cc pc = .ok (.return_, 1)) (h : post st) : Jg l E (CFc E) R cc nL own ret XT (QXV E post pex k n) k n pc lv [] st := by
  intro p e s m args below meth c sz H locs ls C hP hS hl
  exact vx_ret (W.vret C.1 C.2.1 (C.2.2.1.trans hret) (fun t ht hW => ⟨⟨st, rfl, h, by unfold Ba; rw [ht]; exact hP⟩, hS.F ht⟩) hS.2.2 hdg C.2.2.2.2.2.2.1)
theorem J_throwI_IAE {post : Int32 → St → Prop} {is i : Nat} {tx : String} (hl0 : l.stackTraces = false) (hw : (RX11, is, tx, i) ∈ ldcL) (d0 : decode cc pc = .ok (.new 87, 3)) (d3 : decode cc (pc + 3) = .ok (.dup, 1)) (d4 : decode cc (pc + 4) = .ok (.ldc is, 2)) (d6 : decode cc (pc + 6) = .ok (.invokespecial 91, 3)) (d9 : decode cc (pc + 9) = .ok (.athrow, 1)) (hR : 5 < R.frames ∧ (rest.map fun v => v.category).sum + 82 ≤ R.locals ∧ k + 1 ≤ R.cells ∧ n + 6 ≤ R.slots) (hc : k + 1 ≤ mc) (hs : n + 6 ≤ ms) (h : pex IAE st) : Jg l E (CFc E) R cc nL RX11 ret XTn (QXI E post pex mc ms) k n pc lv rest st := by
  intro p e s m args below meth c sz H locs ls C hP hS hl
  have F := C.2.2.2.2.2.2.2.2.2.2.1
  refine vx_throwS C.1 C.2.1 hl0 (own := RX11) (cls := IAE) (names := ["java/lang/RuntimeException", "java/lang/Exception"]) C.2.2.2.2.1 (by decide +kernel) (by decide +kernel) (C.2.2.2.2.2.1 _ k_722) (C.2.2.2.2.2.1 _ k_723) (F.2.2.2.2.2.2.2.1 _ hw) (vx_hat (fun w hw => C.2.2.2.2.2.1 _ (xa_91 w hw)) xb_91 (xB_use F F.2.2.2.2.2.2.2.2.2.2.2.1)) xo_91 F.2.2.2.2.2.2.2.2.1 F.2.2.2.2.2.2.2.2.2.1 hS (hl.1.trans C.2.2.2.1.symm) d0 d3 d4 d6 d9 (fun x hx => (C.2.2.2.2.2.2.2.2.2.2.2.2 x hx).elim) hR.1 (by rw [cats]; exact hR.2.1) hR.2.2.1 hR.2.2.2 C.2.2.2.2.2.2.1 ?_ hS.2.2 hc hs
  intro t hvm hsz hk
  refine ⟨st, trivial, ⟨h, hP.kept (fun k9 q9 h9 => hk q9.1 (hP k9 q9 h9).lt)⟩, Nat.le_trans hS.1 hsz, fun q9 h1 h2 => ?_⟩
  rw [hk q9 (Nat.lt_of_lt_of_le h1 hS.1)]
  exact hS.2.1 q9 h1 h2
theorem J_throwWI_IAE {post : Int32 → St → Prop} {is i : Nat} {tx : String} (hl0 : l.stackTraces = false) (hw : (RX11, is, tx, i) ∈ ldcL) (d0 : decode cc pc = .ok (.new 87, 3)) (d3 : decode cc (pc + 3) = .ok (.dup, 1)) (d4 : decode cc (pc + 4) = .ok (.ldc_w is, 3)) (d6 : decode cc (pc + 7) = .ok (.invokespecial 91, 3)) (d9 : decode cc (pc + 10) = .ok (.athrow, 1)) (hR : 5 < R.frames ∧ (rest.map fun v => v.category).sum + 82 ≤ R.locals ∧ k + 1 ≤ R.cells ∧ n + 6 ≤ R.slots) (hc : k + 1 ≤ mc) (hs : n + 6 ≤ ms) (h : pex IAE st) : Jg l E (CFc E) R cc nL RX11 ret XTn (QXI E post pex mc ms) k n pc lv rest st := by
  intro p e s m args below meth c sz H locs ls C hP hS hl
  have F := C.2.2.2.2.2.2.2.2.2.2.1
  refine vx_throwSW C.1 C.2.1 hl0 (own := RX11) (cls := IAE) (names := ["java/lang/RuntimeException", "java/lang/Exception"]) C.2.2.2.2.1 (by decide +kernel) (by decide +kernel) (C.2.2.2.2.2.1 _ k_722) (C.2.2.2.2.2.1 _ k_723) (F.2.2.2.2.2.2.2.1 _ hw) (vx_hat (fun w hw => C.2.2.2.2.2.1 _ (xa_91 w hw)) xb_91 (xB_use F F.2.2.2.2.2.2.2.2.2.2.2.1)) xo_91 F.2.2.2.2.2.2.2.2.1 F.2.2.2.2.2.2.2.2.2.1 hS (hl.1.trans C.2.2.2.1.symm) d0 d3 d4 d6 d9 (fun x hx => (C.2.2.2.2.2.2.2.2.2.2.2.2 x hx).elim) hR.1 (by rw [cats]; exact hR.2.1) hR.2.2.1 hR.2.2.2 C.2.2.2.2.2.2.1 ?_ hS.2.2 hc hs
  intro t hvm hsz hk
  refine ⟨st, trivial, ⟨h, hP.kept (fun k9 q9 h9 => hk q9.1 (hP k9 q9 h9).lt)⟩, Nat.le_trans hS.1 hsz, fun q9 h1 h2 => ?_⟩
  rw [hk q9 (Nat.lt_of_lt_of_le h1 hS.1)]
  exact hS.2.1 q9 h1 h2
theorem J_throwWI_NSE {post : Int32 → St → Prop} {is i : Nat} {tx : String} (hl0 : l.stackTraces = false) (hw : (RX11, is, tx, i) ∈ ldcL) (d0 : decode cc pc = .ok (.new 323, 3)) (d3 : decode cc (pc + 3) = .ok (.dup, 1)) (d4 : decode cc (pc + 4) = .ok (.ldc_w is, 3)) (d6 : decode cc (pc + 7) = .ok (.invokespecial 327, 3)) (d9 : decode cc (pc + 10) = .ok (.athrow, 1)) (hR : 5 < R.frames ∧ (rest.map fun v => v.category).sum + 82 ≤ R.locals ∧ k + 1 ≤ R.cells ∧ n + 6 ≤ R.slots) (hc : k + 1 ≤ mc) (hs : n + 6 ≤ ms) (h : pex NSE st) : Jg l E (CFc E) R cc nL RX11 ret XTn (QXI E post pex mc ms) k n pc lv rest st := by
  intro p e s m args below meth c sz H locs ls C hP hS hl
  have F := C.2.2.2.2.2.2.2.2.2.2.1
  refine vx_throwNW C.1 C.2.1 hl0 (own := RX11) (cls := NSE) (Y0 := "java/lang/RuntimeException") (names := ["java/lang/Exception"]) (ip := 13) (bp := prog_32_method_4_code) (by decide +kernel) (by decide +kernel) (by decide +kernel) (by decide +kernel) C.2.2.2.2.1 (by decide +kernel) (by decide +kernel) (by decide +kernel) (C.2.2.2.2.2.1 _ k_747) (C.2.2.2.2.2.1 _ k_748) (F.2.2.2.2.2.2.2.1 _ hw) (vx_hat (fun w hw => C.2.2.2.2.2.1 _ (xa_327 w hw)) xb_327 (xB_use F F.2.2.2.2.2.2.2.2.2.2.2.2.1)) xo_327 F.2.2.2.2.2.2.2.2.1 F.2.2.2.2.2.2.2.2.2.1 hS (hl.1.trans C.2.2.2.1.symm) d0 d3 d4 d6 d9 (fun x hx => (C.2.2.2.2.2.2.2.2.2.2.2.2 x hx).elim) hR.1 (by rw [cats]; exact hR.2.1) hR.2.2.1 hR.2.2.2 C.2.2.2.2.2.2.1 ?_ hS.2.2 hc hs
  intro t hvm hsz hk
  refine ⟨st, trivial, ⟨h, hP.kept (fun k9 q9 h9 => hk q9.1 (hP k9 q9 h9).lt)⟩, Nat.le_trans hS.1 hsz, fun q9 h1 h2 => ?_⟩
  rw [hk q9 (Nat.lt_of_lt_of_le h1 hS.1)]
  exact hS.2.1 q9 h1 h2
theorem J_throwV_IAE {post : St → Prop} {is i : Nat} {tx : String} (hl0 : l.stackTraces = false) (hw : (RX11, is, tx, i) ∈ ldcL) (d0 : decode cc pc = .ok (.new 87, 3)) (d3 : decode cc (pc + 3) = .ok (.dup, 1)) (d4 : decode cc (pc + 4) = .ok (.ldc is, 2)) (d6 : decode cc (pc + 6) = .ok (.invokespecial 91, 3)) (d9 : decode cc (pc + 9) = .ok (.athrow, 1)) (hR : 5 < R.frames ∧ (rest.map fun v => v.category).sum + 82 ≤ R.locals ∧ k + 1 ≤ R.cells ∧ n + 6 ≤ R.slots) (hc : k + 1 ≤ mc) (hs : n + 6 ≤ ms) (h : pex IAE st) : Jg l E (CFc E) R cc nL RX11 ret XTn (QXV E post pex mc ms) k n pc lv rest st := by
  intro p e s m args below meth c sz H locs ls C hP hS hl
  have F := C.2.2.2.2.2.2.2.2.2.2.1
  refine vx_throwS C.1 C.2.1 hl0 (own := RX11) (cls := IAE) (names := ["java/lang/RuntimeException", "java/lang/Exception"]) C.2.2.2.2.1 (by decide +kernel) (by decide +kernel) (C.2.2.2.2.2.1 _ k_722) (C.2.2.2.2.2.1 _ k_723) (F.2.2.2.2.2.2.2.1 _ hw) (vx_hat (fun w hw => C.2.2.2.2.2.1 _ (xa_91 w hw)) xb_91 (xB_use F F.2.2.2.2.2.2.2.2.2.2.2.1)) xo_91 F.2.2.2.2.2.2.2.2.1 F.2.2.2.2.2.2.2.2.2.1 hS (hl.1.trans C.2.2.2.1.symm) d0 d3 d4 d6 d9 (fun x hx => (C.2.2.2.2.2.2.2.2.2.2.2.2 x hx).elim) hR.1 (by rw [cats]; exact hR.2.1) hR.2.2.1 hR.2.2.2 C.2.2.2.2.2.2.1 ?_ hS.2.2 hc hs
  intro t hvm hsz hk
  refine ⟨st, trivial, ⟨h, hP.kept (fun k9 q9 h9 => hk q9.1 (hP k9 q9 h9).lt)⟩, Nat.le_trans hS.1 hsz, fun q9 h1 h2 => ?_⟩
  rw [hk q9 (Nat.lt_of_lt_of_le h1 hS.1)]
  exact hS.2.1 q9 h1 h2
theorem J_throwWV_IAE {post : St → Prop} {is i : Nat} {tx : String} (hl0 : l.stackTraces = false) (hw : (RX11, is, tx, i) ∈ ldcL) (d0 : decode cc pc = .ok (.new 87, 3)) (d3 : decode cc (pc + 3) = .ok (.dup, 1)) (d4 : decode cc (pc + 4) = .ok (.ldc_w is, 3)) (d6 : decode cc (pc + 7) = .ok (.invokespecial 91, 3)) (d9 : decode cc (pc + 10) = .ok (.athrow, 1)) (hR : 5 < R.frames ∧ (rest.map fun v => v.category).sum + 82 ≤ R.locals ∧ k + 1 ≤ R.cells ∧ n + 6 ≤ R.slots) (hc : k + 1 ≤ mc) (hs : n + 6 ≤ ms) (h : pex IAE st) : Jg l E (CFc E) R cc nL RX11 ret XTn (QXV E post pex mc ms) k n pc lv rest st := by
  intro p e s m args below meth c sz H locs ls C hP hS hl
  have F := C.2.2.2.2.2.2.2.2.2.2.1
  refine vx_throwSW C.1 C.2.1 hl0 (own := RX11) (cls := IAE) (names := ["java/lang/RuntimeException", "java/lang/Exception"]) C.2.2.2.2.1 (by decide +kernel) (by decide +kernel) (C.2.2.2.2.2.1 _ k_722) (C.2.2.2.2.2.1 _ k_723) (F.2.2.2.2.2.2.2.1 _ hw) (vx_hat (fun w hw => C.2.2.2.2.2.1 _ (xa_91 w hw)) xb_91 (xB_use F F.2.2.2.2.2.2.2.2.2.2.2.1)) xo_91 F.2.2.2.2.2.2.2.2.1 F.2.2.2.2.2.2.2.2.2.1 hS (hl.1.trans C.2.2.2.1.symm) d0 d3 d4 d6 d9 (fun x hx => (C.2.2.2.2.2.2.2.2.2.2.2.2 x hx).elim) hR.1 (by rw [cats]; exact hR.2.1) hR.2.2.1 hR.2.2.2 C.2.2.2.2.2.2.1 ?_ hS.2.2 hc hs
  intro t hvm hsz hk
  refine ⟨st, trivial, ⟨h, hP.kept (fun k9 q9 h9 => hk q9.1 (hP k9 q9 h9).lt)⟩, Nat.le_trans hS.1 hsz, fun q9 h1 h2 => ?_⟩
  rw [hk q9 (Nat.lt_of_lt_of_le h1 hS.1)]
  exact hS.2.1 q9 h1 h2
theorem J_throwWV_NSE {post : St → Prop} {is i : Nat} {tx : String} (hl0 : l.stackTraces = false) (hw : (RX11, is, tx, i) ∈ ldcL) (d0 : decode cc pc = .ok (.new 323, 3)) (d3 : decode cc (pc + 3) = .ok (.dup, 1)) (d4 : decode cc (pc + 4) = .ok (.ldc_w is, 3)) (d6 : decode cc (pc + 7) = .ok (.invokespecial 327, 3)) (d9 : decode cc (pc + 10) = .ok (.athrow, 1)) (hR : 5 < R.frames ∧ (rest.map fun v => v.category).sum + 82 ≤ R.locals ∧ k + 1 ≤ R.cells ∧ n + 6 ≤ R.slots) (hc : k + 1 ≤ mc) (hs : n + 6 ≤ ms) (h : pex NSE st) : Jg l E (CFc E) R cc nL RX11 ret XTn (QXV E post pex mc ms) k n pc lv rest st := by
  intro p e s m args below meth c sz H locs ls C hP hS hl
  have F := C.2.2.2.2.2.2.2.2.2.2.1
  refine vx_throwNW C.1 C.2.1 hl0 (own := RX11) (cls := NSE) (Y0 := "java/lang/RuntimeException") (names := ["java/lang/Exception"]) (ip := 13) (bp := prog_32_method_4_code) (by decide +kernel) (by decide +kernel) (by decide +kernel) (by decide +kernel) C.2.2.2.2.1 (by decide +kernel) (by decide +kernel) (by decide +kernel) (C.2.2.2.2.2.1 _ k_747) (C.2.2.2.2.2.1 _ k_748) (F.2.2.2.2.2.2.2.1 _ hw) (vx_hat (fun w hw => C.2.2.2.2.2.1 _ (xa_327 w hw)) xb_327 (xB_use F F.2.2.2.2.2.2.2.2.2.2.2.2.1)) xo_327 F.2.2.2.2.2.2.2.2.1 F.2.2.2.2.2.2.2.2.2.1 hS (hl.1.trans C.2.2.2.1.symm) d0 d3 d4 d6 d9 (fun x hx => (C.2.2.2.2.2.2.2.2.2.2.2.2 x hx).elim) hR.1 (by rw [cats]; exact hR.2.1) hR.2.2.1 hR.2.2.2 C.2.2.2.2.2.2.1 ?_ hS.2.2 hc hs
  intro t hvm hsz hk
  refine ⟨st, trivial, ⟨h, hP.kept (fun k9 q9 h9 => hk q9.1 (hP k9 q9 h9).lt)⟩, Nat.le_trans hS.1 hsz, fun q9 h1 h2 => ?_⟩
  rw [hk q9 (Nat.lt_of_lt_of_le h1 hS.1)]
  exact hS.2.1 q9 h1 h2
theorem J_xcvI {y : MethodName} {cc' : ByteArray} {nL' : Nat} {ret' : Option FieldType} {n' ix L mc' ms' o : Nat} {As : List Value} {post : Int32 → St → Prop} {post2 : St → Prop} {pex2 : String → St → Prop} (hM : MDv y cc' nL' ret' n') (hlk : Cond.methodLink own ix y ∈ WL) (hrec : Rc E (CFc E) o y.cls) (hn : As.length = n') (hstk : stk = As.reverse ++ .ref o :: rest) (hR : L + 1 ≤ R.frames ∧ 8 + (nL' + 11) + 64 * L ≤ R.locals) (hf : k + mc' ≤ R.cells ∧ n + ms' ≤ R.slots) (hW : (rest.map fun v => v.category).sum ≤ 8) (hdg : decode cc pc = .ok (.invokevirtual ix, 3))
    (hC : CtXV l E (CFc E) L mc' ms' y cc' nL' ret' (.ref o :: As) st post2 pex2) (hc : k + mc' ≤ mc) (hs : n + ms' ≤ ms) (hx : ∀ (X : String) (st2 : St), pex2 X st2 → pex X st2) (kk : ∀ (st2 : St), post2 st2 → Jg l E (CFc E) R cc nL own ret XTn (QXI E post pex mc ms) (k + mc') (n + ms') (pc + 3) lv rest st2) : Jg l E (CFc E) R cc nL own ret XTn (QXI E post pex mc ms) k n pc lv stk st := by
  intro p e s m args below meth c sz H locs ls C hP hS hl
  have hFc := AA_sub C.2.2.2.2.2.2.2.2.1 hS
  refine vx_callv (vx_runV (As := As.map (cv E)) (rest := rest.map (cv E)) ⟨C.1, C.2.1, C.2.2.2.1, C.2.2.2.2.1, C.2.2.2.2.2.1⟩ (hC H.size) (cw_v C.2.2.2.2.2.1 hM hlk hR) ⟨Bg_blind, hrec s H sz locs st C.2.2.2.2.2.2.2.1 C.2.2.2.2.2.2.2.2.2.2.1 hP hS, fun U hU hW => ⟨rfl, Bg_pass C hP hS hU hW⟩⟩ rfl (by rw [List.length_map]; exact hn) hl.1 (by rw [hstk, List.map_append, List.map_reverse]; rfl) (by rw [cats]; simpa using hW) hdg hf) hS (fun q _ h => hFc q h) hFc (fun q _ h => hFc q h) (fun X ce q9 u t H1 locs1 ht hvm _ hB hz1 hk1 hS1 hce hcv hcl => ?_) (fun u t H1 locs1 ht hvm hw hB hz1 hk1 hS1 => kk u hw p e s m args below meth c sz H1 locs1 ls C (by rw [← ht]; exact hB) hS1 hl)
  refine vx_out (fun x hx => (C.2.2.2.2.2.2.2.2.2.2.2.2 x hx).elim) C.2.2.2.2.2.2.1 hce hcv hcl (fun t2 ht2 hvm2 => ⟨u, trivial, ⟨hx X u hB.1, ?_⟩, hS1.F ht2⟩) hS1.2.2 hc hs
  unfold Ba
  rw [ht2, ← ht]
  exact hB.2
theorem J_xcvV {y : MethodName} {cc' : ByteArray} {nL' : Nat} {ret' : Option FieldType} {n' ix L mc' ms' o : Nat} {As : List Value} {post : St → Prop} {post2 : St → Prop} {pex2 : String → St → Prop} (hM : MDv y cc' nL' ret' n') (hlk : Cond.methodLink own ix y ∈ WL) (hrec : Rc E (CFc E) o y.cls) (hn : As.length = n') (hstk : stk = As.reverse ++ .ref o :: rest) (hR : L + 1 ≤ R.frames ∧ 8 + (nL' + 11) + 64 * L ≤ R.locals) (hf : k + mc' ≤ R.cells ∧ n + ms' ≤ R.slots) (hW : (rest.map fun v => v.category).sum ≤ 8) (hdg : decode cc pc = .ok (.invokevirtual ix, 3))
    (hC : CtXV l E (CFc E) L mc' ms' y cc' nL' ret' (.ref o :: As) st post2 pex2) (hc : k + mc' ≤ mc) (hs : n + ms' ≤ ms) (hx : ∀ (X : String) (st2 : St), pex2 X st2 → pex X st2) (kk : ∀ (st2 : St), post2 st2 → Jg l E (CFc E) R cc nL own ret XTn (QXV E post pex mc ms) (k + mc') (n + ms') (pc + 3) lv rest st2) : Jg l E (CFc E) R cc nL own ret XTn (QXV E post pex mc ms) k n pc lv stk st := by
  intro p e s m args below meth c sz H locs ls C hP hS hl
  have hFc := AA_sub C.2.2.2.2.2.2.2.2.1 hS
  refine vx_callv (vx_runV (As := As.map (cv E)) (rest := rest.map (cv E)) ⟨C.1, C.2.1, C.2.2.2.1, C.2.2.2.2.1, C.2.2.2.2.2.1⟩ (hC H.size) (cw_v C.2.2.2.2.2.1 hM hlk hR) ⟨Bg_blind, hrec s H sz locs st C.2.2.2.2.2.2.2.1 C.2.2.2.2.2.2.2.2.2.2.1 hP hS, fun U hU hW => ⟨rfl, Bg_pass C hP hS hU hW⟩⟩ rfl (by rw [List.length_map]; exact hn) hl.1 (by rw [hstk, List.map_append, List.map_reverse]; rfl) (by rw [cats]; simpa using hW) hdg hf) hS (fun q _ h => hFc q h) hFc (fun q _ h => hFc q h) (fun X ce q9 u t H1 locs1 ht hvm _ hB hz1 hk1 hS1 hce hcv hcl => ?_) (fun u t H1 locs1 ht hvm hw hB hz1 hk1 hS1 => kk u hw p e s m args below meth c sz H1 locs1 ls C (by rw [← ht]; exact hB) hS1 hl)
  refine vx_out (fun x hx => (C.2.2.2.2.2.2.2.2.2.2.2.2 x hx).elim) C.2.2.2.2.2.2.1 hce hcv hcl (fun t2 ht2 hvm2 => ⟨u, trivial, ⟨hx X u hB.1, ?_⟩, hS1.F ht2⟩) hS1.2.2 hc hs
  unfold Ba
  rw [ht2, ← ht]
  exact hB.2
end JX
