def FL (own : String) (ix ci j : Nat) : Prop := ∃ (Cn : String) (T : u_T) (N : Nat), vwCl[ci]? = some (Cn, T, N) ∧ (∀ w ∈ u_ws Cn T N, w ∈ WL) ∧ j < N ∧ (T j).1 = Cn ∧ Cond.fieldLink own ix Cn (T j).2.1 (T j).2.2.1 ∈ WL
def FP (own : String) (ix ci j : Nat) (ty : FieldType) : Prop := ∃ (Cn : String) (T : u_T) (N : Nat) (ty0 : Nat → FieldType), vwCl[ci]? = some (Cn, T, N) ∧ (∀ w ∈ u_ws Cn T N, w ∈ WL) ∧ j < N ∧ (T j).1 = Cn ∧ Cond.fieldLink own ix Cn (T j).2.1 (T j).2.2.1 ∈ WL ∧ (∀ k, k < N → parseFieldDescriptor (T k).2.2.1 = some (ty0 k)) ∧ (∀ a, a < N → ∀ b, b < N → a ≠ b → (T a).2.1 ≠ (T b).2.1) ∧ (T j).2.2.2 = false ∧ ty0 j = ty
theorem cats (E : En) (rest : List Value) : ((rest.map (cv E)).map fun v => v.category).sum = (rest.map fun v => v.category).sum := by
  rw [List.map_map]
  congr 1
  exact List.map_congr_left (fun v _ => cv_cat E v)
section JR
variable {l : Launch} {E : En} {CF : CFt} {R : Room} {cc : ByteArray} {nL : Nat} {own : String} {ret : Option FieldType} {XT : Code → Prop} {QQ : List Frame → Array Value → State → Nat → State → Prop} {k n pc : Nat} {lv : List (Nat × Value)} {rest : List Value} {st : St}
theorem J_iconst {z : Int} (v : Int32) (hdg : decode cc pc = .ok (.iconst z, 1)) (hv : Int32.ofInt z = v) (kk : Jg l E CF R cc nL own ret XT QQ k n (pc + 1) (lv) (.int v :: rest) st) : Jg l E CF R cc nL own ret XT QQ k n (pc) (lv) (rest) st := by
  intro p e s m args below meth c sz H locs ls C hP hS hl
  exact lv_iconst C.1 C.2.1 hdg hv (kk p e s m args below meth c sz H locs ls C hP hS hl)
theorem J_bipush {z : Int} (v : Int32) (hdg : decode cc pc = .ok (.bipush z, 2)) (hv : (Int8.ofInt z).toInt32 = v) (kk : Jg l E CF R cc nL own ret XT QQ k n (pc + 2) (lv) (.int v :: rest) st) : Jg l E CF R cc nL own ret XT QQ k n (pc) (lv) (rest) st := by
  intro p e s m args below meth c sz H locs ls C hP hS hl
  exact lv_bipush C.1 C.2.1 hdg hv (kk p e s m args below meth c sz H locs ls C hP hS hl)
theorem J_sipush {z : Int} (v : Int32) (hdg : decode cc pc = .ok (.sipush z, 3)) (hv : (Int16.ofInt z).toInt32 = v) (kk : Jg l E CF R cc nL own ret XT QQ k n (pc + 3) (lv) (.int v :: rest) st) : Jg l E CF R cc nL own ret XT QQ k n (pc) (lv) (rest) st := by
  intro p e s m args below meth c sz H locs ls C hP hS hl
  exact lv_sipush C.1 C.2.1 hdg hv (kk p e s m args below meth c sz H locs ls C hP hS hl)
theorem J_lconst {z : Fin 2} (v : Int64) (hdg : decode cc pc = .ok (.lconst z, 1)) (hv : Int64.ofNat (z : Nat) = v) (kk : Jg l E CF R cc nL own ret XT QQ k n (pc + 1) (lv) (.long v :: rest) st) : Jg l E CF R cc nL own ret XT QQ k n (pc) (lv) (rest) st := by
  intro p e s m args below meth c sz H locs ls C hP hS hl
  exact lv_lconst C.1 C.2.1 hdg hv (kk p e s m args below meth c sz H locs ls C hP hS hl)
theorem J_ldc {ix : Nat} {v : Int32} (hw : Cond.constant own ix v ∈ WL) (hdg : decode cc pc = .ok (.ldc ix, 2)) (kk : Jg l E CF R cc nL own ret XT QQ k n (pc + 2) (lv) (.int v :: rest) st) : Jg l E CF R cc nL own ret XT QQ k n (pc) (lv) (rest) st := by
  intro p e s m args below meth c sz H locs ls C hP hS hl
  exact lv_ldc C.1 C.2.1 C.2.2.2.2.1 (C.2.2.2.2.2.1 _ hw) hdg (kk p e s m args below meth c sz H locs ls C hP hS hl)
theorem J_ldcw {ix : Nat} {v : Int32} (hw : Cond.constant own ix v ∈ WL) (hdg : decode cc pc = .ok (.ldc_w ix, 3)) (kk : Jg l E CF R cc nL own ret XT QQ k n (pc + 3) (lv) (.int v :: rest) st) : Jg l E CF R cc nL own ret XT QQ k n (pc) (lv) (rest) st := by
  intro p e s m args below meth c sz H locs ls C hP hS hl
  exact lv_ldcw C.1 C.2.1 C.2.2.2.2.1 (C.2.2.2.2.2.1 _ hw) hdg (kk p e s m args below meth c sz H locs ls C hP hS hl)
theorem J_ldc2 {ix : Nat} {v : Int64} (hw : Cond.constantLong own ix v ∈ WL) (hdg : decode cc pc = .ok (.ldc2_w ix, 3)) (kk : Jg l E CF R cc nL own ret XT QQ k n (pc + 3) (lv) (.long v :: rest) st) : Jg l E CF R cc nL own ret XT QQ k n (pc) (lv) (rest) st := by
  intro p e s m args below meth c sz H locs ls C hP hS hl
  exact lv_ldc2 C.1 C.2.1 C.2.2.2.2.1 (C.2.2.2.2.2.1 _ hw) hdg (kk p e s m args below meth c sz H locs ls C hP hS hl)
theorem J_iload_n {z : Fin 4} {i : Nat} {x : Int32} (j : Nat) (hdg : decode cc pc = .ok (.iload_n z, 1)) (hi : (z : Nat) = i) (hj : lv[j]? = some (i, .int x)) (kk : Jg l E CF R cc nL own ret XT QQ k n (pc + 1) (lv) (.int x :: rest) st) : Jg l E CF R cc nL own ret XT QQ k n (pc) (lv) (rest) st := by
  intro p e s m args below meth c sz H locs ls C hP hS hl
  exact lv_iload_n C.1 C.2.1 hdg hi (lv_at hl j (lvc_at hj)) (kk p e s m args below meth c sz H locs ls C hP hS hl)
theorem J_iload {i : Nat} {x : Int32} (j : Nat) (hdg : decode cc pc = .ok (.iload i, 2)) (hj : lv[j]? = some (i, .int x)) (kk : Jg l E CF R cc nL own ret XT QQ k n (pc + 2) (lv) (.int x :: rest) st) : Jg l E CF R cc nL own ret XT QQ k n (pc) (lv) (rest) st := by
  intro p e s m args below meth c sz H locs ls C hP hS hl
  exact lv_iload C.1 C.2.1 hdg (lv_at hl j (lvc_at hj)) (kk p e s m args below meth c sz H locs ls C hP hS hl)
theorem J_istore_n {z : Fin 4} {i : Nat} {x : Int32} (lv2 : List (Nat × Value)) (hdg : decode cc pc = .ok (.istore_n z, 1)) (hi : (z : Nat) = i) (hn : i < nL) (h2 : lvs i (.int x) lv = lv2) (kk : Jg l E CF R cc nL own ret XT QQ k n (pc + 1) (lv2) (rest) st) : Jg l E CF R cc nL own ret XT QQ k n (pc) (lv) (.int x :: rest) st := by
  intro p e s m args below meth c sz H locs ls C hP hS hl
  subst h2
  exact lv_istore_n C.1 C.2.1 hdg hi hl hn (lvc_set (E := E) (lv := lv) (i := i) (v := .int x)) (fun ls hl => kk p e s m args below meth c sz H locs ls C hP hS hl)
theorem J_istore {i : Nat} {x : Int32} (lv2 : List (Nat × Value)) (hdg : decode cc pc = .ok (.istore i, 2)) (hn : i < nL) (h2 : lvs i (.int x) lv = lv2) (kk : Jg l E CF R cc nL own ret XT QQ k n (pc + 2) (lv2) (rest) st) : Jg l E CF R cc nL own ret XT QQ k n (pc) (lv) (.int x :: rest) st := by
  intro p e s m args below meth c sz H locs ls C hP hS hl
  subst h2
  exact lv_istore C.1 C.2.1 hdg hl hn (lvc_set (E := E) (lv := lv) (i := i) (v := .int x)) (fun ls hl => kk p e s m args below meth c sz H locs ls C hP hS hl)
theorem J_aload_n {z : Fin 4} {i : Nat} {x : Nat} (j : Nat) (hdg : decode cc pc = .ok (.aload_n z, 1)) (hi : (z : Nat) = i) (hj : lv[j]? = some (i, .ref x)) (kk : Jg l E CF R cc nL own ret XT QQ k n (pc + 1) (lv) (.ref x :: rest) st) : Jg l E CF R cc nL own ret XT QQ k n (pc) (lv) (rest) st := by
  intro p e s m args below meth c sz H locs ls C hP hS hl
  exact lv_aload_n C.1 C.2.1 hdg hi (lv_at hl j (lvc_at hj)) (kk p e s m args below meth c sz H locs ls C hP hS hl)
theorem J_aload {i : Nat} {x : Nat} (j : Nat) (hdg : decode cc pc = .ok (.aload i, 2)) (hj : lv[j]? = some (i, .ref x)) (kk : Jg l E CF R cc nL own ret XT QQ k n (pc + 2) (lv) (.ref x :: rest) st) : Jg l E CF R cc nL own ret XT QQ k n (pc) (lv) (rest) st := by
  intro p e s m args below meth c sz H locs ls C hP hS hl
  exact lv_aload C.1 C.2.1 hdg (lv_at hl j (lvc_at hj)) (kk p e s m args below meth c sz H locs ls C hP hS hl)
theorem J_astore_n {z : Fin 4} {i : Nat} {x : Nat} (lv2 : List (Nat × Value)) (hdg : decode cc pc = .ok (.astore_n z, 1)) (hi : (z : Nat) = i) (hn : i < nL) (h2 : lvs i (.ref x) lv = lv2) (kk : Jg l E CF R cc nL own ret XT QQ k n (pc + 1) (lv2) (rest) st) : Jg l E CF R cc nL own ret XT QQ k n (pc) (lv) (.ref x :: rest) st := by
  intro p e s m args below meth c sz H locs ls C hP hS hl
  subst h2
  exact lv_astore_n C.1 C.2.1 hdg hi hl hn (lvc_set (E := E) (lv := lv) (i := i) (v := .ref x)) (fun ls hl => kk p e s m args below meth c sz H locs ls C hP hS hl)
theorem J_astore {i : Nat} {x : Nat} (lv2 : List (Nat × Value)) (hdg : decode cc pc = .ok (.astore i, 2)) (hn : i < nL) (h2 : lvs i (.ref x) lv = lv2) (kk : Jg l E CF R cc nL own ret XT QQ k n (pc + 2) (lv2) (rest) st) : Jg l E CF R cc nL own ret XT QQ k n (pc) (lv) (.ref x :: rest) st := by
  intro p e s m args below meth c sz H locs ls C hP hS hl
  subst h2
  exact lv_astore C.1 C.2.1 hdg hl hn (lvc_set (E := E) (lv := lv) (i := i) (v := .ref x)) (fun ls hl => kk p e s m args below meth c sz H locs ls C hP hS hl)
theorem J_lload_n {z : Fin 4} {i : Nat} {x : Int64} (j : Nat) (hdg : decode cc pc = .ok (.lload_n z, 1)) (hi : (z : Nat) = i) (hj : lv[j]? = some (i, .long x)) (kk : Jg l E CF R cc nL own ret XT QQ k n (pc + 1) (lv) (.long x :: rest) st) : Jg l E CF R cc nL own ret XT QQ k n (pc) (lv) (rest) st := by
  intro p e s m args below meth c sz H locs ls C hP hS hl
  exact lv_lload_n C.1 C.2.1 hdg hi (lv_at hl j (lvc_at hj)) (kk p e s m args below meth c sz H locs ls C hP hS hl)
theorem J_lload {i : Nat} {x : Int64} (j : Nat) (hdg : decode cc pc = .ok (.lload i, 2)) (hj : lv[j]? = some (i, .long x)) (kk : Jg l E CF R cc nL own ret XT QQ k n (pc + 2) (lv) (.long x :: rest) st) : Jg l E CF R cc nL own ret XT QQ k n (pc) (lv) (rest) st := by
  intro p e s m args below meth c sz H locs ls C hP hS hl
  exact lv_lload C.1 C.2.1 hdg (lv_at hl j (lvc_at hj)) (kk p e s m args below meth c sz H locs ls C hP hS hl)
theorem J_aload_nQ {z : Fin 4} {i : Nat} {x : Option Nat} (j : Nat) (hdg : decode cc pc = .ok (.aload_n z, 1)) (hi : (z : Nat) = i) (hj : lv[j]? = some (i, va_rf x)) (kk : Jg l E CF R cc nL own ret XT QQ k n (pc + 1) (lv) (va_rf x :: rest) st) : Jg l E CF R cc nL own ret XT QQ k n (pc) (lv) (rest) st := by
  intro p e s m args below meth c sz H locs ls C hP hS hl
  have h1 := lv_at hl j (lvc_at (E := E) hj)
  have h2 := kk p e s m args below meth c sz H locs ls C hP hS hl
  cases x with
  | none => exact lv_aload_nN C.1 C.2.1 hdg hi h1 h2
  | some x => exact lv_aload_n C.1 C.2.1 hdg hi h1 h2
theorem J_aloadQ {i : Nat} {x : Option Nat} (j : Nat) (hdg : decode cc pc = .ok (.aload i, 2)) (hj : lv[j]? = some (i, va_rf x)) (kk : Jg l E CF R cc nL own ret XT QQ k n (pc + 2) (lv) (va_rf x :: rest) st) : Jg l E CF R cc nL own ret XT QQ k n (pc) (lv) (rest) st := by
  intro p e s m args below meth c sz H locs ls C hP hS hl
  have h1 := lv_at hl j (lvc_at (E := E) hj)
  have h2 := kk p e s m args below meth c sz H locs ls C hP hS hl
  cases x with
  | none => exact lv_aloadN C.1 C.2.1 hdg h1 h2
  | some x => exact lv_aload C.1 C.2.1 hdg h1 h2
theorem J_astore_nQ {z : Fin 4} {i : Nat} {x : Option Nat} (lv2 : List (Nat × Value)) (hdg : decode cc pc = .ok (.astore_n z, 1)) (hi : (z : Nat) = i) (hn : i < nL) (h2 : lvs i (va_rf x) lv = lv2) (kk : Jg l E CF R cc nL own ret XT QQ k n (pc + 1) (lv2) (rest) st) : Jg l E CF R cc nL own ret XT QQ k n (pc) (lv) (va_rf x :: rest) st := by
  intro p e s m args below meth c sz H locs ls C hP hS hl
  subst h2
  cases x with
  | none => exact lv_astore_nN C.1 C.2.1 hdg hi hl hn (lvc_set (E := E) (lv := lv) (i := i) (v := .null)) (fun ls hl => kk p e s m args below meth c sz H locs ls C hP hS hl)
  | some x => exact lv_astore_n C.1 C.2.1 hdg hi hl hn (lvc_set (E := E) (lv := lv) (i := i) (v := .ref x)) (fun ls hl => kk p e s m args below meth c sz H locs ls C hP hS hl)
theorem J_astoreQ {i : Nat} {x : Option Nat} (lv2 : List (Nat × Value)) (hdg : decode cc pc = .ok (.astore i, 2)) (hn : i < nL) (h2 : lvs i (va_rf x) lv = lv2) (kk : Jg l E CF R cc nL own ret XT QQ k n (pc + 2) (lv2) (rest) st) : Jg l E CF R cc nL own ret XT QQ k n (pc) (lv) (va_rf x :: rest) st := by
  intro p e s m args below meth c sz H locs ls C hP hS hl
  subst h2
  cases x with
  | none => exact lv_astoreN C.1 C.2.1 hdg hl hn (lvc_set (E := E) (lv := lv) (i := i) (v := .null)) (fun ls hl => kk p e s m args below meth c sz H locs ls C hP hS hl)
  | some x => exact lv_astore C.1 C.2.1 hdg hl hn (lvc_set (E := E) (lv := lv) (i := i) (v := .ref x)) (fun ls hl => kk p e s m args below meth c sz H locs ls C hP hS hl)
theorem J_some {x : Option Nat} {i : Nat} (hx : x = some i) (kk : Jg l E CF R cc nL own ret XT QQ k n (pc) (lv) (.ref i :: rest) st) : Jg l E CF R cc nL own ret XT QQ k n (pc) (lv) (va_rf x :: rest) st := by
  intro p e s m args below meth c sz H locs ls C hP hS hl
  subst hx
  exact kk p e s m args below meth c sz H locs ls C hP hS hl
theorem J_iinc {i : Nat} {z : Int} {x : Int32} (j : Nat) (v : Int32) (lv2 : List (Nat × Value)) (hdg : decode cc pc = .ok (.iinc i z, 3)) (hj : lv[j]? = some (i, .int x)) (hv : x + Int32.ofInt z = v) (hn : i < nL) (h2 : lvs i (.int v) lv = lv2) (kk : Jg l E CF R cc nL own ret XT QQ k n (pc + 3) (lv2) (rest) st) : Jg l E CF R cc nL own ret XT QQ k n (pc) (lv) (rest) st := by
  intro p e s m args below meth c sz H locs ls C hP hS hl
  subst h2
  exact lv_iinc C.1 C.2.1 hdg hl (k := j) (lvc_at hj) hv hn (lvc_set (E := E) (lv := lv) (i := i) (v := .int v)) (fun ls hl => kk p e s m args below meth c sz H locs ls C hP hS hl)
theorem J_iadd {x y : Int32} (hdg : decode cc pc = .ok (.iadd, 1)) (kk : Jg l E CF R cc nL own ret XT QQ k n (pc + 1) (lv) (.int (x + y) :: rest) st) : Jg l E CF R cc nL own ret XT QQ k n (pc) (lv) (.int y :: .int x :: rest) st := by
  intro p e s m args below meth c sz H locs ls C hP hS hl
  exact lv_iadd C.1 C.2.1 hdg (kk p e s m args below meth c sz H locs ls C hP hS hl)
theorem J_isub {x y : Int32} (hdg : decode cc pc = .ok (.isub, 1)) (kk : Jg l E CF R cc nL own ret XT QQ k n (pc + 1) (lv) (.int (x - y) :: rest) st) : Jg l E CF R cc nL own ret XT QQ k n (pc) (lv) (.int y :: .int x :: rest) st := by
  intro p e s m args below meth c sz H locs ls C hP hS hl
  exact lv_isub C.1 C.2.1 hdg (kk p e s m args below meth c sz H locs ls C hP hS hl)
theorem J_imul {x y : Int32} (hdg : decode cc pc = .ok (.imul, 1)) (kk : Jg l E CF R cc nL own ret XT QQ k n (pc + 1) (lv) (.int (x * y) :: rest) st) : Jg l E CF R cc nL own ret XT QQ k n (pc) (lv) (.int y :: .int x :: rest) st := by
  intro p e s m args below meth c sz H locs ls C hP hS hl
  exact lv_imul C.1 C.2.1 hdg (kk p e s m args below meth c sz H locs ls C hP hS hl)
theorem J_iand {x y : Int32} (hdg : decode cc pc = .ok (.iand, 1)) (kk : Jg l E CF R cc nL own ret XT QQ k n (pc + 1) (lv) (.int (x &&& y) :: rest) st) : Jg l E CF R cc nL own ret XT QQ k n (pc) (lv) (.int y :: .int x :: rest) st := by
  intro p e s m args below meth c sz H locs ls C hP hS hl
  exact lv_iand C.1 C.2.1 hdg (kk p e s m args below meth c sz H locs ls C hP hS hl)
theorem J_ior {x y : Int32} (hdg : decode cc pc = .ok (.ior, 1)) (kk : Jg l E CF R cc nL own ret XT QQ k n (pc + 1) (lv) (.int (x ||| y) :: rest) st) : Jg l E CF R cc nL own ret XT QQ k n (pc) (lv) (.int y :: .int x :: rest) st := by
  intro p e s m args below meth c sz H locs ls C hP hS hl
  exact lv_ior C.1 C.2.1 hdg (kk p e s m args below meth c sz H locs ls C hP hS hl)
theorem J_ixor {x y : Int32} (hdg : decode cc pc = .ok (.ixor, 1)) (kk : Jg l E CF R cc nL own ret XT QQ k n (pc + 1) (lv) (.int (x ^^^ y) :: rest) st) : Jg l E CF R cc nL own ret XT QQ k n (pc) (lv) (.int y :: .int x :: rest) st := by
  intro p e s m args below meth c sz H locs ls C hP hS hl
  exact lv_ixor C.1 C.2.1 hdg (kk p e s m args below meth c sz H locs ls C hP hS hl)
theorem J_ishl {x y : Int32} (hdg : decode cc pc = .ok (.ishl, 1)) (kk : Jg l E CF R cc nL own ret XT QQ k n (pc + 1) (lv) (.int (x <<< (y &&& 31)) :: rest) st) : Jg l E CF R cc nL own ret XT QQ k n (pc) (lv) (.int y :: .int x :: rest) st := by
  intro p e s m args below meth c sz H locs ls C hP hS hl
  exact lv_ishl C.1 C.2.1 hdg (kk p e s m args below meth c sz H locs ls C hP hS hl)
theorem J_ishr {x y : Int32} (hdg : decode cc pc = .ok (.ishr, 1)) (kk : Jg l E CF R cc nL own ret XT QQ k n (pc + 1) (lv) (.int (x >>> (y &&& 31)) :: rest) st) : Jg l E CF R cc nL own ret XT QQ k n (pc) (lv) (.int y :: .int x :: rest) st := by
  intro p e s m args below meth c sz H locs ls C hP hS hl
  exact lv_ishr C.1 C.2.1 hdg (kk p e s m args below meth c sz H locs ls C hP hS hl)
theorem J_idiv {x y : Int32} (hdg : decode cc pc = .ok (.idiv, 1)) (h0 : ¬ y = 0) (kk : Jg l E CF R cc nL own ret XT QQ k n (pc + 1) (lv) (.int (x / y) :: rest) st) : Jg l E CF R cc nL own ret XT QQ k n (pc) (lv) (.int y :: .int x :: rest) st := by
  intro p e s m args below meth c sz H locs ls C hP hS hl
  exact lv_idiv C.1 C.2.1 hdg h0 (kk p e s m args below meth c sz H locs ls C hP hS hl)
theorem J_irem {x y : Int32} (hdg : decode cc pc = .ok (.irem, 1)) (h0 : ¬ y = 0) (kk : Jg l E CF R cc nL own ret XT QQ k n (pc + 1) (lv) (.int (x - x / y * y) :: rest) st) : Jg l E CF R cc nL own ret XT QQ k n (pc) (lv) (.int y :: .int x :: rest) st := by
  intro p e s m args below meth c sz H locs ls C hP hS hl
  exact lv_irem C.1 C.2.1 hdg h0 (kk p e s m args below meth c sz H locs ls C hP hS hl)
theorem J_iushr {x y : Int32} (hdg : decode cc pc = .ok (.iushr, 1)) (kk : Jg l E CF R cc nL own ret XT QQ k n (pc + 1) (lv) (.int (x.toUInt32 >>> (y.toUInt32 &&& Int32.toUInt32 31)).toInt32 :: rest) st) : Jg l E CF R cc nL own ret XT QQ k n (pc) (lv) (.int y :: .int x :: rest) st := by
  intro p e s m args below meth c sz H locs ls C hP hS hl
  exact lv_iushr C.1 C.2.1 hdg rfl (kk p e s m args below meth c sz H locs ls C hP hS hl)
theorem J_i2l {x : Int32} (hdg : decode cc pc = .ok (.i2l, 1)) (kk : Jg l E CF R cc nL own ret XT QQ k n (pc + 1) (lv) (.long x.toInt64 :: rest) st) : Jg l E CF R cc nL own ret XT QQ k n (pc) (lv) (.int x :: rest) st := by
  intro p e s m args below meth c sz H locs ls C hP hS hl
  exact lv_i2l C.1 C.2.1 hdg rfl (kk p e s m args below meth c sz H locs ls C hP hS hl)
theorem J_i2c {x : Int32} (hdg : decode cc pc = .ok (.i2c, 1)) (kk : Jg l E CF R cc nL own ret XT QQ k n (pc + 1) (lv) (.int (x.toUInt32 % 65536).toInt32 :: rest) st) : Jg l E CF R cc nL own ret XT QQ k n (pc) (lv) (.int x :: rest) st := by
  intro p e s m args below meth c sz H locs ls C hP hS hl
  exact lv_i2c C.1 C.2.1 hdg rfl (kk p e s m args below meth c sz H locs ls C hP hS hl)
theorem J_i2b {x : Int32} (hdg : decode cc pc = .ok (.i2b, 1)) (kk : Jg l E CF R cc nL own ret XT QQ k n (pc + 1) (lv) (.int x.toInt8.toInt32 :: rest) st) : Jg l E CF R cc nL own ret XT QQ k n (pc) (lv) (.int x :: rest) st := by
  intro p e s m args below meth c sz H locs ls C hP hS hl
  exact lv_i2b C.1 C.2.1 hdg rfl (kk p e s m args below meth c sz H locs ls C hP hS hl)
theorem J_lcmp {x y : Int64} (hdg : decode cc pc = .ok (.lcmp, 1)) (kk : Jg l E CF R cc nL own ret XT QQ k n (pc + 1) (lv) (.int (lg_cmp x y) :: rest) st) : Jg l E CF R cc nL own ret XT QQ k n (pc) (lv) (.long y :: .long x :: rest) st := by
  intro p e s m args below meth c sz H locs ls C hP hS hl
  exact W.lcmp C.1 C.2.1 hdg (kk p e s m args below meth c sz H locs ls C hP hS hl)
theorem J_dup {va : Value} (hdg : decode cc pc = .ok (.dup, 1)) (hc : va.category = 1) (kk : Jg l E CF R cc nL own ret XT QQ k n (pc + 1) (lv) (va :: va :: rest) st) : Jg l E CF R cc nL own ret XT QQ k n (pc) (lv) (va :: rest) st := by
  intro p e s m args below meth c sz H locs ls C hP hS hl
  exact lv_dup C.1 C.2.1 hdg (by rw [cv_cat]; exact hc) (kk p e s m args below meth c sz H locs ls C hP hS hl)
theorem J_pop {va : Value} (hdg : decode cc pc = .ok (.pop, 1)) (hc : va.category = 1) (kk : Jg l E CF R cc nL own ret XT QQ k n (pc + 1) (lv) (rest) st) : Jg l E CF R cc nL own ret XT QQ k n (pc) (lv) (va :: rest) st := by
  intro p e s m args below meth c sz H locs ls C hP hS hl
  exact lv_pop C.1 C.2.1 hdg (by rw [cv_cat]; exact hc) (kk p e s m args below meth c sz H locs ls C hP hS hl)
theorem J_dup2 {va vb : Value} (hdg : decode cc pc = .ok (.dup2, 1)) (hc : va.category = 1) (hc2 : vb.category = 1) (kk : Jg l E CF R cc nL own ret XT QQ k n (pc + 1) (lv) (va :: vb :: va :: vb :: rest) st) : Jg l E CF R cc nL own ret XT QQ k n (pc) (lv) (va :: vb :: rest) st := by
  intro p e s m args below meth c sz H locs ls C hP hS hl
  exact lv_dup2_11 C.1 C.2.1 hdg (by rw [cv_cat]; exact hc) (by rw [cv_cat]; exact hc2) (kk p e s m args below meth c sz H locs ls C hP hS hl)
theorem J_null (hdg : decode cc pc = .ok (.aconst_null, 1)) (kk : Jg l E CF R cc nL own ret XT QQ k n (pc + 1) (lv) (va_rf none :: rest) st) : Jg l E CF R cc nL own ret XT QQ k n (pc) (lv) (rest) st := by
  intro p e s m args below meth c sz H locs ls C hP hS hl
  exact lv_null C.1 C.2.1 hdg (kk p e s m args below meth c sz H locs ls C hP hS hl)
theorem J_if_eq {x : Int32} {off : Int} (tgt : Nat) (hdg : decode cc pc = .ok (.ifCond .eq off, 3)) (ht : (pc : Int) + off = (tgt : Int)) (kt : x = 0 → Jg l E CF R cc nL own ret XT QQ k n (tgt) (lv) (rest) st) (kf : ¬ x = 0 → Jg l E CF R cc nL own ret XT QQ k n (pc + 3) (lv) (rest) st) : Jg l E CF R cc nL own ret XT QQ k n (pc) (lv) (.int x :: rest) st := by
  intro p e s m args below meth c sz H locs ls C hP hS hl
  exact lv_if_eq C.1 C.2.1 hdg ht (fun h => kt h p e s m args below meth c sz H locs ls C hP hS hl) (fun h => kf h p e s m args below meth c sz H locs ls C hP hS hl)
theorem J_if_ne {x : Int32} {off : Int} (tgt : Nat) (hdg : decode cc pc = .ok (.ifCond .ne off, 3)) (ht : (pc : Int) + off = (tgt : Int)) (kt : ¬ x = 0 → Jg l E CF R cc nL own ret XT QQ k n (tgt) (lv) (rest) st) (kf : x = 0 → Jg l E CF R cc nL own ret XT QQ k n (pc + 3) (lv) (rest) st) : Jg l E CF R cc nL own ret XT QQ k n (pc) (lv) (.int x :: rest) st := by
  intro p e s m args below meth c sz H locs ls C hP hS hl
  exact lv_if_ne C.1 C.2.1 hdg ht (fun h => kt h p e s m args below meth c sz H locs ls C hP hS hl) (fun h => kf h p e s m args below meth c sz H locs ls C hP hS hl)
theorem J_if_lt {x : Int32} {off : Int} (tgt : Nat) (hdg : decode cc pc = .ok (.ifCond .lt off, 3)) (ht : (pc : Int) + off = (tgt : Int)) (kt : x < 0 → Jg l E CF R cc nL own ret XT QQ k n (tgt) (lv) (rest) st) (kf : ¬ x < 0 → Jg l E CF R cc nL own ret XT QQ k n (pc + 3) (lv) (rest) st) : Jg l E CF R cc nL own ret XT QQ k n (pc) (lv) (.int x :: rest) st := by
  intro p e s m args below meth c sz H locs ls C hP hS hl
  exact lv_if_lt C.1 C.2.1 hdg ht (fun h => kt h p e s m args below meth c sz H locs ls C hP hS hl) (fun h => kf h p e s m args below meth c sz H locs ls C hP hS hl)
theorem J_if_ge {x : Int32} {off : Int} (tgt : Nat) (hdg : decode cc pc = .ok (.ifCond .ge off, 3)) (ht : (pc : Int) + off = (tgt : Int)) (kt : 0 ≤ x → Jg l E CF R cc nL own ret XT QQ k n (tgt) (lv) (rest) st) (kf : ¬ 0 ≤ x → Jg l E CF R cc nL own ret XT QQ k n (pc + 3) (lv) (rest) st) : Jg l E CF R cc nL own ret XT QQ k n (pc) (lv) (.int x :: rest) st := by
  intro p e s m args below meth c sz H locs ls C hP hS hl
  exact lv_if_ge C.1 C.2.1 hdg ht (fun h => kt h p e s m args below meth c sz H locs ls C hP hS hl) (fun h => kf h p e s m args below meth c sz H locs ls C hP hS hl)
theorem J_if_gt {x : Int32} {off : Int} (tgt : Nat) (hdg : decode cc pc = .ok (.ifCond .gt off, 3)) (ht : (pc : Int) + off = (tgt : Int)) (kt : 0 < x → Jg l E CF R cc nL own ret XT QQ k n (tgt) (lv) (rest) st) (kf : ¬ 0 < x → Jg l E CF R cc nL own ret XT QQ k n (pc + 3) (lv) (rest) st) : Jg l E CF R cc nL own ret XT QQ k n (pc) (lv) (.int x :: rest) st := by
  intro p e s m args below meth c sz H locs ls C hP hS hl
  exact lv_if_gt C.1 C.2.1 hdg ht (fun h => kt h p e s m args below meth c sz H locs ls C hP hS hl) (fun h => kf h p e s m args below meth c sz H locs ls C hP hS hl)
theorem J_if_le {x : Int32} {off : Int} (tgt : Nat) (hdg : decode cc pc = .ok (.ifCond .le off, 3)) (ht : (pc : Int) + off = (tgt : Int)) (kt : x ≤ 0 → Jg l E CF R cc nL own ret XT QQ k n (tgt) (lv) (rest) st) (kf : ¬ x ≤ 0 → Jg l E CF R cc nL own ret XT QQ k n (pc + 3) (lv) (rest) st) : Jg l E CF R cc nL own ret XT QQ k n (pc) (lv) (.int x :: rest) st := by
  intro p e s m args below meth c sz H locs ls C hP hS hl
  exact lv_if_le C.1 C.2.1 hdg ht (fun h => kt h p e s m args below meth c sz H locs ls C hP hS hl) (fun h => kf h p e s m args below meth c sz H locs ls C hP hS hl)
theorem J_icmp_eq {x y : Int32} {off : Int} (tgt : Nat) (hdg : decode cc pc = .ok (.if_icmp .eq off, 3)) (ht : (pc : Int) + off = (tgt : Int)) (kt : x = y → Jg l E CF R cc nL own ret XT QQ k n (tgt) (lv) (rest) st) (kf : ¬ x = y → Jg l E CF R cc nL own ret XT QQ k n (pc + 3) (lv) (rest) st) : Jg l E CF R cc nL own ret XT QQ k n (pc) (lv) (.int y :: .int x :: rest) st := by
  intro p e s m args below meth c sz H locs ls C hP hS hl
  exact lv_icmp_eq C.1 C.2.1 hdg ht (fun h => kt h p e s m args below meth c sz H locs ls C hP hS hl) (fun h => kf h p e s m args below meth c sz H locs ls C hP hS hl)
theorem J_icmp_ne {x y : Int32} {off : Int} (tgt : Nat) (hdg : decode cc pc = .ok (.if_icmp .ne off, 3)) (ht : (pc : Int) + off = (tgt : Int)) (kt : ¬ x = y → Jg l E CF R cc nL own ret XT QQ k n (tgt) (lv) (rest) st) (kf : x = y → Jg l E CF R cc nL own ret XT QQ k n (pc + 3) (lv) (rest) st) : Jg l E CF R cc nL own ret XT QQ k n (pc) (lv) (.int y :: .int x :: rest) st := by
  intro p e s m args below meth c sz H locs ls C hP hS hl
  exact lv_icmp_ne C.1 C.2.1 hdg ht (fun h => kt h p e s m args below meth c sz H locs ls C hP hS hl) (fun h => kf h p e s m args below meth c sz H locs ls C hP hS hl)
theorem J_icmp_lt {x y : Int32} {off : Int} (tgt : Nat) (hdg : decode cc pc = .ok (.if_icmp .lt off, 3)) (ht : (pc : Int) + off = (tgt : Int)) (kt : x < y → Jg l E CF R cc nL own ret XT QQ k n (tgt) (lv) (rest) st) (kf : ¬ x < y → Jg l E CF R cc nL own ret XT QQ k n (pc + 3) (lv) (rest) st) : Jg l E CF R cc nL own ret XT QQ k n (pc) (lv) (.int y :: .int x :: rest) st := by
  intro p e s m args below meth c sz H locs ls C hP hS hl
  exact lv_icmp_lt C.1 C.2.1 hdg ht (fun h => kt h p e s m args below meth c sz H locs ls C hP hS hl) (fun h => kf h p e s m args below meth c sz H locs ls C hP hS hl)
theorem J_icmp_ge {x y : Int32} {off : Int} (tgt : Nat) (hdg : decode cc pc = .ok (.if_icmp .ge off, 3)) (ht : (pc : Int) + off = (tgt : Int)) (kt : y ≤ x → Jg l E CF R cc nL own ret XT QQ k n (tgt) (lv) (rest) st) (kf : ¬ y ≤ x → Jg l E CF R cc nL own ret XT QQ k n (pc + 3) (lv) (rest) st) : Jg l E CF R cc nL own ret XT QQ k n (pc) (lv) (.int y :: .int x :: rest) st := by
  intro p e s m args below meth c sz H locs ls C hP hS hl
  exact lv_icmp_ge C.1 C.2.1 hdg ht (fun h => kt h p e s m args below meth c sz H locs ls C hP hS hl) (fun h => kf h p e s m args below meth c sz H locs ls C hP hS hl)
theorem J_icmp_gt {x y : Int32} {off : Int} (tgt : Nat) (hdg : decode cc pc = .ok (.if_icmp .gt off, 3)) (ht : (pc : Int) + off = (tgt : Int)) (kt : y < x → Jg l E CF R cc nL own ret XT QQ k n (tgt) (lv) (rest) st) (kf : ¬ y < x → Jg l E CF R cc nL own ret XT QQ k n (pc + 3) (lv) (rest) st) : Jg l E CF R cc nL own ret XT QQ k n (pc) (lv) (.int y :: .int x :: rest) st := by
  intro p e s m args below meth c sz H locs ls C hP hS hl
  exact lv_icmp_gt C.1 C.2.1 hdg ht (fun h => kt h p e s m args below meth c sz H locs ls C hP hS hl) (fun h => kf h p e s m args below meth c sz H locs ls C hP hS hl)
theorem J_icmp_le {x y : Int32} {off : Int} (tgt : Nat) (hdg : decode cc pc = .ok (.if_icmp .le off, 3)) (ht : (pc : Int) + off = (tgt : Int)) (kt : x ≤ y → Jg l E CF R cc nL own ret XT QQ k n (tgt) (lv) (rest) st) (kf : ¬ x ≤ y → Jg l E CF R cc nL own ret XT QQ k n (pc + 3) (lv) (rest) st) : Jg l E CF R cc nL own ret XT QQ k n (pc) (lv) (.int y :: .int x :: rest) st := by
  intro p e s m args below meth c sz H locs ls C hP hS hl
  exact lv_icmp_le C.1 C.2.1 hdg ht (fun h => kt h p e s m args below meth c sz H locs ls C hP hS hl) (fun h => kf h p e s m args below meth c sz H locs ls C hP hS hl)
theorem J_goto {off : Int} (tgt : Nat) (hdg : decode cc pc = .ok (.goto off, 3)) (ht : (pc : Int) + off = (tgt : Int)) (kk : Jg l E CF R cc nL own ret XT QQ k n (tgt) (lv) (rest) st) : Jg l E CF R cc nL own ret XT QQ k n (pc) (lv) (rest) st := by
  intro p e s m args below meth c sz H locs ls C hP hS hl
  exact lv_goto C.1 C.2.1 hdg ht (kk p e s m args below meth c sz H locs ls C hP hS hl)
theorem J_tsOut {dflt lo hi : Int} {offs : Array Int} {len : Nat} {x : Int32} (tgt : Nat) (hdg : decode cc pc = .ok (.tableswitch dflt lo hi offs, len)) (h : x.toInt < lo ∨ hi < x.toInt) (ht : (pc : Int) + dflt = (tgt : Int)) (kk : Jg l E CF R cc nL own ret XT QQ k n (tgt) (lv) (rest) st) : Jg l E CF R cc nL own ret XT QQ k n (pc) (lv) (.int x :: rest) st := by
  intro p e s m args below meth c sz H locs ls C hP hS hl
  exact lv_tableOut C.1 C.2.1 hdg h ht (kk p e s m args below meth c sz H locs ls C hP hS hl)
theorem J_tsIn {dflt lo hi : Int} {offs : Array Int} {len : Nat} {x : Int32} {off : Int} (tgt : Nat) (z : Int) (hdg : decode cc pc = .ok (.tableswitch dflt lo hi offs, len)) (hz : x.toInt = z) (h1 : ¬ z < lo) (h2 : ¬ hi < z) (ho : offs[(z - lo).toNat]? = some off) (ht : (pc : Int) + off = (tgt : Int)) (kk : Jg l E CF R cc nL own ret XT QQ k n (tgt) (lv) (rest) st) : Jg l E CF R cc nL own ret XT QQ k n (pc) (lv) (.int x :: rest) st := by
  intro p e s m args below meth c sz H locs ls C hP hS hl
  subst hz
  exact lv_tableIn C.1 C.2.1 hdg h1 h2 ho ht (kk p e s m args below meth c sz H locs ls C hP hS hl)
theorem J_lsw {dflt : Int} {ps : Array (Int × Int)} {len : Nat} {x : Int32} {off : Int} (tgt : Nat) (hdg : decode cc pc = .ok (.lookupswitch dflt ps, len)) (hp : (ps.toList.zip (ps.toList.drop 1)).all (fun (a, next) => a.1 < next.1) = true) (ho : Op.lookupswitch.offset ps.toList dflt x.toInt = off) (ht : (pc : Int) + off = (tgt : Int)) (kk : Jg l E CF R cc nL own ret XT QQ k n (tgt) (lv) (rest) st) : Jg l E CF R cc nL own ret XT QQ k n (pc) (lv) (.int x :: rest) st := by
  intro p e s m args below meth c sz H locs ls C hP hS hl
  exact lv_lookup C.1 C.2.1 hdg hp ho ht (kk p e s m args below meth c sz H locs ls C hP hS hl)
theorem J_ifnull {x : Option Nat} {off : Int} (tgt : Nat) (hdg : decode cc pc = .ok (.ifnull off, 3)) (ht : (pc : Int) + off = (tgt : Int)) (kt : x = none → Jg l E CF R cc nL own ret XT QQ k n (tgt) (lv) (rest) st) (kf : ∀ i, x = some i → Jg l E CF R cc nL own ret XT QQ k n (pc + 3) (lv) (rest) st) : Jg l E CF R cc nL own ret XT QQ k n (pc) (lv) (va_rf x :: rest) st := by
  intro p e s m args below meth c sz H locs ls C hP hS hl
  cases x with
  | none => exact lv_ifnullN C.1 C.2.1 hdg ht (kt rfl p e s m args below meth c sz H locs ls C hP hS hl)
  | some i => exact lv_ifnull C.1 C.2.1 hdg (kf i rfl p e s m args below meth c sz H locs ls C hP hS hl)
theorem J_ifnonnull {x : Option Nat} {off : Int} (tgt : Nat) (hdg : decode cc pc = .ok (.ifnonnull off, 3)) (ht : (pc : Int) + off = (tgt : Int)) (kt : ∀ i, x = some i → Jg l E CF R cc nL own ret XT QQ k n (tgt) (lv) (rest) st) (kf : x = none → Jg l E CF R cc nL own ret XT QQ k n (pc + 3) (lv) (rest) st) : Jg l E CF R cc nL own ret XT QQ k n (pc) (lv) (va_rf x :: rest) st := by
  intro p e s m args below meth c sz H locs ls C hP hS hl
  cases x with
  | none => exact lv_ifnonnullN C.1 C.2.1 hdg (kf rfl p e s m args below meth c sz H locs ls C hP hS hl)
  | some i => exact lv_ifnonnull C.1 C.2.1 hdg ht (kt i rfl p e s m args below meth c sz H locs ls C hP hS hl)
theorem J_getI {o ci j ix : Nat} (hF : FL own ix ci j) (hdg : decode cc pc = .ok (.getfield ix, 3)) (hf : fk o ci j = some 0) (kk : Jg l E CF R cc nL own ret XT QQ k n (pc + 3) (lv) (.int (gI st o j) :: rest) st) : Jg l E CF R cc nL own ret XT QQ k n (pc) (lv) (.ref o :: rest) st := by
  intro p e s m args below meth c sz H locs ls C hP hS hl
  obtain ⟨Cn, T, N, hcl, hin, hj, hT, hw⟩ := hF
  obtain ⟨fl, ho, hk⟩ := fk_obj hf
  refine va_get (ws := wl E st) C.1 C.2.1 C.2.2.2.2.2.1 hin C.2.2.2.2.1 C.2.2.2.2.2.2.2.1 hP o (fs := fvs E st o 0 fl) ?_ hcl j hj (C.2.2.2.2.2.1 _ hw) (fun x h => by rw [hT] at h; exact h) (v := .int (gI st o j)) ?_ hdg (kk p e s m args below meth c sz H locs ls C hP hS hl)
  · rw [wl_get E st (tbe_lt ho (by decide)), cel_obj ho]
  · rw [fvs_get, hk, Option.map_some, Nat.zero_add]; rfl
theorem J_getR {o ci j ix : Nat} (hF : FL own ix ci j) (hdg : decode cc pc = .ok (.getfield ix, 3)) {r : Nat} (hf : rv st o ci j = some r) (kk : Jg l E CF R cc nL own ret XT QQ k n (pc + 3) (lv) (.ref r :: rest) st) : Jg l E CF R cc nL own ret XT QQ k n (pc) (lv) (.ref o :: rest) st := by
  intro p e s m args below meth c sz H locs ls C hP hS hl
  obtain ⟨Cn, T, N, hcl, hin, hj, hT, hw⟩ := hF
  have hff : ∃ f, fk o ci j = some f ∧ fv E st o f j = .ref (eA E r) := by
    unfold rv at hf
    split at hf
    · rename_i r2 h2
      cases hf
      exact ⟨_, h2, rfl⟩
    · rename_i h2
      exact ⟨_, h2, by simp only [fv, hf, Option.map_some, va_rf]⟩
    · cases hf
  obtain ⟨f, hf2, hv⟩ := hff
  obtain ⟨fl, ho, hk⟩ := fk_obj hf2
  refine va_get (ws := wl E st) C.1 C.2.1 C.2.2.2.2.2.1 hin C.2.2.2.2.1 C.2.2.2.2.2.2.2.1 hP o (fs := fvs E st o 0 fl) ?_ hcl j hj (C.2.2.2.2.2.1 _ hw) (fun x h => by rw [hT] at h; exact h) (v := .ref (eA E r)) ?_ hdg (kk p e s m args below meth c sz H locs ls C hP hS hl)
  · rw [wl_get E st (tbe_lt ho (by decide)), cel_obj ho]
  · rw [fvs_get, hk, Option.map_some, Nat.zero_add, hv]
theorem J_getQ {o ci j ix : Nat} (hF : FL own ix ci j) (hdg : decode cc pc = .ok (.getfield ix, 3)) (hf : fk o ci j = some 1) (kk : Jg l E CF R cc nL own ret XT QQ k n (pc + 3) (lv) (va_rf (gR st o j) :: rest) st) : Jg l E CF R cc nL own ret XT QQ k n (pc) (lv) (.ref o :: rest) st := by
  intro p e s m args below meth c sz H locs ls C hP hS hl
  obtain ⟨Cn, T, N, hcl, hin, hj, hT, hw⟩ := hF
  obtain ⟨fl, ho, hk⟩ := fk_obj hf
  have h2 := kk p e s m args below meth c sz H locs ls C hP hS hl
  rw [List.map_cons, cv_rf] at h2
  refine va_get (ws := wl E st) C.1 C.2.1 C.2.2.2.2.2.1 hin C.2.2.2.2.1 C.2.2.2.2.2.2.2.1 hP o (fs := fvs E st o 0 fl) ?_ hcl j hj (C.2.2.2.2.2.1 _ hw) (fun x h => by rw [hT] at h; exact h) (v := va_rf ((gR st o j).map (eA E))) ?_ hdg h2
  · rw [wl_get E st (tbe_lt ho (by decide)), cel_obj ho]
  · rw [fvs_get, hk, Option.map_some, Nat.zero_add]; rfl
theorem J_putI {o ci j ix : Nat} {ty : FieldType} (hF : FP own ix ci j ty) (hdg : decode cc pc = .ok (.putfield ix, 3)) {v : Int32} (hint : ty = .int) (hf : fk o ci j = some 0) (kk : Jg l E CF R cc nL own ret XT QQ k n (pc + 3) (lv) (rest) (sI st o j v)) : Jg l E CF R cc nL own ret XT QQ k n (pc) (lv) (.int v :: .ref o :: rest) st := by
  intro p e s m args below meth c sz H locs ls C hP hS hl
  obtain ⟨Cn, T, N, ty0, hcl, hin, hj, hT, hw, hty, hnm, hfin, rfl⟩ := hF
  obtain ⟨fl, ho, hk⟩ := fk_obj hf
  refine va_put (ws := wl E st) C.1 C.2.1 C.2.2.2.2.2.1 hin ty0 hty hnm C.2.2.2.2.1 C.2.2.2.2.2.2.2.1 hP (wl_D C.2.2.2.2.2.2.2.2.2.1 sz st) hS o (fs := fvs E st o 0 fl) ?_ hcl j hj (C.2.2.2.2.2.1 _ hw) (fun x h => by rw [hT] at h; exact h) hfin (v := .int v) (hty j hj) ?_ ?_ (by rw [fvs_len]; exact (List.getElem?_eq_some_iff.mp hk).1) hdg (fun H1 locs1 hP1 _ hS1 => kk p e s m args below meth c sz H1 locs1 ls C ?_ hS1 hl)
  · rw [wl_get E st (tbe_lt ho (by decide)), cel_obj ho]
  · rw [hint]; rfl
  · rw [hint]; rfl
  · rw [wl_sI ho hk] at hP1
    exact hP1
theorem J_putZ {o ci j ix : Nat} {ty : FieldType} (hF : FP own ix ci j ty) (hdg : decode cc pc = .ok (.putfield ix, 3)) {v : Int32} (hint : ty = .boolean) (hv : v = 0 ∨ v = 1) (hf : fk o ci j = some 0) (kk : Jg l E CF R cc nL own ret XT QQ k n (pc + 3) (lv) (rest) (sI st o j v)) : Jg l E CF R cc nL own ret XT QQ k n (pc) (lv) (.int v :: .ref o :: rest) st := by
  intro p e s m args below meth c sz H locs ls C hP hS hl
  obtain ⟨Cn, T, N, ty0, hcl, hin, hj, hT, hw, hty, hnm, hfin, rfl⟩ := hF
  obtain ⟨fl, ho, hk⟩ := fk_obj hf
  refine va_put (ws := wl E st) C.1 C.2.1 C.2.2.2.2.2.1 hin ty0 hty hnm C.2.2.2.2.1 C.2.2.2.2.2.2.2.1 hP (wl_D C.2.2.2.2.2.2.2.2.2.1 sz st) hS o (fs := fvs E st o 0 fl) ?_ hcl j hj (C.2.2.2.2.2.1 _ hw) (fun x h => by rw [hT] at h; exact h) hfin (v := .int v) (hty j hj) ?_ ?_ (by rw [fvs_len]; exact (List.getElem?_eq_some_iff.mp hk).1) hdg (fun H1 locs1 hP1 _ hS1 => kk p e s m args below meth c sz H1 locs1 ls C ?_ hS1 hl)
  · rw [wl_get E st (tbe_lt ho (by decide)), cel_obj ho]
  · rw [hint]; rcases hv with rfl | rfl <;> rfl
  · rw [hint]; rcases hv with rfl | rfl <;> rfl
  · rw [wl_sI ho hk] at hP1
    exact hP1
theorem J_putQ {o ci j ix : Nat} {ty : FieldType} (hF : FP own ix ci j ty) (hdg : decode cc pc = .ok (.putfield ix, 3)) {v : Option Nat} (hq : (∃ q, ty = .object q) ∨ ∃ q, ty = .array q) (hf : fk o ci j = some 1) (kk : Jg l E CF R cc nL own ret XT QQ k n (pc + 3) (lv) (rest) (sR st o j v)) : Jg l E CF R cc nL own ret XT QQ k n (pc) (lv) (va_rf v :: .ref o :: rest) st := by
  intro p e s m args below meth c sz H locs ls C hP hS hl
  obtain ⟨Cn, T, N, ty0, hcl, hin, hj, hT, hw, hty, hnm, hfin, rfl⟩ := hF
  obtain ⟨fl, ho, hk⟩ := fk_obj hf
  rw [List.map_cons, cv_rf]
  refine va_put (ws := wl E st) C.1 C.2.1 C.2.2.2.2.2.1 hin ty0 hty hnm C.2.2.2.2.1 C.2.2.2.2.2.2.2.1 hP (wl_D C.2.2.2.2.2.2.2.2.2.1 sz st) hS o (fs := fvs E st o 0 fl) ?_ hcl j hj (C.2.2.2.2.2.1 _ hw) (fun x h => by rw [hT] at h; exact h) hfin (v := va_rf (v.map (eA E))) (hty j hj) ?_ ?_ (by rw [fvs_len]; exact (List.getElem?_eq_some_iff.mp hk).1) hdg (fun H1 locs1 hP1 _ hS1 => kk p e s m args below meth c sz H1 locs1 ls C ?_ hS1 hl)
  · rw [wl_get E st (tbe_lt ho (by decide)), cel_obj ho]
  · rcases hq with ⟨q, hq⟩ | ⟨q, hq⟩ <;> rw [hq] <;> cases v <;> rfl
  · rcases hq with ⟨q, hq⟩ | ⟨q, hq⟩ <;> rw [hq] <;> cases v <;> rfl
  · rw [wl_sR ho hk] at hP1
    exact hP1
theorem J_iald {a : Nat} {i : Int32} (hdg : decode cc pc = .ok (.iaload, 1)) (hi : vp_in i (al 0 a)) (kk : Jg l E CF R cc nL own ret XT QQ k n (pc + 1) (lv) (.int (gA st a i.toNatClampNeg) :: rest) st) : Jg l E CF R cc nL own ret XT QQ k n (pc) (lv) (.int i :: .ref a :: rest) st := by
  intro p e s m args below meth c sz H locs ls C hP hS hl
  obtain ⟨x, ha⟩ := al_in hi
  exact va_iald (ws := wl E st) C.1 C.2.1 C.2.2.2.2.2.2.2.1 hP a 0 (by rw [wl_get E st (tbe_lt ha (by decide)), cel_int ha]) rfl hi hdg (kk p e s m args below meth c sz H locs ls C hP hS hl)
theorem J_zald {a : Nat} {i : Int32} (hdg : decode cc pc = .ok (.baload, 1)) (hi : vp_in i (al 1 a)) (kk : Jg l E CF R cc nL own ret XT QQ k n (pc + 1) (lv) (.int (gA st a i.toNatClampNeg) :: rest) st) : Jg l E CF R cc nL own ret XT QQ k n (pc) (lv) (.int i :: .ref a :: rest) st := by
  intro p e s m args below meth c sz H locs ls C hP hS hl
  obtain ⟨x, ha⟩ := al_in hi
  exact va_zald (ws := wl E st) C.1 C.2.1 C.2.2.2.2.2.2.2.1 hP a 1 (by rw [wl_get E st (tbe_lt ha (by decide)), cel_boo ha]) rfl hi hdg (kk p e s m args below meth c sz H locs ls C hP hS hl)
theorem J_lald {a : Nat} {i : Int32} (hdg : decode cc pc = .ok (.laload, 1)) (hi : vp_in i (al 2 a)) (kk : Jg l E CF R cc nL own ret XT QQ k n (pc + 1) (lv) (.long (gL st a i.toNatClampNeg) :: rest) st) : Jg l E CF R cc nL own ret XT QQ k n (pc) (lv) (.int i :: .ref a :: rest) st := by
  intro p e s m args below meth c sz H locs ls C hP hS hl
  obtain ⟨x, ha⟩ := al_in hi
  exact va_lald (ws := wl E st) C.1 C.2.1 C.2.2.2.2.2.2.2.1 hP a 2 (by rw [wl_get E st (tbe_lt ha (by decide)), cel_lon ha]) rfl hi hdg (kk p e s m args below meth c sz H locs ls C hP hS hl)
theorem J_aald {a r : Nat} {i : Int32} (hdg : decode cc pc = .ok (.aaload, 1)) (hi : vp_in i (al 3 a)) (hr : (tbe a).2.2[i.toNatClampNeg]? = some r) (kk : Jg l E CF R cc nL own ret XT QQ k n (pc + 1) (lv) (.ref r :: rest) st) : Jg l E CF R cc nL own ret XT QQ k n (pc) (lv) (.int i :: .ref a :: rest) st := by
  intro p e s m args below meth c sz H locs ls C hP hS hl
  obtain ⟨x, ha⟩ := al_in hi
  have hr2 : x[i.toNatClampNeg]? = some r := by rw [ha] at hr; exact hr
  refine va_aldq (ws := wl E st) C.1 C.2.1 C.2.2.2.2.2.2.2.1 hP a 3 (by rw [wl_get E st (tbe_lt ha (by decide)), cel_str ha]) rfl hi hdg ?_
  rw [hr2]
  exact kk p e s m args below meth c sz H locs ls C hP hS hl
theorem J_iast {a : Nat} {i x : Int32} (hdg : decode cc pc = .ok (.iastore, 1)) (hi : vp_in i (al 0 a)) (kk : Jg l E CF R cc nL own ret XT QQ k n (pc + 1) (lv) (rest) (sA st a i.toNatClampNeg x)) : Jg l E CF R cc nL own ret XT QQ k n (pc) (lv) (.int x :: .int i :: .ref a :: rest) st := by
  intro p e s m args below meth c sz H locs ls C hP hS hl
  obtain ⟨y, ha⟩ := al_in hi
  refine va_iast (ws := wl E st) C.1 C.2.1 C.2.2.2.2.2.2.2.1 hP (wl_D C.2.2.2.2.2.2.2.2.2.1 sz st) hS a 0 (by rw [wl_get E st (tbe_lt ha (by decide)), cel_int ha]) rfl hi hdg (fun H1 locs1 hP1 _ hS1 => kk p e s m args below meth c sz H1 locs1 ls C ?_ hS1 hl)
  rw [wl_sF ha] at hP1
  exact hP1
theorem J_zast {a : Nat} {i x : Int32} (hdg : decode cc pc = .ok (.bastore, 1)) (hi : vp_in i (al 1 a)) (hx : x = 0 ∨ x = 1) (kk : Jg l E CF R cc nL own ret XT QQ k n (pc + 1) (lv) (rest) (sA st a i.toNatClampNeg x)) : Jg l E CF R cc nL own ret XT QQ k n (pc) (lv) (.int x :: .int i :: .ref a :: rest) st := by
  intro p e s m args below meth c sz H locs ls C hP hS hl
  obtain ⟨y, ha⟩ := al_in hi
  refine va_zast (ws := wl E st) C.1 C.2.1 C.2.2.2.2.2.2.2.1 hP (wl_D C.2.2.2.2.2.2.2.2.2.1 sz st) hS a 1 (by rw [wl_get E st (tbe_lt ha (by decide)), cel_boo ha]) rfl hi hdg (fun H1 locs1 hP1 _ hS1 => kk p e s m args below meth c sz H1 locs1 ls C ?_ hS1 hl)
  have hnx : vp_nar .boolean x = x := by rcases hx with rfl | rfl <;> rfl
  rw [hnx, wl_sZ ha] at hP1
  exact hP1
theorem J_last {a : Nat} {i : Int32} {x : Int64} (hdg : decode cc pc = .ok (.lastore, 1)) (hi : vp_in i (al 2 a)) (kk : Jg l E CF R cc nL own ret XT QQ k n (pc + 1) (lv) (rest) (sL st a i.toNatClampNeg x)) : Jg l E CF R cc nL own ret XT QQ k n (pc) (lv) (.long x :: .int i :: .ref a :: rest) st := by
  intro p e s m args below meth c sz H locs ls C hP hS hl
  obtain ⟨y, ha⟩ := al_in hi
  refine va_last (ws := wl E st) C.1 C.2.1 C.2.2.2.2.2.2.2.1 hP (wl_D C.2.2.2.2.2.2.2.2.2.1 sz st) hS a 2 (by rw [wl_get E st (tbe_lt ha (by decide)), cel_lon ha]) rfl hi hdg (fun H1 locs1 hP1 _ hS1 => kk p e s m args below meth c sz H1 locs1 ls C ?_ hS1 hl)
  rw [wl_sL ha] at hP1
  exact hP1
theorem J_alenI {a : Nat} (hdg : decode cc pc = .ok (.arraylength, 1)) (ha0 : 0 < al 0 a) (kk : Jg l E CF R cc nL own ret XT QQ k n (pc + 1) (lv) (.int (Int32.ofNat (al 0 a)) :: rest) st) : Jg l E CF R cc nL own ret XT QQ k n (pc) (lv) (.ref a :: rest) st := by
  intro p e s m args below meth c sz H locs ls C hP hS hl
  obtain ⟨x, ha⟩ := al_pos ha0
  exact va_alen (ws := wl E st) C.1 C.2.1 C.2.2.2.2.2.2.2.1 hP a 0 (x := (al 0 a, .inl (gA st a))) (by rw [wl_get E st (tbe_lt ha (by decide)), cel_int ha]) (ty := .int) rfl rfl hdg (kk p e s m args below meth c sz H locs ls C hP hS hl)
theorem J_alenS {a : Nat} (hdg : decode cc pc = .ok (.arraylength, 1)) (ha0 : 0 < al 3 a) (kk : Jg l E CF R cc nL own ret XT QQ k n (pc + 1) (lv) (.int (Int32.ofNat (al 3 a)) :: rest) st) : Jg l E CF R cc nL own ret XT QQ k n (pc) (lv) (.ref a :: rest) st := by
  intro p e s m args below meth c sz H locs ls C hP hS hl
  obtain ⟨x, ha⟩ := al_pos ha0
  exact va_alen (ws := wl E st) C.1 C.2.1 C.2.2.2.2.2.2.2.1 hP a 3 (x := (al 3 a, .inr (.inr (.inr (.inr (fun j => (x[j]?).map (eA E))))))) (by rw [wl_get E st (tbe_lt ha (by decide)), cel_str ha]) (ty := .object "java/lang/String") rfl rfl hdg (kk p e s m args below meth c sz H locs ls C hP hS hl)
theorem J_mmax {ix : Nat} {x y : Int32} (hw : Cond.methodLink own ix Lib.Math.max.name ∈ WL) (hw2 : Cond.static Lib.Math.max.name ∈ WL) (hw3 : Cond.initialized "java/lang/Math" ∈ WL) (hw4 : Cond.code Lib.Math.max.name Lib.Math.max.code 2 (some .int) ∈ WL) (hR : 1 ≤ R.frames ∧ (rest.map fun v => v.category).sum + 13 ≤ R.locals ∧ k ≤ R.cells ∧ n ≤ R.slots) (hdg : decode cc pc = .ok (.invokestatic ix, 3)) (kk : Jg l E CF R cc nL own ret XT QQ k n (pc + 3) (lv) (.int (if x < y then y else x) :: rest) st) : Jg l E CF R cc nL own ret XT QQ k n (pc) (lv) (.int y :: .int x :: rest) st := by
  intro p e s m args below meth c sz H locs ls C hP hS hl
  exact va_mmax C.1 C.2.1 (C.2.2.2.1.trans hl.1.symm) C.2.2.2.2.1 (C.2.2.2.2.2.1 _ hw) (C.2.2.2.2.2.1 _ hw2) (C.2.2.2.2.2.1 _ hw3) (C.2.2.2.2.2.1 _ hw4) hR.1 (by rw [cats]; exact hR.2.1) hR.2.2.1 hR.2.2.2 hdg (kk p e s m args below meth c sz H locs ls C hP hS hl)
theorem J_mmin {ix : Nat} {x y : Int32} (hw : Cond.methodLink own ix Lib.Math.min.name ∈ WL) (hw2 : Cond.static Lib.Math.min.name ∈ WL) (hw3 : Cond.initialized "java/lang/Math" ∈ WL) (hw4 : Cond.code Lib.Math.min.name Lib.Math.min.code 2 (some .int) ∈ WL) (hR : 1 ≤ R.frames ∧ (rest.map fun v => v.category).sum + 13 ≤ R.locals ∧ k ≤ R.cells ∧ n ≤ R.slots) (hdg : decode cc pc = .ok (.invokestatic ix, 3)) (kk : Jg l E CF R cc nL own ret XT QQ k n (pc + 3) (lv) (.int (if y < x then y else x) :: rest) st) : Jg l E CF R cc nL own ret XT QQ k n (pc) (lv) (.int y :: .int x :: rest) st := by
  intro p e s m args below meth c sz H locs ls C hP hS hl
  exact va_mmin C.1 C.2.1 (C.2.2.2.1.trans hl.1.symm) C.2.2.2.2.1 (C.2.2.2.2.2.1 _ hw) (C.2.2.2.2.2.1 _ hw2) (C.2.2.2.2.2.1 _ hw3) (C.2.2.2.2.2.1 _ hw4) hR.1 (by rw [cats]; exact hR.2.1) hR.2.2.1 hR.2.2.2 hdg (kk p e s m args below meth c sz H locs ls C hP hS hl)
theorem J_copy {ix a0 a1 : Nat} {sp dp z : Int32} (hw : Cond.methodLink own ix arraycopyName ∈ WL) (hw1 : Cond.native arraycopyName ∈ WL) (hw2 : Cond.static arraycopyName ∈ WL) (hw3 : Cond.initialized "java/lang/System" ∈ WL) (hR : 1 ≤ R.frames ∧ (rest.map fun v => v.category).sum + 64 ≤ R.locals) (hdg : decode cc pc = .ok (.invokestatic ix, 3)) (h1 : ¬ sp < 0) (h2 : ¬ dp < 0) (h3 : ¬ z < 0) (p0 : 0 < al 0 a0) (p1 : 0 < al 0 a1) (h4 : sp.toNatClampNeg + z.toNatClampNeg ≤ al 0 a0) (h5 : dp.toNatClampNeg + z.toNatClampNeg ≤ al 0 a1) (kk : Jg l E CF R cc nL own ret XT QQ k n (pc + 3) (lv) (rest) (sF st a1 (va_cpy (gA st a0) (gA st a1) sp.toNatClampNeg dp.toNatClampNeg z.toNatClampNeg))) : Jg l E CF R cc nL own ret XT QQ k n (pc) (lv) (.int z :: .int dp :: .ref a1 :: .int sp :: .ref a0 :: rest) st := by
  intro p e s m args below meth c sz H locs ls C hP hS hl
  obtain ⟨y0, ha0⟩ := al_pos p0
  obtain ⟨y1, ha1⟩ := al_pos p1
  refine va_copyi (ws := wl E st) C.1 C.2.1 (C.2.2.2.1.trans hl.1.symm) C.2.2.2.2.1 (C.2.2.2.2.2.1 _ hw) (C.2.2.2.2.2.1 _ hw1) (C.2.2.2.2.2.1 _ hw2) (C.2.2.2.2.2.1 _ hw3) C.2.2.2.2.2.2.2.1 hP (wl_D C.2.2.2.2.2.2.2.2.2.1 sz st) hS a0 a1 0 0 (ty := .int) (by rw [wl_get E st (tbe_lt ha0 (by decide)), cel_int ha0]) (by rw [wl_get E st (tbe_lt ha1 (by decide)), cel_int ha1]) rfl rfl rfl h1 h2 h3 h4 h5 (fun _ _ => rfl) hR.1 (by rw [cats]; exact Nat.le_trans (Nat.add_le_add_left (by decide +kernel) _) hR.2) hdg (fun H1 locs1 hP1 _ hS1 => kk p e s m args below meth c sz H1 locs1 ls C ?_ hS1 hl)
  rw [wl_sF ha1] at hP1
  exact hP1
theorem J_lv {lv2 : List (Nat × Value)} (ks : List Nat) (h2 : lv_pick lv ks = lv2) (kk : Jg l E CF R cc nL own ret XT QQ k n (pc) (lv2) (rest) st) : Jg l E CF R cc nL own ret XT QQ k n (pc) (lv) (rest) st := by
  intro p e s m args below meth c sz H locs ls C hP hS hl
  subst h2
  refine kk p e s m args below meth c sz H locs ls C hP hS (lv_sub hl ks ?_)
  simp only [lv_pick, lvc, List.getElem?_map]
  rw [List.map_filterMap]
theorem J_widen {k2 n2 : Nat} (h1 : k ≤ k2) (h2 : n ≤ n2) (kk : Jg l E CF R cc nL own ret XT QQ k2 n2 pc lv rest st) : Jg l E CF R cc nL own ret XT QQ k n pc lv rest st := by
  intro p e s m args below meth c sz H locs ls C hP hS hl
  exact W.widen h1 h2 (kk p e s m args below meth c sz H locs ls C hP hS hl)
end JR
