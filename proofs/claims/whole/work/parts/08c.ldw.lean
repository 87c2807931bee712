section JKW
variable {l : Launch} {E : En} {R : Room} {cc : ByteArray} {nL : Nat} {own : String} {ret : Option FieldType} {XT : Code → Prop} {QQ : List Frame → Array Value → State → Nat → State → Prop} {k n pc : Nat} {lv : List (Nat × Value)} {rest : List Value} {st : St}
theorem J_ldSw {ix i : Nat} {tx : String} (hw : (own, ix, tx, i) ∈ ldcL) (hdg : decode cc pc = .ok (.ldc_w ix, 3)) (kk : Jg l E (CFc E) R cc nL own ret XT QQ k n (pc + 3) (lv) (.ref i :: rest) st) : Jg l E (CFc E) R cc nL own ret XT QQ k n (pc) (lv) (rest) st := by
  intro p e s m args below meth c sz H locs ls C hP hS hl
  have F := C.2.2.2.2.2.2.2.2.2.2.1
  have hZ := F.2.2.2.2.2.2.2.1 _ hw
  have k1 := kk p e s m args below meth c sz H locs ls C hP hS hl
  intro T hT X
  obtain ⟨t, a1, b1⟩ := k1 T hT X
  exact ⟨t, X.ldcStringW C.1 C.2.2.2.2.1 hZ.1 hZ.2 (g := F0 m pc ls (rest.map (cv E))) rfl (by rw [C.2.1]; exact hdg) t a1, b1⟩
end JKW
