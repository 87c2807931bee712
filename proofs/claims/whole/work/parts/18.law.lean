def R_law : String := "GivenAwayLaw"
def lw_P (b : Addr) (xs : List Int32) (args : Array Value) (s : State) : Prop := args = #[.ref b] ∧ s.IntsAt b xs ∧ xs.length ≤ 3072 ∧ (Jvm.Cond.and given_1 narrow_1).before args s = true
def lw_Q (_ : Array Value) (s : State) (o : Outcome) (t : State) : Prop := o = .returned (some (.int 1)) ∧ Framed s o t [] 601024 7293034
def lw_Z (below : List Frame) (a : Array Value) (s : State) : State → Prop := fun t => ∃ o, t.status = .running ∧ Ended t below o ∧ lw_Q a s o t
/-- the law's own end, with 1 on the stack, nothing written that was there before, its room as the claim has it -/
theorem lw_ret {p : Program} {l : Launch} {e : Env} {s : State} {m : MethodId} {below : List Frame} {meth : Method} {c : Code} {b : Nat} (hx : p.tables.exec = Jvm.exec) (hb : c.code = code) (hr : meth.sig.returnType = ret) (hlocks : meth.locks = false) {pc : Nat} {H : Heap} {ls : Array Slot} (hdg : decode code pc = .ok (.ireturn, 1)) : W p l e room_1 s m #[Value.ref b] below meth c H [] 601024 7293034 (lw_Z below #[Value.ref b] s) (F0 m pc ls [.int 1]) := by
  intro T hT X
  obtain ⟨fs, hret, hrun, hended, hW, hframe⟩ := X.leave (v := some (.int 1)) (hlocks := hlocks) (fun h => by rw [hr] at h; cases h)
  have hmeth' : T.vm.method? m = some meth := X.method'
  refine ⟨T.setFrames fs, ?_, .returned (some (.int 1)), hrun, hended, rfl, ⟨_, rfl⟩, hW, hframe⟩
  jvm_step X.here [X.here.top, hx, hb, hdg, hmeth', hr, ret, narrow_b1]
  (try refine ⟨rfl, ?_⟩); (try refine ⟨rfl, ?_⟩)
  first | (intro acts; rw [hret _ acts rfl rfl rfl]) | rw [hret _ _ rfl rfl rfl]
  exact Steps.refl _
/-- what holds at the law's entry: the machine, the code, the tables' words (any of lw_tbl by 'hts w (by decide +kernel)'), the script of L ints xs at the cell b, what the Statement gives of the start (any of its parts by flat_of_before) -/
def lw_At (p : Program) (s : State) (m : MethodId) (meth : Method) (c : Code) (b L : Nat) (xs : Nat → Int32) : Prop :=
  p.tables.exec = Jvm.exec ∧ c.code = code ∧ meth.sig.returnType = ret ∧ c.maxLocals = 7 ∧ s.vm.findClass R_law = some m.cls ∧ (∀ w ∈ lw_tbl, w.before #[Value.ref b] s = true) ∧ va_X b L xs s s.heap ∧ b < s.heap.size ∧ meth.locks = false ∧ (Jvm.Cond.and given_1 narrow_1).before #[Value.ref b] s = true
/-! the loop -/
def CFs (E : En) (L : Nat) (xs : Nat → Int32) : CFt := fun A U H => CFc E A U H ∧ va_X (eA E 1300) L xs U H ∧ ¬ A (eA E 1300)
theorem CFs_c {E : En} {L : Nat} {xs : Nat → Int32} : ∀ A U H, CFs E L xs A U H → CFc E A U H := fun _ _ _ h => h.1
theorem va_X_lt {b L : Nat} {xs : Nat → Int32} {U : State} {H : Heap} (h : va_X b L xs U H) : b < H.size := by
  obtain ⟨scr, h1, _⟩ := h
  exact (Array.getElem?_eq_some_iff.mp h1).1
theorem CFs_ok (E : En) (L : Nat) (xs : Nat → Int32) : CFok (CFs E L xs) := by
  obtain ⟨c1, c2, c3, c4⟩ := CFc_ok E
  refine ⟨fun A u U H hv h => ⟨c1 A u U H hv h.1, h.2.1.moved (by rw [hv]; exact Vm.Alike.refl _), h.2.2⟩, fun A s U H hW h => ⟨c2 A s U H hW h.1, h.2.1.moved hW.alike, h.2.2⟩, fun A U H H1 hq h => ⟨c3 A U H H1 hq h.1, h.2.1.kept (hq _ (va_X_lt h.2.1) h.2.2), h.2.2⟩, fun A B U H hAB h => ⟨c4 A B U H hAB h.1, h.2.1, fun hb => h.2.2 (hAB _ hb)⟩⟩
def QL (B : Nat) : List Frame → Array Value → State → Nat → State → Prop := fun below args s sz t => sz = B → lw_Z below args s t
def SL (L : Nat) (xs : Nat → Int32) (j v : Int32) : Prop := vp_in j L ∧ xs j.toNatClampNeg = v
section JS
variable {l : Launch} {E : En} {L : Nat} {xs : Nat → Int32} {R : Room} {cc : ByteArray} {nL : Nat} {own : String} {ret : Option FieldType} {XT : Code → Prop} {QQ : List Frame → Array Value → State → Nat → State → Prop} {k n pc : Nat} {lv : List (Nat × Value)} {rest : List Value} {st : St}
theorem J_sld {j v : Int32} (hs : SL L xs j v) (hdg : decode cc pc = .ok (.iaload, 1)) (kk : Jg l E (CFs E L xs) R cc nL own ret XT QQ k n (pc + 1) lv (.int v :: rest) st) : Jg l E (CFs E L xs) R cc nL own ret XT QQ k n pc lv (.int j :: .ref 1300 :: rest) st := by
  intro p e s m args below meth c sz H locs ls C hP hS hl
  obtain ⟨h1, rfl⟩ := hs
  have F := C.2.2.2.2.2.2.2.2.2.2.1
  exact va_sld C.1 C.2.1 F.2.1 (va_X_lt F.2.1) F.2.2 hS h1 hdg (kk p e s m args below meth c sz H locs ls C hP hS hl)
theorem J_slen (hdg : decode cc pc = .ok (.arraylength, 1)) (kk : Jg l E (CFs E L xs) R cc nL own ret XT QQ k n (pc + 1) lv (.int (Int32.ofNat L) :: rest) st) : Jg l E (CFs E L xs) R cc nL own ret XT QQ k n pc lv (.ref 1300 :: rest) st := by
  intro p e s m args below meth c sz H locs ls C hP hS hl
  have F := C.2.2.2.2.2.2.2.2.2.2.1
  exact va_slen C.1 C.2.1 F.2.1 (va_X_lt F.2.1) F.2.2 hS hdg (kk p e s m args below meth c sz H locs ls C hP hS hl)
end JS
theorem lw_retA {p : Program} {l : Launch} {e : Env} {s : State} {m : MethodId} {args : Array Value} {below : List Frame} {meth : Method} {c : Code} (hx : p.tables.exec = Jvm.exec) (hb : c.code = code) (hr : meth.sig.returnType = ret) (hlocks : meth.locks = false) {pc : Nat} {H : Heap} {ls : Array Slot} (hdg : decode code pc = .ok (.ireturn, 1)) : W p l e room_1 s m args below meth c H [] 601024 7293034 (lw_Z below args s) (F0 m pc ls [.int 1]) := by
  intro T hT X
  obtain ⟨fs, hret, hrun, hended, hW, hframe⟩ := X.leave (v := some (.int 1)) (hlocks := hlocks) (fun h => by rw [hr] at h; cases h)
  have hmeth' : T.vm.method? m = some meth := X.method'
  refine ⟨T.setFrames fs, ?_, .returned (some (.int 1)), hrun, hended, rfl, ⟨_, rfl⟩, hW, hframe⟩
  jvm_step X.here [X.here.top, hx, hb, hdg, hmeth', hr, ret, narrow_b1]
  (try refine ⟨rfl, ?_⟩); (try refine ⟨rfl, ?_⟩)
  first | (intro acts; rw [hret _ acts rfl rfl rfl]) | rw [hret _ _ rfl rfl rfl]
  exact Steps.refl _
theorem J_lret {l : Launch} {E : En} {CF : CFt} {B : Nat} (hB : ∀ i, i < NN → B ≤ eA E i) {XT : Code → Prop} {k n pc : Nat} {lv : List (Nat × Value)} {st : St} (hk : k ≤ 601024) (hn : n ≤ 7293034) (hdg : decode code pc = .ok (.ireturn, 1)) : Jg l E CF room_1 code 7 RL ret XT (QL B) k n pc lv [.int 1] st := by
  intro p e s m args below meth c sz H locs ls C hP hS hl
  by_cases hsz : sz = B
  · have h9 : W p l e room_1 s m args below meth c H locs k n (lw_Z below args s) (F0 m pc ls [.int 1]) := by
      refine va_forget (fun q hq => ?_) ?_
      · rcases hS.2.2 q hq with ⟨i, hi, h⟩ | h
        · rw [h, C.2.2.2.2.2.2.2.2.1, hsz]; exact hB i hi
        · rw [C.2.2.2.2.2.2.2.2.1]; exact h
      · exact W.widen hk hn (lw_retA C.1 C.2.1 C.2.2.1 C.2.2.2.2.2.2.1 hdg)
    intro T hT X
    obtain ⟨t, a, b⟩ := h9 T hT X
    exact ⟨t, a, fun _ => b⟩
  · intro T hT X
    exact ⟨_, Steps.refl _, fun h => absurd h hsz⟩
def CaseP (c : Int) (a1 a2 a3 a4 a5 : Int32) (st : St) (K : St → Prop) : Prop :=
  (c = 0 → P_X11_feed 0 a1 a2 a3 a4 a5 st (fun r1 st1 => P_X12_feed 58 a1 a2 a3 a4 a5 st1 (fun r2 st2 => r1 = r2 ∧ K st2))) ∧
  (c = 1 → P_L_dale a1 st (fun r1 st1 => P_X12_dale 58 a1 st1 (fun r2 st2 => P_X12_thrown 58  st2 (fun r3 st3 => r3 = r1 ∧ (r1 = 0 → gL st3 106 0 = r2.toInt64) ∧ K st3)))) ∧
  (c = 2 → P_X11_fault 0  st (fun r1 st1 => P_X12_fault 58  st1 (fun r2 st2 => r1 = r2 ∧ K st2))) ∧
  (c = 3 → P_L_count a1 st (fun r1 st1 => P_X12_count 58 a1 st1 (fun r2 st2 => P_X12_thrown 58  st2 (fun r3 st3 => r3 = r1 ∧ (r1 = 0 → gL st3 106 0 = r2.toInt64) ∧ K st3)))) ∧
  (c = 4 → P_L_person a1 a2 st (fun r1 st1 => P_X12_person 58 a1 a2 st1 (fun r2 st2 => P_X12_thrown 58  st2 (fun r3 st3 => r3 = r1 ∧ (r1 = 0 → gL st3 106 0 = r2.toInt64) ∧ K st3)))) ∧
  (c = 5 → P_L_bride a1 a2 st (fun r1 st1 => P_X12_bride 58 a1 a2 st1 (fun r2 st2 => P_X12_thrown 58  st2 (fun r3 st3 => r3 = r1 ∧ (r1 = 0 → gL st3 106 0 = r2.toInt64) ∧ K st3)))) ∧
  (c = 6 → P_L_years a1 a2 st (fun r1 st1 => P_X12_years 58 a1 a2 st1 (fun r2 st2 => P_X12_thrown 58  st2 (fun r3 st3 => r3 = r1 ∧ (r1 = 0 → gL st3 106 0 = r2.toInt64) ∧ K st3)))) ∧
  (c = 7 → P_L_weight a1 a2 st (fun r1 st1 => P_X12_weight 58 a1 a2 st1 (fun r2 st2 => P_X12_thrown 58  st2 (fun r3 st3 => r3 = r1 ∧ (r1 = 0 → gL st3 106 0 = r2.toInt64) ∧ K st3)))) ∧
  (c = 8 → P_X11_days 0 a1 st (fun r1 st1 => P_X12_days 58 a1 st1 (fun r2 st2 => r1 = r2 ∧ K st2))) ∧
  (c = 9 → P_L_train a1 a2 st (fun r1 st1 => P_X12_train 58 a1 a2 st1 (fun r2 st2 => P_X12_thrown 58  st2 (fun r3 st3 => r3 = r1 ∧ (r1 = 0 → gL st3 106 0 = r2.toInt64) ∧ K st3)))) ∧
  (c = 10 → P_L_onions a1 a2 st (fun r1 st1 => P_X12_onions 58 a1 a2 st1 (fun r2 st2 => P_X12_thrown 58  st2 (fun r3 st3 => r3 = r1 ∧ (r1 = 0 → gL st3 106 0 = r2.toInt64) ∧ K st3)))) ∧
  (c = 11 → P_L_putOff a1 a2 st (fun r1 st1 => P_X12_putOff 58 a1 a2 st1 (fun r2 st2 => P_X12_thrown 58  st2 (fun r3 st3 => r3 = r1 ∧ (r1 = 0 → gL st3 106 0 = r2.toInt64) ∧ K st3)))) ∧
  (c = 12 → P_L_tie a1 a2 a3 st (fun r1 st1 => P_X12_tie 58 a1 a2 a3 st1 (fun r2 st2 => P_X12_thrown 58  st2 (fun r3 st3 => r3 = r1 ∧ (r1 = 0 → gL st3 106 0 = r2.toInt64) ∧ K st3)))) ∧
  (c = 13 → P_X11_undo 0  st (fun r1 st1 => P_X12_undo 58  st1 (fun r2 st2 => r1 = r2 ∧ K st2))) ∧
  (c = 14 → P_L_leader a1 st (fun r1 st1 => P_X12_leader 58 a1 st1 (fun r2 st2 => P_X12_thrown 58  st2 (fun r3 st3 => r3 = r1 ∧ (r1 = 0 → gL st3 106 0 = r2.toInt64) ∧ K st3)))) ∧
  (c = 15 → P_L_then a1 a2 st (fun r1 st1 => P_X12_then 58 a1 a2 st1 (fun r2 st2 => P_X12_thrown 58  st2 (fun r3 st3 => r3 = r1 ∧ (r1 = 0 → gL st3 106 0 = r2.toInt64) ∧ K st3)))) ∧
  (c = 16 → P_L_led a1 a2 st (fun r1 st1 => P_X12_led 58 a1 a2 st1 (fun r2 st2 => P_X12_thrown 58  st2 (fun r3 st3 => r3 = r1 ∧ (r1 = 0 → gL st3 106 0 = r2.toInt64) ∧ K st3)))) ∧
  (c = 17 → P_X11_dog 0  st (fun r1 st1 => P_X12_dog 58  st1 (fun r2 st2 => r1 = r2 ∧ K st2))) ∧
  (c = 18 → P_L_rank a1 a2 st (fun r1 st1 => P_X12_rank 58 a1 a2 st1 (fun r2 st2 => P_X12_thrown 58  st2 (fun r3 st3 => r3 = r1 ∧ (r1 = 0 → gL st3 106 0 = r2.toInt64) ∧ K st3)))) ∧
  (c = 19 → P_L_toTrain a1 a2 st (fun r1 st1 => P_X12_toTrain 58 a1 a2 st1 (fun r2 st2 => P_X12_thrown 58  st2 (fun r3 st3 => r3 = r1 ∧ (r1 = 0 → gL st3 106 0 = r2.toInt64) ∧ K st3)))) ∧
  (c = 20 → P_L_instead a1 st (fun r1 st1 => P_X12_instead 58 a1 st1 (fun r2 st2 => P_X12_thrown 58  st2 (fun r3 st3 => r3 = r1 ∧ (r1 = 0 → gL st3 106 0 = r2.toInt64) ∧ K st3)))) ∧
  (c = 21 → P_L_bestDay a1 a2 st (fun r1 st1 => P_X12_bestDay 58 a1 a2 st1 (fun r2 st2 => P_X12_thrown 58  st2 (fun r3 st3 => r3 = r1 ∧ (r1 = 0 → gL st3 106 0 = r2.toInt64) ∧ K st3)))) ∧
  (c = 22 → P_L_choice a1 st (fun r1 st1 => P_X12_choice 58 a1 st1 (fun r2 st2 => P_X12_thrown 58  st2 (fun r3 st3 => r3 = r1 ∧ (r1 = 0 → gL st3 106 0 = r2.toInt64) ∧ K st3)))) ∧
  (c = 23 → P_X11_unloved 0  st (fun r1 st1 => P_X12_unloved 58  st1 (fun r2 st2 => r1 = r2 ∧ K st2))) ∧
  (c = 24 → P_L_tug a1 st (fun r1 st1 => P_X12_tug 58 a1 st1 (fun r2 st2 => P_X12_thrown 58  st2 (fun r3 st3 => r3 = r1 ∧ (r1 = 0 → gL st3 106 0 = r2.toInt64) ∧ K st3)))) ∧
  (c = 25 → P_L_decisive a1 a2 st (fun r1 st1 => P_X12_decisive 58 a1 a2 st1 (fun r2 st2 => P_X12_thrown 58  st2 (fun r3 st3 => r3 = r1 ∧ (r1 = 0 → gL st3 106 0 = r2.toInt64) ∧ K st3)))) ∧
  (c = 26 → P_L_steps a1 a2 st (fun r1 st1 => P_X12_steps 58 a1 a2 st1 (fun r2 st2 => P_X12_thrown 58  st2 (fun r3 st3 => r3 = r1 ∧ (r1 = 0 → gL st3 106 0 = r2.toInt64) ∧ K st3)))) ∧
  (c = 27 → P_L_busiest a1 st (fun r1 st1 => P_X12_busiest 58 a1 st1 (fun r2 st2 => P_X12_thrown 58  st2 (fun r3 st3 => r3 = r1 ∧ (r1 = 0 → gL st3 106 0 = r2.toInt64) ∧ K st3)))) ∧
  (c = 28 → P_L_crowd a1 st (fun r1 st1 => P_X12_crowd 58 a1 st1 (fun r2 st2 => P_X12_thrown 58  st2 (fun r3 st3 => r3 = r1 ∧ (r1 = 0 → gL st3 106 0 = r2.toInt64) ∧ K st3)))) ∧
  (c = 29 → P_L_common a1 a2 st (fun r1 st1 => P_X12_common 58 a1 a2 st1 (fun r2 st2 => P_X12_thrown 58  st2 (fun r3 st3 => r3 = r1 ∧ (r1 = 0 → gL st3 106 0 = r2.toInt64) ∧ K st3)))) ∧
  (c = 30 → P_L_see a1 a2 a3 a4 (if a5 = 0 then 0 else 1) st (fun r1 st1 => P_X12_see 58 a1 a2 a3 a4 (if a5 = 0 then 0 else 1) st1 (fun r2 st2 => P_X12_thrown 58  st2 (fun r3 st3 => r3 = r1 ∧ (r1 = 0 → gL st3 106 0 = r2.toInt64) ∧ K st3)))) ∧
  (c = 31 → P_L_hidden a1 st (fun r1 st1 => P_X12_hidden 58 a1 st1 (fun r2 st2 => P_X12_thrown 58  st2 (fun r3 st3 => r3 = r1 ∧ (r1 = 0 → gL st3 106 0 = r2.toInt64) ∧ K st3)))) ∧
  (c = 32 → P_L_next a1 st (fun r1 st1 => P_X12_next 58 a1 st1 (fun r2 st2 => P_X12_thrown 58  st2 (fun r3 st3 => r3 = r1 ∧ (r1 = 0 → gL st3 106 0 = r2.toInt64) ∧ K st3)))) ∧
  (c = 33 → P_X11_forget 0  st (fun st1 => P_X12_forget 58  st1 (fun st2 => K st2))) ∧
  (c = 34 → P_L_game a1 a2 a3 a4 st (fun r1 st1 => P_X12_game 58 a1 a2 a3 a4 st1 (fun r2 st2 => P_X12_thrown 58  st2 (fun r3 st3 => r3 = r1 ∧ (r1 = 0 → gL st3 106 0 = r2.toInt64) ∧ K st3)))) ∧
  (c = 35 → P_L_drawn a1 a2 a3 st (fun r1 st1 => P_X12_drawn 58 a1 a2 a3 st1 (fun r2 st2 => P_X12_thrown 58  st2 (fun r3 st3 => r3 = r1 ∧ (r1 = 0 → gL st3 106 0 = r2.toInt64) ∧ K st3)))) ∧
  (c = 36 → P_X11_image 0  st (fun st1 => P_X12_image 58  st1 (fun st2 => K st2))) ∧
  (c = 37 → P_X11_restore 0  st (fun r1 st1 => P_X12_restore 58  st1 (fun r2 st2 => r1 = r2 ∧ K st2))) ∧
  (c < 0 ∨ 37 < c → K st)
theorem lg_cmp0 {x y : Int64} (h : x = y) : lg_cmp x y = 0 := by
  subst h
  simp [lg_cmp]
set_option maxRecDepth 100000 in
set_option maxHeartbeats 4000000 in
theorem cs_0 {l : Launch} {E : En} (hl0 : l.stackTraces = false) {L : Nat} {xs : Nat → Int32} {XT : Code → Prop} {QQ : List Frame → Array Value → State → Nat → State → Prop} {k n : Nat} {i a1 a2 a3 a4 a5 : Int32} (s1 : SL L xs (i + 1) a1) (s2 : SL L xs (i + 2) a2) (s3 : SL L xs (i + 3) a3) (s4 : SL L xs (i + 4) a4) (s5 : SL L xs (i + 5) a5) {st : St} {K : St → Prop} (hk : k + 5 ≤ 601024) (hn : n + 30 ≤ 7293034)
    (h : P_X11_feed 0 a1 a2 a3 a4 a5 st (fun r1 st1 => P_X12_feed 58 a1 a2 a3 a4 a5 st1 (fun r2 st2 => r1 = r2 ∧ K st2))) (kk : ∀ st2, K st2 → Jg l E (CFs E L xs) room_1 code 7 RL ret XT QQ (k + 5) (n + 30) 2345 [(0, .ref 1300), (1, .ref 0), (2, .ref 58), (3, .ref 106), (4, .int i)] [] st2) : Jg l E (CFs E L xs) room_1 code 7 RL ret XT QQ k n 208 [(0, .ref 1300), (1, .ref 0), (2, .ref 58), (3, .ref 106), (4, .int i)] [] st := by
  refine J_aload_n 1 dL_law_208 rfl rfl ?_
  refine J_aload_n 0 dL_law_209 rfl rfl ?_
  refine J_iload 4 dL_law_210 rfl ?_
  refine J_iconst 1 dL_law_212 (by decide) ?_
  refine J_iadd dL_law_213 ?_
  refine J_sld s1 dL_law_214 ?_
  refine J_aload_n 0 dL_law_215 rfl rfl ?_
  refine J_iload 4 dL_law_216 rfl ?_
  refine J_iconst 2 dL_law_218 (by decide) ?_
  refine J_iadd dL_law_219 ?_
  refine J_sld s2 dL_law_220 ?_
  refine J_aload_n 0 dL_law_221 rfl rfl ?_
  refine J_iload 4 dL_law_222 rfl ?_
  refine J_iconst 3 dL_law_224 (by decide) ?_
  refine J_iadd dL_law_225 ?_
  refine J_sld s3 dL_law_226 ?_
  refine J_aload_n 0 dL_law_227 rfl rfl ?_
  refine J_iload 4 dL_law_228 rfl ?_
  refine J_iconst 4 dL_law_230 (by decide) ?_
  refine J_iadd dL_law_231 ?_
  refine J_sld s4 dL_law_232 ?_
  refine J_aload_n 0 dL_law_233 rfl rfl ?_
  refine J_iload 4 dL_law_234 rfl ?_
  refine J_iconst 5 dL_law_236 (by decide) ?_
  refine J_iadd dL_law_237 ?_
  refine J_sld s5 dL_law_238 ?_
  refine J_cvi (As := [_, _, _, _, _]) md_X11_feed k_1429 (rc_obj cl_11 tb_out) rfl rfl ⟨Nat.le_of_ble_eq_true rfl, Nat.le_of_ble_eq_true rfl⟩ ⟨by show k + 0 + 0 ≤ 601024; omega, by show n + 0 + 0 ≤ 7293034; omega⟩ (Nat.le_of_ble_eq_true rfl) dL_law_239 (CtI_mono CFs_c (CFc_ok E) (ct_X11_feed h)) (fun r1 st1 h => ?_)
  refine J_aload_n 2 dL_law_242 rfl rfl ?_
  refine J_aload_n 0 dL_law_243 rfl rfl ?_
  refine J_iload 4 dL_law_244 rfl ?_
  refine J_iconst 1 dL_law_246 (by decide) ?_
  refine J_iadd dL_law_247 ?_
  refine J_sld s1 dL_law_248 ?_
  refine J_aload_n 0 dL_law_249 rfl rfl ?_
  refine J_iload 4 dL_law_250 rfl ?_
  refine J_iconst 2 dL_law_252 (by decide) ?_
  refine J_iadd dL_law_253 ?_
  refine J_sld s2 dL_law_254 ?_
  refine J_aload_n 0 dL_law_255 rfl rfl ?_
  refine J_iload 4 dL_law_256 rfl ?_
  refine J_iconst 3 dL_law_258 (by decide) ?_
  refine J_iadd dL_law_259 ?_
  refine J_sld s3 dL_law_260 ?_
  refine J_aload_n 0 dL_law_261 rfl rfl ?_
  refine J_iload 4 dL_law_262 rfl ?_
  refine J_iconst 4 dL_law_264 (by decide) ?_
  refine J_iadd dL_law_265 ?_
  refine J_sld s4 dL_law_266 ?_
  refine J_aload_n 0 dL_law_267 rfl rfl ?_
  refine J_iload 4 dL_law_268 rfl ?_
  refine J_iconst 5 dL_law_270 (by decide) ?_
  refine J_iadd dL_law_271 ?_
  refine J_sld s5 dL_law_272 ?_
  refine J_cvi (As := [_, _, _, _, _]) md_X12_feed k_1432 (rc_obj cl_12 tb_mo) rfl rfl ⟨Nat.le_of_ble_eq_true rfl, Nat.le_of_ble_eq_true rfl⟩ ⟨by show k + 0 + 0 ≤ 601024; omega, by show n + 0 + 0 ≤ 7293034; omega⟩ (Nat.le_of_ble_eq_true rfl) dL_law_273 (CtI_mono CFs_c (CFc_ok E) (ct_X12_feed h)) (fun r2 st2 h => ?_)
  obtain ⟨he, h⟩ := h
  refine J_icmp_eq 2345 dL_law_276 (by decide) (fun _ => ?_) (fun hne => absurd he hne)
  exact J_widen (by omega) (by omega) (J_lv [0, 1, 2, 3, 4] rfl (kk _ h))
set_option maxRecDepth 100000 in
set_option maxHeartbeats 4000000 in
theorem cs_1 {l : Launch} {E : En} (hl0 : l.stackTraces = false) {L : Nat} {xs : Nat → Int32} {XT : Code → Prop} {QQ : List Frame → Array Value → State → Nat → State → Prop} {k n : Nat} {i a1 a2 a3 a4 a5 : Int32} (s1 : SL L xs (i + 1) a1) (s2 : SL L xs (i + 2) a2) (s3 : SL L xs (i + 3) a3) (s4 : SL L xs (i + 4) a4) (s5 : SL L xs (i + 5) a5) {st : St} {K : St → Prop} (hk : k + 5 ≤ 601024) (hn : n + 30 ≤ 7293034)
    (h : P_L_dale a1 st (fun r1 st1 => P_X12_dale 58 a1 st1 (fun r2 st2 => P_X12_thrown 58  st2 (fun r3 st3 => r3 = r1 ∧ (r1 = 0 → gL st3 106 0 = r2.toInt64) ∧ K st3)))) (kk : ∀ st2, K st2 → Jg l E (CFs E L xs) room_1 code 7 RL ret XT QQ (k + 5) (n + 30) 2345 [(0, .ref 1300), (1, .ref 0), (2, .ref 58), (3, .ref 106), (4, .int i)] [] st2) : Jg l E (CFs E L xs) room_1 code 7 RL ret XT QQ k n 281 [(0, .ref 1300), (1, .ref 0), (2, .ref 58), (3, .ref 106), (4, .int i)] [] st := by
  refine J_aload_n 1 dL_law_281 rfl rfl ?_
  refine J_aload_n 0 dL_law_282 rfl rfl ?_
  refine J_iload 4 dL_law_283 rfl ?_
  refine J_iconst 1 dL_law_285 (by decide) ?_
  refine J_iadd dL_law_286 ?_
  refine J_sld s1 dL_law_287 ?_
  refine J_aload_n 3 dL_law_288 rfl rfl ?_
  refine J_csH (As := [_, _, _]) mdh_L_dale k_1435 rfl rfl ⟨Nat.le_of_ble_eq_true rfl, Nat.le_of_ble_eq_true rfl⟩ ⟨by show k + 1 ≤ 601024; omega, by show n + 6 ≤ 7293034; omega⟩ (Nat.le_of_ble_eq_true rfl) dL_law_289 (CtH_mono CFs_c (CFc_ok E) (ct_L_dale hl0 h)) (fun r1 st1 h => ?_)
  refine J_istore _ dL_law_292 (by decide) rfl ?_
  refine J_aload_n 3 dL_law_294 rfl rfl ?_
  refine J_aload_n 1 dL_law_295 rfl rfl ?_
  refine J_iload 5 dL_law_296 rfl ?_
  refine J_iconst 1 dL_law_298 (by decide) ?_
  refine J_iadd dL_law_299 ?_
  refine J_sld s1 dL_law_300 ?_
  refine J_cvi (As := [_]) md_X12_dale k_1438 (rc_obj cl_12 tb_mo) rfl rfl ⟨Nat.le_of_ble_eq_true rfl, Nat.le_of_ble_eq_true rfl⟩ ⟨by show k + 1 + 0 ≤ 601024; omega, by show n + 6 + 0 ≤ 7293034; omega⟩ (Nat.le_of_ble_eq_true rfl) dL_law_301 (CtI_mono CFs_c (CFc_ok E) (ct_X12_dale h)) (fun r2 st2 h => ?_)
  refine J_istore _ dL_law_304 (by decide) rfl ?_
  refine J_aload_n 4 dL_law_306 rfl rfl ?_
  refine J_cvi (As := []) md_X12_thrown k_1441 (rc_obj cl_12 tb_mo) rfl rfl ⟨Nat.le_of_ble_eq_true rfl, Nat.le_of_ble_eq_true rfl⟩ ⟨by show k + 1 + 0 ≤ 601024; omega, by show n + 6 + 0 ≤ 7293034; omega⟩ (Nat.le_of_ble_eq_true rfl) dL_law_307 (CtI_mono CFs_c (CFc_ok E) (ct_X12_thrown h)) (fun r3 st3 h => ?_)
  refine J_iload 1 dL_law_310 rfl ?_
  obtain ⟨he, h⟩ := h
  refine J_icmp_eq 317 dL_law_312 (by decide) (fun _ => ?_) (fun hne => absurd he hne)
  refine J_iload 1 dL_law_317 rfl ?_
  obtain ⟨he2, h⟩ := h
  refine J_if_ne 334 dL_law_319 (by decide) (fun _ => ?_) (fun hz0 => ?_)
  · refine J_goto 2345 dL_law_334 (by decide) ?_; exact J_widen (by omega) (by omega) (J_lv [2, 3, 4, 5, 6] rfl (kk _ h))
  have he2 := he2 hz0
  refine J_aload_n 5 dL_law_322 rfl rfl ?_
  refine J_iconst 0 dL_law_323 (by decide) ?_
  refine J_lald dL_law_324 vi_out ?_
  refine J_iload 0 dL_law_325 rfl ?_
  refine J_i2l dL_law_327 ?_
  refine J_lcmp dL_law_328 ?_
  refine J_if_eq 334 dL_law_329 (by decide) (fun _ => ?_) (fun hne => absurd (lg_cmp0 he2) hne)
  refine J_goto 2345 dL_law_334 (by decide) ?_
  exact J_widen (by omega) (by omega) (J_lv [2, 3, 4, 5, 6] rfl (kk _ h))
set_option maxRecDepth 100000 in
set_option maxHeartbeats 4000000 in
theorem cs_2 {l : Launch} {E : En} (hl0 : l.stackTraces = false) {L : Nat} {xs : Nat → Int32} {XT : Code → Prop} {QQ : List Frame → Array Value → State → Nat → State → Prop} {k n : Nat} {i a1 a2 a3 a4 a5 : Int32} (s1 : SL L xs (i + 1) a1) (s2 : SL L xs (i + 2) a2) (s3 : SL L xs (i + 3) a3) (s4 : SL L xs (i + 4) a4) (s5 : SL L xs (i + 5) a5) {st : St} {K : St → Prop} (hk : k + 5 ≤ 601024) (hn : n + 30 ≤ 7293034)
    (h : P_X11_fault 0  st (fun r1 st1 => P_X12_fault 58  st1 (fun r2 st2 => r1 = r2 ∧ K st2))) (kk : ∀ st2, K st2 → Jg l E (CFs E L xs) room_1 code 7 RL ret XT QQ (k + 5) (n + 30) 2345 [(0, .ref 1300), (1, .ref 0), (2, .ref 58), (3, .ref 106), (4, .int i)] [] st2) : Jg l E (CFs E L xs) room_1 code 7 RL ret XT QQ k n 337 [(0, .ref 1300), (1, .ref 0), (2, .ref 58), (3, .ref 106), (4, .int i)] [] st := by
  refine J_aload_n 1 dL_law_337 rfl rfl ?_
  refine J_cvi (As := []) md_X11_fault k_1444 (rc_obj cl_11 tb_out) rfl rfl ⟨Nat.le_of_ble_eq_true rfl, Nat.le_of_ble_eq_true rfl⟩ ⟨by show k + 0 + 0 ≤ 601024; omega, by show n + 0 + 0 ≤ 7293034; omega⟩ (Nat.le_of_ble_eq_true rfl) dL_law_338 (CtI_mono CFs_c (CFc_ok E) (ct_X11_fault h)) (fun r1 st1 h => ?_)
  refine J_aload_n 2 dL_law_341 rfl rfl ?_
  refine J_cvi (As := []) md_X12_fault k_1447 (rc_obj cl_12 tb_mo) rfl rfl ⟨Nat.le_of_ble_eq_true rfl, Nat.le_of_ble_eq_true rfl⟩ ⟨by show k + 0 + 0 ≤ 601024; omega, by show n + 0 + 0 ≤ 7293034; omega⟩ (Nat.le_of_ble_eq_true rfl) dL_law_342 (CtI_mono CFs_c (CFc_ok E) (ct_X12_fault h)) (fun r2 st2 h => ?_)
  obtain ⟨he, h⟩ := h
  refine J_icmp_eq 2345 dL_law_345 (by decide) (fun _ => ?_) (fun hne => absurd he hne)
  exact J_widen (by omega) (by omega) (J_lv [0, 1, 2, 3, 4] rfl (kk _ h))
set_option maxRecDepth 100000 in
set_option maxHeartbeats 4000000 in
theorem cs_3 {l : Launch} {E : En} (hl0 : l.stackTraces = false) {L : Nat} {xs : Nat → Int32} {XT : Code → Prop} {QQ : List Frame → Array Value → State → Nat → State → Prop} {k n : Nat} {i a1 a2 a3 a4 a5 : Int32} (s1 : SL L xs (i + 1) a1) (s2 : SL L xs (i + 2) a2) (s3 : SL L xs (i + 3) a3) (s4 : SL L xs (i + 4) a4) (s5 : SL L xs (i + 5) a5) {st : St} {K : St → Prop} (hk : k + 5 ≤ 601024) (hn : n + 30 ≤ 7293034)
    (h : P_L_count a1 st (fun r1 st1 => P_X12_count 58 a1 st1 (fun r2 st2 => P_X12_thrown 58  st2 (fun r3 st3 => r3 = r1 ∧ (r1 = 0 → gL st3 106 0 = r2.toInt64) ∧ K st3)))) (kk : ∀ st2, K st2 → Jg l E (CFs E L xs) room_1 code 7 RL ret XT QQ (k + 5) (n + 30) 2345 [(0, .ref 1300), (1, .ref 0), (2, .ref 58), (3, .ref 106), (4, .int i)] [] st2) : Jg l E (CFs E L xs) room_1 code 7 RL ret XT QQ k n 350 [(0, .ref 1300), (1, .ref 0), (2, .ref 58), (3, .ref 106), (4, .int i)] [] st := by
  refine J_aload_n 1 dL_law_350 rfl rfl ?_
  refine J_aload_n 0 dL_law_351 rfl rfl ?_
  refine J_iload 4 dL_law_352 rfl ?_
  refine J_iconst 1 dL_law_354 (by decide) ?_
  refine J_iadd dL_law_355 ?_
  refine J_sld s1 dL_law_356 ?_
  refine J_aload_n 3 dL_law_357 rfl rfl ?_
  refine J_csH (As := [_, _, _]) mdh_L_count k_1450 rfl rfl ⟨Nat.le_of_ble_eq_true rfl, Nat.le_of_ble_eq_true rfl⟩ ⟨by show k + 1 ≤ 601024; omega, by show n + 6 ≤ 7293034; omega⟩ (Nat.le_of_ble_eq_true rfl) dL_law_358 (CtH_mono CFs_c (CFc_ok E) (ct_L_count hl0 h)) (fun r1 st1 h => ?_)
  refine J_istore _ dL_law_361 (by decide) rfl ?_
  refine J_aload_n 3 dL_law_363 rfl rfl ?_
  refine J_aload_n 1 dL_law_364 rfl rfl ?_
  refine J_iload 5 dL_law_365 rfl ?_
  refine J_iconst 1 dL_law_367 (by decide) ?_
  refine J_iadd dL_law_368 ?_
  refine J_sld s1 dL_law_369 ?_
  refine J_cvi (As := [_]) md_X12_count k_1452 (rc_obj cl_12 tb_mo) rfl rfl ⟨Nat.le_of_ble_eq_true rfl, Nat.le_of_ble_eq_true rfl⟩ ⟨by show k + 1 + 0 ≤ 601024; omega, by show n + 6 + 0 ≤ 7293034; omega⟩ (Nat.le_of_ble_eq_true rfl) dL_law_370 (CtI_mono CFs_c (CFc_ok E) (ct_X12_count h)) (fun r2 st2 h => ?_)
  refine J_istore _ dL_law_373 (by decide) rfl ?_
  refine J_aload_n 4 dL_law_375 rfl rfl ?_
  refine J_cvi (As := []) md_X12_thrown k_1441 (rc_obj cl_12 tb_mo) rfl rfl ⟨Nat.le_of_ble_eq_true rfl, Nat.le_of_ble_eq_true rfl⟩ ⟨by show k + 1 + 0 ≤ 601024; omega, by show n + 6 + 0 ≤ 7293034; omega⟩ (Nat.le_of_ble_eq_true rfl) dL_law_376 (CtI_mono CFs_c (CFc_ok E) (ct_X12_thrown h)) (fun r3 st3 h => ?_)
  refine J_iload 1 dL_law_379 rfl ?_
  obtain ⟨he, h⟩ := h
  refine J_icmp_eq 386 dL_law_381 (by decide) (fun _ => ?_) (fun hne => absurd he hne)
  refine J_iload 1 dL_law_386 rfl ?_
  obtain ⟨he2, h⟩ := h
  refine J_if_ne 403 dL_law_388 (by decide) (fun _ => ?_) (fun hz0 => ?_)
  · refine J_goto 2345 dL_law_403 (by decide) ?_; exact J_widen (by omega) (by omega) (J_lv [2, 3, 4, 5, 6] rfl (kk _ h))
  have he2 := he2 hz0
  refine J_aload_n 5 dL_law_391 rfl rfl ?_
  refine J_iconst 0 dL_law_392 (by decide) ?_
  refine J_lald dL_law_393 vi_out ?_
  refine J_iload 0 dL_law_394 rfl ?_
  refine J_i2l dL_law_396 ?_
  refine J_lcmp dL_law_397 ?_
  refine J_if_eq 403 dL_law_398 (by decide) (fun _ => ?_) (fun hne => absurd (lg_cmp0 he2) hne)
  refine J_goto 2345 dL_law_403 (by decide) ?_
  exact J_widen (by omega) (by omega) (J_lv [2, 3, 4, 5, 6] rfl (kk _ h))
set_option maxRecDepth 100000 in
set_option maxHeartbeats 4000000 in
theorem cs_4 {l : Launch} {E : En} (hl0 : l.stackTraces = false) {L : Nat} {xs : Nat → Int32} {XT : Code → Prop} {QQ : List Frame → Array Value → State → Nat → State → Prop} {k n : Nat} {i a1 a2 a3 a4 a5 : Int32} (s1 : SL L xs (i + 1) a1) (s2 : SL L xs (i + 2) a2) (s3 : SL L xs (i + 3) a3) (s4 : SL L xs (i + 4) a4) (s5 : SL L xs (i + 5) a5) {st : St} {K : St → Prop} (hk : k + 5 ≤ 601024) (hn : n + 30 ≤ 7293034)
    (h : P_L_person a1 a2 st (fun r1 st1 => P_X12_person 58 a1 a2 st1 (fun r2 st2 => P_X12_thrown 58  st2 (fun r3 st3 => r3 = r1 ∧ (r1 = 0 → gL st3 106 0 = r2.toInt64) ∧ K st3)))) (kk : ∀ st2, K st2 → Jg l E (CFs E L xs) room_1 code 7 RL ret XT QQ (k + 5) (n + 30) 2345 [(0, .ref 1300), (1, .ref 0), (2, .ref 58), (3, .ref 106), (4, .int i)] [] st2) : Jg l E (CFs E L xs) room_1 code 7 RL ret XT QQ k n 406 [(0, .ref 1300), (1, .ref 0), (2, .ref 58), (3, .ref 106), (4, .int i)] [] st := by
  refine J_aload_n 1 dL_law_406 rfl rfl ?_
  refine J_aload_n 0 dL_law_407 rfl rfl ?_
  refine J_iload 4 dL_law_408 rfl ?_
  refine J_iconst 1 dL_law_410 (by decide) ?_
  refine J_iadd dL_law_411 ?_
  refine J_sld s1 dL_law_412 ?_
  refine J_aload_n 0 dL_law_413 rfl rfl ?_
  refine J_iload 4 dL_law_414 rfl ?_
  refine J_iconst 2 dL_law_416 (by decide) ?_
  refine J_iadd dL_law_417 ?_
  refine J_sld s2 dL_law_418 ?_
  refine J_aload_n 3 dL_law_419 rfl rfl ?_
  refine J_csH (As := [_, _, _, _]) mdh_L_person k_1455 rfl rfl ⟨Nat.le_of_ble_eq_true rfl, Nat.le_of_ble_eq_true rfl⟩ ⟨by show k + 2 ≤ 601024; omega, by show n + 12 ≤ 7293034; omega⟩ (Nat.le_of_ble_eq_true rfl) dL_law_420 (CtH_mono CFs_c (CFc_ok E) (ct_L_person hl0 h)) (fun r1 st1 h => ?_)
  refine J_istore _ dL_law_423 (by decide) rfl ?_
  refine J_aload_n 3 dL_law_425 rfl rfl ?_
  refine J_aload_n 1 dL_law_426 rfl rfl ?_
  refine J_iload 5 dL_law_427 rfl ?_
  refine J_iconst 1 dL_law_429 (by decide) ?_
  refine J_iadd dL_law_430 ?_
  refine J_sld s1 dL_law_431 ?_
  refine J_aload_n 1 dL_law_432 rfl rfl ?_
  refine J_iload 5 dL_law_433 rfl ?_
  refine J_iconst 2 dL_law_435 (by decide) ?_
  refine J_iadd dL_law_436 ?_
  refine J_sld s2 dL_law_437 ?_
  refine J_cvi (As := [_, _]) md_X12_person k_1457 (rc_obj cl_12 tb_mo) rfl rfl ⟨Nat.le_of_ble_eq_true rfl, Nat.le_of_ble_eq_true rfl⟩ ⟨by show k + 2 + 0 ≤ 601024; omega, by show n + 12 + 0 ≤ 7293034; omega⟩ (Nat.le_of_ble_eq_true rfl) dL_law_438 (CtI_mono CFs_c (CFc_ok E) (ct_X12_person h)) (fun r2 st2 h => ?_)
  refine J_istore _ dL_law_441 (by decide) rfl ?_
  refine J_aload_n 4 dL_law_443 rfl rfl ?_
  refine J_cvi (As := []) md_X12_thrown k_1441 (rc_obj cl_12 tb_mo) rfl rfl ⟨Nat.le_of_ble_eq_true rfl, Nat.le_of_ble_eq_true rfl⟩ ⟨by show k + 2 + 0 ≤ 601024; omega, by show n + 12 + 0 ≤ 7293034; omega⟩ (Nat.le_of_ble_eq_true rfl) dL_law_444 (CtI_mono CFs_c (CFc_ok E) (ct_X12_thrown h)) (fun r3 st3 h => ?_)
  refine J_iload 1 dL_law_447 rfl ?_
  obtain ⟨he, h⟩ := h
  refine J_icmp_eq 454 dL_law_449 (by decide) (fun _ => ?_) (fun hne => absurd he hne)
  refine J_iload 1 dL_law_454 rfl ?_
  obtain ⟨he2, h⟩ := h
  refine J_if_ne 471 dL_law_456 (by decide) (fun _ => ?_) (fun hz0 => ?_)
  · refine J_goto 2345 dL_law_471 (by decide) ?_; exact J_widen (by omega) (by omega) (J_lv [2, 3, 4, 5, 6] rfl (kk _ h))
  have he2 := he2 hz0
  refine J_aload_n 5 dL_law_459 rfl rfl ?_
  refine J_iconst 0 dL_law_460 (by decide) ?_
  refine J_lald dL_law_461 vi_out ?_
  refine J_iload 0 dL_law_462 rfl ?_
  refine J_i2l dL_law_464 ?_
  refine J_lcmp dL_law_465 ?_
  refine J_if_eq 471 dL_law_466 (by decide) (fun _ => ?_) (fun hne => absurd (lg_cmp0 he2) hne)
  refine J_goto 2345 dL_law_471 (by decide) ?_
  exact J_widen (by omega) (by omega) (J_lv [2, 3, 4, 5, 6] rfl (kk _ h))
set_option maxRecDepth 100000 in
set_option maxHeartbeats 4000000 in
theorem cs_5 {l : Launch} {E : En} (hl0 : l.stackTraces = false) {L : Nat} {xs : Nat → Int32} {XT : Code → Prop} {QQ : List Frame → Array Value → State → Nat → State → Prop} {k n : Nat} {i a1 a2 a3 a4 a5 : Int32} (s1 : SL L xs (i + 1) a1) (s2 : SL L xs (i + 2) a2) (s3 : SL L xs (i + 3) a3) (s4 : SL L xs (i + 4) a4) (s5 : SL L xs (i + 5) a5) {st : St} {K : St → Prop} (hk : k + 5 ≤ 601024) (hn : n + 30 ≤ 7293034)
    (h : P_L_bride a1 a2 st (fun r1 st1 => P_X12_bride 58 a1 a2 st1 (fun r2 st2 => P_X12_thrown 58  st2 (fun r3 st3 => r3 = r1 ∧ (r1 = 0 → gL st3 106 0 = r2.toInt64) ∧ K st3)))) (kk : ∀ st2, K st2 → Jg l E (CFs E L xs) room_1 code 7 RL ret XT QQ (k + 5) (n + 30) 2345 [(0, .ref 1300), (1, .ref 0), (2, .ref 58), (3, .ref 106), (4, .int i)] [] st2) : Jg l E (CFs E L xs) room_1 code 7 RL ret XT QQ k n 474 [(0, .ref 1300), (1, .ref 0), (2, .ref 58), (3, .ref 106), (4, .int i)] [] st := by
  refine J_aload_n 1 dL_law_474 rfl rfl ?_
  refine J_aload_n 0 dL_law_475 rfl rfl ?_
  refine J_iload 4 dL_law_476 rfl ?_
  refine J_iconst 1 dL_law_478 (by decide) ?_
  refine J_iadd dL_law_479 ?_
  refine J_sld s1 dL_law_480 ?_
  refine J_aload_n 0 dL_law_481 rfl rfl ?_
  refine J_iload 4 dL_law_482 rfl ?_
  refine J_iconst 2 dL_law_484 (by decide) ?_
  refine J_iadd dL_law_485 ?_
  refine J_sld s2 dL_law_486 ?_
  refine J_aload_n 3 dL_law_487 rfl rfl ?_
  refine J_csH (As := [_, _, _, _]) mdh_L_bride k_1460 rfl rfl ⟨Nat.le_of_ble_eq_true rfl, Nat.le_of_ble_eq_true rfl⟩ ⟨by show k + 2 ≤ 601024; omega, by show n + 12 ≤ 7293034; omega⟩ (Nat.le_of_ble_eq_true rfl) dL_law_488 (CtH_mono CFs_c (CFc_ok E) (ct_L_bride hl0 h)) (fun r1 st1 h => ?_)
  refine J_istore _ dL_law_491 (by decide) rfl ?_
  refine J_aload_n 3 dL_law_493 rfl rfl ?_
  refine J_aload_n 1 dL_law_494 rfl rfl ?_
  refine J_iload 5 dL_law_495 rfl ?_
  refine J_iconst 1 dL_law_497 (by decide) ?_
  refine J_iadd dL_law_498 ?_
  refine J_sld s1 dL_law_499 ?_
  refine J_aload_n 1 dL_law_500 rfl rfl ?_
  refine J_iload 5 dL_law_501 rfl ?_
  refine J_iconst 2 dL_law_503 (by decide) ?_
  refine J_iadd dL_law_504 ?_
  refine J_sld s2 dL_law_505 ?_
  refine J_cvi (As := [_, _]) md_X12_bride k_1462 (rc_obj cl_12 tb_mo) rfl rfl ⟨Nat.le_of_ble_eq_true rfl, Nat.le_of_ble_eq_true rfl⟩ ⟨by show k + 2 + 0 ≤ 601024; omega, by show n + 12 + 0 ≤ 7293034; omega⟩ (Nat.le_of_ble_eq_true rfl) dL_law_506 (CtI_mono CFs_c (CFc_ok E) (ct_X12_bride h)) (fun r2 st2 h => ?_)
  refine J_istore _ dL_law_509 (by decide) rfl ?_
  refine J_aload_n 4 dL_law_511 rfl rfl ?_
  refine J_cvi (As := []) md_X12_thrown k_1441 (rc_obj cl_12 tb_mo) rfl rfl ⟨Nat.le_of_ble_eq_true rfl, Nat.le_of_ble_eq_true rfl⟩ ⟨by show k + 2 + 0 ≤ 601024; omega, by show n + 12 + 0 ≤ 7293034; omega⟩ (Nat.le_of_ble_eq_true rfl) dL_law_512 (CtI_mono CFs_c (CFc_ok E) (ct_X12_thrown h)) (fun r3 st3 h => ?_)
  refine J_iload 1 dL_law_515 rfl ?_
  obtain ⟨he, h⟩ := h
  refine J_icmp_eq 522 dL_law_517 (by decide) (fun _ => ?_) (fun hne => absurd he hne)
  refine J_iload 1 dL_law_522 rfl ?_
  obtain ⟨he2, h⟩ := h
  refine J_if_ne 539 dL_law_524 (by decide) (fun _ => ?_) (fun hz0 => ?_)
  · refine J_goto 2345 dL_law_539 (by decide) ?_; exact J_widen (by omega) (by omega) (J_lv [2, 3, 4, 5, 6] rfl (kk _ h))
  have he2 := he2 hz0
  refine J_aload_n 5 dL_law_527 rfl rfl ?_
  refine J_iconst 0 dL_law_528 (by decide) ?_
  refine J_lald dL_law_529 vi_out ?_
  refine J_iload 0 dL_law_530 rfl ?_
  refine J_i2l dL_law_532 ?_
  refine J_lcmp dL_law_533 ?_
  refine J_if_eq 539 dL_law_534 (by decide) (fun _ => ?_) (fun hne => absurd (lg_cmp0 he2) hne)
  refine J_goto 2345 dL_law_539 (by decide) ?_
  exact J_widen (by omega) (by omega) (J_lv [2, 3, 4, 5, 6] rfl (kk _ h))
set_option maxRecDepth 100000 in
set_option maxHeartbeats 4000000 in
theorem cs_6 {l : Launch} {E : En} (hl0 : l.stackTraces = false) {L : Nat} {xs : Nat → Int32} {XT : Code → Prop} {QQ : List Frame → Array Value → State → Nat → State → Prop} {k n : Nat} {i a1 a2 a3 a4 a5 : Int32} (s1 : SL L xs (i + 1) a1) (s2 : SL L xs (i + 2) a2) (s3 : SL L xs (i + 3) a3) (s4 : SL L xs (i + 4) a4) (s5 : SL L xs (i + 5) a5) {st : St} {K : St → Prop} (hk : k + 5 ≤ 601024) (hn : n + 30 ≤ 7293034)
    (h : P_L_years a1 a2 st (fun r1 st1 => P_X12_years 58 a1 a2 st1 (fun r2 st2 => P_X12_thrown 58  st2 (fun r3 st3 => r3 = r1 ∧ (r1 = 0 → gL st3 106 0 = r2.toInt64) ∧ K st3)))) (kk : ∀ st2, K st2 → Jg l E (CFs E L xs) room_1 code 7 RL ret XT QQ (k + 5) (n + 30) 2345 [(0, .ref 1300), (1, .ref 0), (2, .ref 58), (3, .ref 106), (4, .int i)] [] st2) : Jg l E (CFs E L xs) room_1 code 7 RL ret XT QQ k n 542 [(0, .ref 1300), (1, .ref 0), (2, .ref 58), (3, .ref 106), (4, .int i)] [] st := by
  refine J_aload_n 1 dL_law_542 rfl rfl ?_
  refine J_aload_n 0 dL_law_543 rfl rfl ?_
  refine J_iload 4 dL_law_544 rfl ?_
  refine J_iconst 1 dL_law_546 (by decide) ?_
  refine J_iadd dL_law_547 ?_
  refine J_sld s1 dL_law_548 ?_
  refine J_aload_n 0 dL_law_549 rfl rfl ?_
  refine J_iload 4 dL_law_550 rfl ?_
  refine J_iconst 2 dL_law_552 (by decide) ?_
  refine J_iadd dL_law_553 ?_
  refine J_sld s2 dL_law_554 ?_
  refine J_aload_n 3 dL_law_555 rfl rfl ?_
  refine J_csH (As := [_, _, _, _]) mdh_L_years k_1465 rfl rfl ⟨Nat.le_of_ble_eq_true rfl, Nat.le_of_ble_eq_true rfl⟩ ⟨by show k + 2 ≤ 601024; omega, by show n + 12 ≤ 7293034; omega⟩ (Nat.le_of_ble_eq_true rfl) dL_law_556 (CtH_mono CFs_c (CFc_ok E) (ct_L_years hl0 h)) (fun r1 st1 h => ?_)
  refine J_istore _ dL_law_559 (by decide) rfl ?_
  refine J_aload_n 3 dL_law_561 rfl rfl ?_
  refine J_aload_n 1 dL_law_562 rfl rfl ?_
  refine J_iload 5 dL_law_563 rfl ?_
  refine J_iconst 1 dL_law_565 (by decide) ?_
  refine J_iadd dL_law_566 ?_
  refine J_sld s1 dL_law_567 ?_
  refine J_aload_n 1 dL_law_568 rfl rfl ?_
  refine J_iload 5 dL_law_569 rfl ?_
  refine J_iconst 2 dL_law_571 (by decide) ?_
  refine J_iadd dL_law_572 ?_
  refine J_sld s2 dL_law_573 ?_
  refine J_cvi (As := [_, _]) md_X12_years k_1467 (rc_obj cl_12 tb_mo) rfl rfl ⟨Nat.le_of_ble_eq_true rfl, Nat.le_of_ble_eq_true rfl⟩ ⟨by show k + 2 + 0 ≤ 601024; omega, by show n + 12 + 0 ≤ 7293034; omega⟩ (Nat.le_of_ble_eq_true rfl) dL_law_574 (CtI_mono CFs_c (CFc_ok E) (ct_X12_years h)) (fun r2 st2 h => ?_)
  refine J_istore _ dL_law_577 (by decide) rfl ?_
  refine J_aload_n 4 dL_law_579 rfl rfl ?_
  refine J_cvi (As := []) md_X12_thrown k_1441 (rc_obj cl_12 tb_mo) rfl rfl ⟨Nat.le_of_ble_eq_true rfl, Nat.le_of_ble_eq_true rfl⟩ ⟨by show k + 2 + 0 ≤ 601024; omega, by show n + 12 + 0 ≤ 7293034; omega⟩ (Nat.le_of_ble_eq_true rfl) dL_law_580 (CtI_mono CFs_c (CFc_ok E) (ct_X12_thrown h)) (fun r3 st3 h => ?_)
  refine J_iload 1 dL_law_583 rfl ?_
  obtain ⟨he, h⟩ := h
  refine J_icmp_eq 590 dL_law_585 (by decide) (fun _ => ?_) (fun hne => absurd he hne)
  refine J_iload 1 dL_law_590 rfl ?_
  obtain ⟨he2, h⟩ := h
  refine J_if_ne 607 dL_law_592 (by decide) (fun _ => ?_) (fun hz0 => ?_)
  · refine J_goto 2345 dL_law_607 (by decide) ?_; exact J_widen (by omega) (by omega) (J_lv [2, 3, 4, 5, 6] rfl (kk _ h))
  have he2 := he2 hz0
  refine J_aload_n 5 dL_law_595 rfl rfl ?_
  refine J_iconst 0 dL_law_596 (by decide) ?_
  refine J_lald dL_law_597 vi_out ?_
  refine J_iload 0 dL_law_598 rfl ?_
  refine J_i2l dL_law_600 ?_
  refine J_lcmp dL_law_601 ?_
  refine J_if_eq 607 dL_law_602 (by decide) (fun _ => ?_) (fun hne => absurd (lg_cmp0 he2) hne)
  refine J_goto 2345 dL_law_607 (by decide) ?_
  exact J_widen (by omega) (by omega) (J_lv [2, 3, 4, 5, 6] rfl (kk _ h))
set_option maxRecDepth 100000 in
set_option maxHeartbeats 4000000 in
theorem cs_7 {l : Launch} {E : En} (hl0 : l.stackTraces = false) {L : Nat} {xs : Nat → Int32} {XT : Code → Prop} {QQ : List Frame → Array Value → State → Nat → State → Prop} {k n : Nat} {i a1 a2 a3 a4 a5 : Int32} (s1 : SL L xs (i + 1) a1) (s2 : SL L xs (i + 2) a2) (s3 : SL L xs (i + 3) a3) (s4 : SL L xs (i + 4) a4) (s5 : SL L xs (i + 5) a5) {st : St} {K : St → Prop} (hk : k + 5 ≤ 601024) (hn : n + 30 ≤ 7293034)
    (h : P_L_weight a1 a2 st (fun r1 st1 => P_X12_weight 58 a1 a2 st1 (fun r2 st2 => P_X12_thrown 58  st2 (fun r3 st3 => r3 = r1 ∧ (r1 = 0 → gL st3 106 0 = r2.toInt64) ∧ K st3)))) (kk : ∀ st2, K st2 → Jg l E (CFs E L xs) room_1 code 7 RL ret XT QQ (k + 5) (n + 30) 2345 [(0, .ref 1300), (1, .ref 0), (2, .ref 58), (3, .ref 106), (4, .int i)] [] st2) : Jg l E (CFs E L xs) room_1 code 7 RL ret XT QQ k n 610 [(0, .ref 1300), (1, .ref 0), (2, .ref 58), (3, .ref 106), (4, .int i)] [] st := by
  refine J_aload_n 1 dL_law_610 rfl rfl ?_
  refine J_aload_n 0 dL_law_611 rfl rfl ?_
  refine J_iload 4 dL_law_612 rfl ?_
  refine J_iconst 1 dL_law_614 (by decide) ?_
  refine J_iadd dL_law_615 ?_
  refine J_sld s1 dL_law_616 ?_
  refine J_aload_n 0 dL_law_617 rfl rfl ?_
  refine J_iload 4 dL_law_618 rfl ?_
  refine J_iconst 2 dL_law_620 (by decide) ?_
  refine J_iadd dL_law_621 ?_
  refine J_sld s2 dL_law_622 ?_
  refine J_aload_n 3 dL_law_623 rfl rfl ?_
  refine J_csH (As := [_, _, _, _]) mdh_L_weight k_1470 rfl rfl ⟨Nat.le_of_ble_eq_true rfl, Nat.le_of_ble_eq_true rfl⟩ ⟨by show k + 2 ≤ 601024; omega, by show n + 12 ≤ 7293034; omega⟩ (Nat.le_of_ble_eq_true rfl) dL_law_624 (CtH_mono CFs_c (CFc_ok E) (ct_L_weight hl0 h)) (fun r1 st1 h => ?_)
  refine J_istore _ dL_law_627 (by decide) rfl ?_
  refine J_aload_n 3 dL_law_629 rfl rfl ?_
  refine J_aload_n 1 dL_law_630 rfl rfl ?_
  refine J_iload 5 dL_law_631 rfl ?_
  refine J_iconst 1 dL_law_633 (by decide) ?_
  refine J_iadd dL_law_634 ?_
  refine J_sld s1 dL_law_635 ?_
  refine J_aload_n 1 dL_law_636 rfl rfl ?_
  refine J_iload 5 dL_law_637 rfl ?_
  refine J_iconst 2 dL_law_639 (by decide) ?_
  refine J_iadd dL_law_640 ?_
  refine J_sld s2 dL_law_641 ?_
  refine J_cvi (As := [_, _]) md_X12_weight k_1472 (rc_obj cl_12 tb_mo) rfl rfl ⟨Nat.le_of_ble_eq_true rfl, Nat.le_of_ble_eq_true rfl⟩ ⟨by show k + 2 + 0 ≤ 601024; omega, by show n + 12 + 0 ≤ 7293034; omega⟩ (Nat.le_of_ble_eq_true rfl) dL_law_642 (CtI_mono CFs_c (CFc_ok E) (ct_X12_weight h)) (fun r2 st2 h => ?_)
  refine J_istore _ dL_law_645 (by decide) rfl ?_
  refine J_aload_n 4 dL_law_647 rfl rfl ?_
  refine J_cvi (As := []) md_X12_thrown k_1441 (rc_obj cl_12 tb_mo) rfl rfl ⟨Nat.le_of_ble_eq_true rfl, Nat.le_of_ble_eq_true rfl⟩ ⟨by show k + 2 + 0 ≤ 601024; omega, by show n + 12 + 0 ≤ 7293034; omega⟩ (Nat.le_of_ble_eq_true rfl) dL_law_648 (CtI_mono CFs_c (CFc_ok E) (ct_X12_thrown h)) (fun r3 st3 h => ?_)
  refine J_iload 1 dL_law_651 rfl ?_
  obtain ⟨he, h⟩ := h
  refine J_icmp_eq 658 dL_law_653 (by decide) (fun _ => ?_) (fun hne => absurd he hne)
  refine J_iload 1 dL_law_658 rfl ?_
  obtain ⟨he2, h⟩ := h
  refine J_if_ne 675 dL_law_660 (by decide) (fun _ => ?_) (fun hz0 => ?_)
  · refine J_goto 2345 dL_law_675 (by decide) ?_; exact J_widen (by omega) (by omega) (J_lv [2, 3, 4, 5, 6] rfl (kk _ h))
  have he2 := he2 hz0
  refine J_aload_n 5 dL_law_663 rfl rfl ?_
  refine J_iconst 0 dL_law_664 (by decide) ?_
  refine J_lald dL_law_665 vi_out ?_
  refine J_iload 0 dL_law_666 rfl ?_
  refine J_i2l dL_law_668 ?_
  refine J_lcmp dL_law_669 ?_
  refine J_if_eq 675 dL_law_670 (by decide) (fun _ => ?_) (fun hne => absurd (lg_cmp0 he2) hne)
  refine J_goto 2345 dL_law_675 (by decide) ?_
  exact J_widen (by omega) (by omega) (J_lv [2, 3, 4, 5, 6] rfl (kk _ h))
set_option maxRecDepth 100000 in
set_option maxHeartbeats 4000000 in
theorem cs_8 {l : Launch} {E : En} (hl0 : l.stackTraces = false) {L : Nat} {xs : Nat → Int32} {XT : Code → Prop} {QQ : List Frame → Array Value → State → Nat → State → Prop} {k n : Nat} {i a1 a2 a3 a4 a5 : Int32} (s1 : SL L xs (i + 1) a1) (s2 : SL L xs (i + 2) a2) (s3 : SL L xs (i + 3) a3) (s4 : SL L xs (i + 4) a4) (s5 : SL L xs (i + 5) a5) {st : St} {K : St → Prop} (hk : k + 5 ≤ 601024) (hn : n + 30 ≤ 7293034)
    (h : P_X11_days 0 a1 st (fun r1 st1 => P_X12_days 58 a1 st1 (fun r2 st2 => r1 = r2 ∧ K st2))) (kk : ∀ st2, K st2 → Jg l E (CFs E L xs) room_1 code 7 RL ret XT QQ (k + 5) (n + 30) 2345 [(0, .ref 1300), (1, .ref 0), (2, .ref 58), (3, .ref 106), (4, .int i)] [] st2) : Jg l E (CFs E L xs) room_1 code 7 RL ret XT QQ k n 678 [(0, .ref 1300), (1, .ref 0), (2, .ref 58), (3, .ref 106), (4, .int i)] [] st := by
  refine J_aload_n 1 dL_law_678 rfl rfl ?_
  refine J_aload_n 0 dL_law_679 rfl rfl ?_
  refine J_iload 4 dL_law_680 rfl ?_
  refine J_iconst 1 dL_law_682 (by decide) ?_
  refine J_iadd dL_law_683 ?_
  refine J_sld s1 dL_law_684 ?_
  refine J_cvi (As := [_]) md_X11_days k_1475 (rc_obj cl_11 tb_out) rfl rfl ⟨Nat.le_of_ble_eq_true rfl, Nat.le_of_ble_eq_true rfl⟩ ⟨by show k + 0 + 0 ≤ 601024; omega, by show n + 0 + 0 ≤ 7293034; omega⟩ (Nat.le_of_ble_eq_true rfl) dL_law_685 (CtI_mono CFs_c (CFc_ok E) (ct_X11_days h)) (fun r1 st1 h => ?_)
  refine J_aload_n 2 dL_law_688 rfl rfl ?_
  refine J_aload_n 0 dL_law_689 rfl rfl ?_
  refine J_iload 4 dL_law_690 rfl ?_
  refine J_iconst 1 dL_law_692 (by decide) ?_
  refine J_iadd dL_law_693 ?_
  refine J_sld s1 dL_law_694 ?_
  refine J_cvi (As := [_]) md_X12_days k_1478 (rc_obj cl_12 tb_mo) rfl rfl ⟨Nat.le_of_ble_eq_true rfl, Nat.le_of_ble_eq_true rfl⟩ ⟨by show k + 0 + 0 ≤ 601024; omega, by show n + 0 + 0 ≤ 7293034; omega⟩ (Nat.le_of_ble_eq_true rfl) dL_law_695 (CtI_mono CFs_c (CFc_ok E) (ct_X12_days h)) (fun r2 st2 h => ?_)
  obtain ⟨he, h⟩ := h
  refine J_icmp_eq 2345 dL_law_698 (by decide) (fun _ => ?_) (fun hne => absurd he hne)
  exact J_widen (by omega) (by omega) (J_lv [0, 1, 2, 3, 4] rfl (kk _ h))
set_option maxRecDepth 100000 in
set_option maxHeartbeats 4000000 in
theorem cs_9 {l : Launch} {E : En} (hl0 : l.stackTraces = false) {L : Nat} {xs : Nat → Int32} {XT : Code → Prop} {QQ : List Frame → Array Value → State → Nat → State → Prop} {k n : Nat} {i a1 a2 a3 a4 a5 : Int32} (s1 : SL L xs (i + 1) a1) (s2 : SL L xs (i + 2) a2) (s3 : SL L xs (i + 3) a3) (s4 : SL L xs (i + 4) a4) (s5 : SL L xs (i + 5) a5) {st : St} {K : St → Prop} (hk : k + 5 ≤ 601024) (hn : n + 30 ≤ 7293034)
    (h : P_L_train a1 a2 st (fun r1 st1 => P_X12_train 58 a1 a2 st1 (fun r2 st2 => P_X12_thrown 58  st2 (fun r3 st3 => r3 = r1 ∧ (r1 = 0 → gL st3 106 0 = r2.toInt64) ∧ K st3)))) (kk : ∀ st2, K st2 → Jg l E (CFs E L xs) room_1 code 7 RL ret XT QQ (k + 5) (n + 30) 2345 [(0, .ref 1300), (1, .ref 0), (2, .ref 58), (3, .ref 106), (4, .int i)] [] st2) : Jg l E (CFs E L xs) room_1 code 7 RL ret XT QQ k n 703 [(0, .ref 1300), (1, .ref 0), (2, .ref 58), (3, .ref 106), (4, .int i)] [] st := by
  refine J_aload_n 1 dL_law_703 rfl rfl ?_
  refine J_aload_n 0 dL_law_704 rfl rfl ?_
  refine J_iload 4 dL_law_705 rfl ?_
  refine J_iconst 1 dL_law_707 (by decide) ?_
  refine J_iadd dL_law_708 ?_
  refine J_sld s1 dL_law_709 ?_
  refine J_aload_n 0 dL_law_710 rfl rfl ?_
  refine J_iload 4 dL_law_711 rfl ?_
  refine J_iconst 2 dL_law_713 (by decide) ?_
  refine J_iadd dL_law_714 ?_
  refine J_sld s2 dL_law_715 ?_
  refine J_aload_n 3 dL_law_716 rfl rfl ?_
  refine J_csH (As := [_, _, _, _]) mdh_L_train k_1481 rfl rfl ⟨Nat.le_of_ble_eq_true rfl, Nat.le_of_ble_eq_true rfl⟩ ⟨by show k + 1 ≤ 601024; omega, by show n + 6 ≤ 7293034; omega⟩ (Nat.le_of_ble_eq_true rfl) dL_law_717 (CtH_mono CFs_c (CFc_ok E) (ct_L_train hl0 h)) (fun r1 st1 h => ?_)
  refine J_istore _ dL_law_720 (by decide) rfl ?_
  refine J_aload_n 3 dL_law_722 rfl rfl ?_
  refine J_aload_n 1 dL_law_723 rfl rfl ?_
  refine J_iload 5 dL_law_724 rfl ?_
  refine J_iconst 1 dL_law_726 (by decide) ?_
  refine J_iadd dL_law_727 ?_
  refine J_sld s1 dL_law_728 ?_
  refine J_aload_n 1 dL_law_729 rfl rfl ?_
  refine J_iload 5 dL_law_730 rfl ?_
  refine J_iconst 2 dL_law_732 (by decide) ?_
  refine J_iadd dL_law_733 ?_
  refine J_sld s2 dL_law_734 ?_
  refine J_cvi (As := [_, _]) md_X12_train k_1483 (rc_obj cl_12 tb_mo) rfl rfl ⟨Nat.le_of_ble_eq_true rfl, Nat.le_of_ble_eq_true rfl⟩ ⟨by show k + 1 + 0 ≤ 601024; omega, by show n + 6 + 0 ≤ 7293034; omega⟩ (Nat.le_of_ble_eq_true rfl) dL_law_735 (CtI_mono CFs_c (CFc_ok E) (ct_X12_train h)) (fun r2 st2 h => ?_)
  refine J_istore _ dL_law_738 (by decide) rfl ?_
  refine J_aload_n 4 dL_law_740 rfl rfl ?_
  refine J_cvi (As := []) md_X12_thrown k_1441 (rc_obj cl_12 tb_mo) rfl rfl ⟨Nat.le_of_ble_eq_true rfl, Nat.le_of_ble_eq_true rfl⟩ ⟨by show k + 1 + 0 ≤ 601024; omega, by show n + 6 + 0 ≤ 7293034; omega⟩ (Nat.le_of_ble_eq_true rfl) dL_law_741 (CtI_mono CFs_c (CFc_ok E) (ct_X12_thrown h)) (fun r3 st3 h => ?_)
  refine J_iload 1 dL_law_744 rfl ?_
  obtain ⟨he, h⟩ := h
  refine J_icmp_eq 751 dL_law_746 (by decide) (fun _ => ?_) (fun hne => absurd he hne)
  refine J_iload 1 dL_law_751 rfl ?_
  obtain ⟨he2, h⟩ := h
  refine J_if_ne 768 dL_law_753 (by decide) (fun _ => ?_) (fun hz0 => ?_)
  · refine J_goto 2345 dL_law_768 (by decide) ?_; exact J_widen (by omega) (by omega) (J_lv [2, 3, 4, 5, 6] rfl (kk _ h))
  have he2 := he2 hz0
  refine J_aload_n 5 dL_law_756 rfl rfl ?_
  refine J_iconst 0 dL_law_757 (by decide) ?_
  refine J_lald dL_law_758 vi_out ?_
  refine J_iload 0 dL_law_759 rfl ?_
  refine J_i2l dL_law_761 ?_
  refine J_lcmp dL_law_762 ?_
  refine J_if_eq 768 dL_law_763 (by decide) (fun _ => ?_) (fun hne => absurd (lg_cmp0 he2) hne)
  refine J_goto 2345 dL_law_768 (by decide) ?_
  exact J_widen (by omega) (by omega) (J_lv [2, 3, 4, 5, 6] rfl (kk _ h))
set_option maxRecDepth 100000 in
set_option maxHeartbeats 4000000 in
theorem cs_10 {l : Launch} {E : En} (hl0 : l.stackTraces = false) {L : Nat} {xs : Nat → Int32} {XT : Code → Prop} {QQ : List Frame → Array Value → State → Nat → State → Prop} {k n : Nat} {i a1 a2 a3 a4 a5 : Int32} (s1 : SL L xs (i + 1) a1) (s2 : SL L xs (i + 2) a2) (s3 : SL L xs (i + 3) a3) (s4 : SL L xs (i + 4) a4) (s5 : SL L xs (i + 5) a5) {st : St} {K : St → Prop} (hk : k + 5 ≤ 601024) (hn : n + 30 ≤ 7293034)
    (h : P_L_onions a1 a2 st (fun r1 st1 => P_X12_onions 58 a1 a2 st1 (fun r2 st2 => P_X12_thrown 58  st2 (fun r3 st3 => r3 = r1 ∧ (r1 = 0 → gL st3 106 0 = r2.toInt64) ∧ K st3)))) (kk : ∀ st2, K st2 → Jg l E (CFs E L xs) room_1 code 7 RL ret XT QQ (k + 5) (n + 30) 2345 [(0, .ref 1300), (1, .ref 0), (2, .ref 58), (3, .ref 106), (4, .int i)] [] st2) : Jg l E (CFs E L xs) room_1 code 7 RL ret XT QQ k n 771 [(0, .ref 1300), (1, .ref 0), (2, .ref 58), (3, .ref 106), (4, .int i)] [] st := by
  refine J_aload_n 1 dL_law_771 rfl rfl ?_
  refine J_aload_n 0 dL_law_772 rfl rfl ?_
  refine J_iload 4 dL_law_773 rfl ?_
  refine J_iconst 1 dL_law_775 (by decide) ?_
  refine J_iadd dL_law_776 ?_
  refine J_sld s1 dL_law_777 ?_
  refine J_aload_n 0 dL_law_778 rfl rfl ?_
  refine J_iload 4 dL_law_779 rfl ?_
  refine J_iconst 2 dL_law_781 (by decide) ?_
  refine J_iadd dL_law_782 ?_
  refine J_sld s2 dL_law_783 ?_
  refine J_aload_n 3 dL_law_784 rfl rfl ?_
  refine J_csH (As := [_, _, _, _]) mdh_L_onions k_1486 rfl rfl ⟨Nat.le_of_ble_eq_true rfl, Nat.le_of_ble_eq_true rfl⟩ ⟨by show k + 1 ≤ 601024; omega, by show n + 6 ≤ 7293034; omega⟩ (Nat.le_of_ble_eq_true rfl) dL_law_785 (CtH_mono CFs_c (CFc_ok E) (ct_L_onions hl0 h)) (fun r1 st1 h => ?_)
  refine J_istore _ dL_law_788 (by decide) rfl ?_
  refine J_aload_n 3 dL_law_790 rfl rfl ?_
  refine J_aload_n 1 dL_law_791 rfl rfl ?_
  refine J_iload 5 dL_law_792 rfl ?_
  refine J_iconst 1 dL_law_794 (by decide) ?_
  refine J_iadd dL_law_795 ?_
  refine J_sld s1 dL_law_796 ?_
  refine J_aload_n 1 dL_law_797 rfl rfl ?_
  refine J_iload 5 dL_law_798 rfl ?_
  refine J_iconst 2 dL_law_800 (by decide) ?_
  refine J_iadd dL_law_801 ?_
  refine J_sld s2 dL_law_802 ?_
  refine J_cvi (As := [_, _]) md_X12_onions k_1488 (rc_obj cl_12 tb_mo) rfl rfl ⟨Nat.le_of_ble_eq_true rfl, Nat.le_of_ble_eq_true rfl⟩ ⟨by show k + 1 + 0 ≤ 601024; omega, by show n + 6 + 0 ≤ 7293034; omega⟩ (Nat.le_of_ble_eq_true rfl) dL_law_803 (CtI_mono CFs_c (CFc_ok E) (ct_X12_onions h)) (fun r2 st2 h => ?_)
  refine J_istore _ dL_law_806 (by decide) rfl ?_
  refine J_aload_n 4 dL_law_808 rfl rfl ?_
  refine J_cvi (As := []) md_X12_thrown k_1441 (rc_obj cl_12 tb_mo) rfl rfl ⟨Nat.le_of_ble_eq_true rfl, Nat.le_of_ble_eq_true rfl⟩ ⟨by show k + 1 + 0 ≤ 601024; omega, by show n + 6 + 0 ≤ 7293034; omega⟩ (Nat.le_of_ble_eq_true rfl) dL_law_809 (CtI_mono CFs_c (CFc_ok E) (ct_X12_thrown h)) (fun r3 st3 h => ?_)
  refine J_iload 1 dL_law_812 rfl ?_
  obtain ⟨he, h⟩ := h
  refine J_icmp_eq 819 dL_law_814 (by decide) (fun _ => ?_) (fun hne => absurd he hne)
  refine J_iload 1 dL_law_819 rfl ?_
  obtain ⟨he2, h⟩ := h
  refine J_if_ne 836 dL_law_821 (by decide) (fun _ => ?_) (fun hz0 => ?_)
  · refine J_goto 2345 dL_law_836 (by decide) ?_; exact J_widen (by omega) (by omega) (J_lv [2, 3, 4, 5, 6] rfl (kk _ h))
  have he2 := he2 hz0
  refine J_aload_n 5 dL_law_824 rfl rfl ?_
  refine J_iconst 0 dL_law_825 (by decide) ?_
  refine J_lald dL_law_826 vi_out ?_
  refine J_iload 0 dL_law_827 rfl ?_
  refine J_i2l dL_law_829 ?_
  refine J_lcmp dL_law_830 ?_
  refine J_if_eq 836 dL_law_831 (by decide) (fun _ => ?_) (fun hne => absurd (lg_cmp0 he2) hne)
  refine J_goto 2345 dL_law_836 (by decide) ?_
  exact J_widen (by omega) (by omega) (J_lv [2, 3, 4, 5, 6] rfl (kk _ h))
set_option maxRecDepth 100000 in
set_option maxHeartbeats 4000000 in
theorem cs_11 {l : Launch} {E : En} (hl0 : l.stackTraces = false) {L : Nat} {xs : Nat → Int32} {XT : Code → Prop} {QQ : List Frame → Array Value → State → Nat → State → Prop} {k n : Nat} {i a1 a2 a3 a4 a5 : Int32} (s1 : SL L xs (i + 1) a1) (s2 : SL L xs (i + 2) a2) (s3 : SL L xs (i + 3) a3) (s4 : SL L xs (i + 4) a4) (s5 : SL L xs (i + 5) a5) {st : St} {K : St → Prop} (hk : k + 5 ≤ 601024) (hn : n + 30 ≤ 7293034)
    (h : P_L_putOff a1 a2 st (fun r1 st1 => P_X12_putOff 58 a1 a2 st1 (fun r2 st2 => P_X12_thrown 58  st2 (fun r3 st3 => r3 = r1 ∧ (r1 = 0 → gL st3 106 0 = r2.toInt64) ∧ K st3)))) (kk : ∀ st2, K st2 → Jg l E (CFs E L xs) room_1 code 7 RL ret XT QQ (k + 5) (n + 30) 2345 [(0, .ref 1300), (1, .ref 0), (2, .ref 58), (3, .ref 106), (4, .int i)] [] st2) : Jg l E (CFs E L xs) room_1 code 7 RL ret XT QQ k n 839 [(0, .ref 1300), (1, .ref 0), (2, .ref 58), (3, .ref 106), (4, .int i)] [] st := by
  refine J_aload_n 1 dL_law_839 rfl rfl ?_
  refine J_aload_n 0 dL_law_840 rfl rfl ?_
  refine J_iload 4 dL_law_841 rfl ?_
  refine J_iconst 1 dL_law_843 (by decide) ?_
  refine J_iadd dL_law_844 ?_
  refine J_sld s1 dL_law_845 ?_
  refine J_aload_n 0 dL_law_846 rfl rfl ?_
  refine J_iload 4 dL_law_847 rfl ?_
  refine J_iconst 2 dL_law_849 (by decide) ?_
  refine J_iadd dL_law_850 ?_
  refine J_sld s2 dL_law_851 ?_
  refine J_aload_n 3 dL_law_852 rfl rfl ?_
  refine J_csH (As := [_, _, _, _]) mdh_L_putOff k_1491 rfl rfl ⟨Nat.le_of_ble_eq_true rfl, Nat.le_of_ble_eq_true rfl⟩ ⟨by show k + 1 ≤ 601024; omega, by show n + 6 ≤ 7293034; omega⟩ (Nat.le_of_ble_eq_true rfl) dL_law_853 (CtH_mono CFs_c (CFc_ok E) (ct_L_putOff hl0 h)) (fun r1 st1 h => ?_)
  refine J_istore _ dL_law_856 (by decide) rfl ?_
  refine J_aload_n 3 dL_law_858 rfl rfl ?_
  refine J_aload_n 1 dL_law_859 rfl rfl ?_
  refine J_iload 5 dL_law_860 rfl ?_
  refine J_iconst 1 dL_law_862 (by decide) ?_
  refine J_iadd dL_law_863 ?_
  refine J_sld s1 dL_law_864 ?_
  refine J_aload_n 1 dL_law_865 rfl rfl ?_
  refine J_iload 5 dL_law_866 rfl ?_
  refine J_iconst 2 dL_law_868 (by decide) ?_
  refine J_iadd dL_law_869 ?_
  refine J_sld s2 dL_law_870 ?_
  refine J_cvi (As := [_, _]) md_X12_putOff k_1493 (rc_obj cl_12 tb_mo) rfl rfl ⟨Nat.le_of_ble_eq_true rfl, Nat.le_of_ble_eq_true rfl⟩ ⟨by show k + 1 + 0 ≤ 601024; omega, by show n + 6 + 0 ≤ 7293034; omega⟩ (Nat.le_of_ble_eq_true rfl) dL_law_871 (CtI_mono CFs_c (CFc_ok E) (ct_X12_putOff h)) (fun r2 st2 h => ?_)
  refine J_istore _ dL_law_874 (by decide) rfl ?_
  refine J_aload_n 4 dL_law_876 rfl rfl ?_
  refine J_cvi (As := []) md_X12_thrown k_1441 (rc_obj cl_12 tb_mo) rfl rfl ⟨Nat.le_of_ble_eq_true rfl, Nat.le_of_ble_eq_true rfl⟩ ⟨by show k + 1 + 0 ≤ 601024; omega, by show n + 6 + 0 ≤ 7293034; omega⟩ (Nat.le_of_ble_eq_true rfl) dL_law_877 (CtI_mono CFs_c (CFc_ok E) (ct_X12_thrown h)) (fun r3 st3 h => ?_)
  refine J_iload 1 dL_law_880 rfl ?_
  obtain ⟨he, h⟩ := h
  refine J_icmp_eq 887 dL_law_882 (by decide) (fun _ => ?_) (fun hne => absurd he hne)
  refine J_iload 1 dL_law_887 rfl ?_
  obtain ⟨he2, h⟩ := h
  refine J_if_ne 904 dL_law_889 (by decide) (fun _ => ?_) (fun hz0 => ?_)
  · refine J_goto 2345 dL_law_904 (by decide) ?_; exact J_widen (by omega) (by omega) (J_lv [2, 3, 4, 5, 6] rfl (kk _ h))
  have he2 := he2 hz0
  refine J_aload_n 5 dL_law_892 rfl rfl ?_
  refine J_iconst 0 dL_law_893 (by decide) ?_
  refine J_lald dL_law_894 vi_out ?_
  refine J_iload 0 dL_law_895 rfl ?_
  refine J_i2l dL_law_897 ?_
  refine J_lcmp dL_law_898 ?_
  refine J_if_eq 904 dL_law_899 (by decide) (fun _ => ?_) (fun hne => absurd (lg_cmp0 he2) hne)
  refine J_goto 2345 dL_law_904 (by decide) ?_
  exact J_widen (by omega) (by omega) (J_lv [2, 3, 4, 5, 6] rfl (kk _ h))
set_option maxRecDepth 100000 in
set_option maxHeartbeats 4000000 in
theorem cs_12 {l : Launch} {E : En} (hl0 : l.stackTraces = false) {L : Nat} {xs : Nat → Int32} {XT : Code → Prop} {QQ : List Frame → Array Value → State → Nat → State → Prop} {k n : Nat} {i a1 a2 a3 a4 a5 : Int32} (s1 : SL L xs (i + 1) a1) (s2 : SL L xs (i + 2) a2) (s3 : SL L xs (i + 3) a3) (s4 : SL L xs (i + 4) a4) (s5 : SL L xs (i + 5) a5) {st : St} {K : St → Prop} (hk : k + 5 ≤ 601024) (hn : n + 30 ≤ 7293034)
    (h : P_L_tie a1 a2 a3 st (fun r1 st1 => P_X12_tie 58 a1 a2 a3 st1 (fun r2 st2 => P_X12_thrown 58  st2 (fun r3 st3 => r3 = r1 ∧ (r1 = 0 → gL st3 106 0 = r2.toInt64) ∧ K st3)))) (kk : ∀ st2, K st2 → Jg l E (CFs E L xs) room_1 code 7 RL ret XT QQ (k + 5) (n + 30) 2345 [(0, .ref 1300), (1, .ref 0), (2, .ref 58), (3, .ref 106), (4, .int i)] [] st2) : Jg l E (CFs E L xs) room_1 code 7 RL ret XT QQ k n 907 [(0, .ref 1300), (1, .ref 0), (2, .ref 58), (3, .ref 106), (4, .int i)] [] st := by
  refine J_aload_n 1 dL_law_907 rfl rfl ?_
  refine J_aload_n 0 dL_law_908 rfl rfl ?_
  refine J_iload 4 dL_law_909 rfl ?_
  refine J_iconst 1 dL_law_911 (by decide) ?_
  refine J_iadd dL_law_912 ?_
  refine J_sld s1 dL_law_913 ?_
  refine J_aload_n 0 dL_law_914 rfl rfl ?_
  refine J_iload 4 dL_law_915 rfl ?_
  refine J_iconst 2 dL_law_917 (by decide) ?_
  refine J_iadd dL_law_918 ?_
  refine J_sld s2 dL_law_919 ?_
  refine J_aload_n 0 dL_law_920 rfl rfl ?_
  refine J_iload 4 dL_law_921 rfl ?_
  refine J_iconst 3 dL_law_923 (by decide) ?_
  refine J_iadd dL_law_924 ?_
  refine J_sld s3 dL_law_925 ?_
  refine J_aload_n 3 dL_law_926 rfl rfl ?_
  refine J_csH (As := [_, _, _, _, _]) mdh_L_tie k_1496 rfl rfl ⟨Nat.le_of_ble_eq_true rfl, Nat.le_of_ble_eq_true rfl⟩ ⟨by show k + 2 ≤ 601024; omega, by show n + 12 ≤ 7293034; omega⟩ (Nat.le_of_ble_eq_true rfl) dL_law_927 (CtH_mono CFs_c (CFc_ok E) (ct_L_tie hl0 h)) (fun r1 st1 h => ?_)
  refine J_istore _ dL_law_930 (by decide) rfl ?_
  refine J_aload_n 3 dL_law_932 rfl rfl ?_
  refine J_aload_n 1 dL_law_933 rfl rfl ?_
  refine J_iload 5 dL_law_934 rfl ?_
  refine J_iconst 1 dL_law_936 (by decide) ?_
  refine J_iadd dL_law_937 ?_
  refine J_sld s1 dL_law_938 ?_
  refine J_aload_n 1 dL_law_939 rfl rfl ?_
  refine J_iload 5 dL_law_940 rfl ?_
  refine J_iconst 2 dL_law_942 (by decide) ?_
  refine J_iadd dL_law_943 ?_
  refine J_sld s2 dL_law_944 ?_
  refine J_aload_n 1 dL_law_945 rfl rfl ?_
  refine J_iload 5 dL_law_946 rfl ?_
  refine J_iconst 3 dL_law_948 (by decide) ?_
  refine J_iadd dL_law_949 ?_
  refine J_sld s3 dL_law_950 ?_
  refine J_cvi (As := [_, _, _]) md_X12_tie k_1498 (rc_obj cl_12 tb_mo) rfl rfl ⟨Nat.le_of_ble_eq_true rfl, Nat.le_of_ble_eq_true rfl⟩ ⟨by show k + 2 + 0 ≤ 601024; omega, by show n + 12 + 0 ≤ 7293034; omega⟩ (Nat.le_of_ble_eq_true rfl) dL_law_951 (CtI_mono CFs_c (CFc_ok E) (ct_X12_tie h)) (fun r2 st2 h => ?_)
  refine J_istore _ dL_law_954 (by decide) rfl ?_
  refine J_aload_n 4 dL_law_956 rfl rfl ?_
  refine J_cvi (As := []) md_X12_thrown k_1441 (rc_obj cl_12 tb_mo) rfl rfl ⟨Nat.le_of_ble_eq_true rfl, Nat.le_of_ble_eq_true rfl⟩ ⟨by show k + 2 + 0 ≤ 601024; omega, by show n + 12 + 0 ≤ 7293034; omega⟩ (Nat.le_of_ble_eq_true rfl) dL_law_957 (CtI_mono CFs_c (CFc_ok E) (ct_X12_thrown h)) (fun r3 st3 h => ?_)
  refine J_iload 1 dL_law_960 rfl ?_
  obtain ⟨he, h⟩ := h
  refine J_icmp_eq 967 dL_law_962 (by decide) (fun _ => ?_) (fun hne => absurd he hne)
  refine J_iload 1 dL_law_967 rfl ?_
  obtain ⟨he2, h⟩ := h
  refine J_if_ne 984 dL_law_969 (by decide) (fun _ => ?_) (fun hz0 => ?_)
  · refine J_goto 2345 dL_law_984 (by decide) ?_; exact J_widen (by omega) (by omega) (J_lv [2, 3, 4, 5, 6] rfl (kk _ h))
  have he2 := he2 hz0
  refine J_aload_n 5 dL_law_972 rfl rfl ?_
  refine J_iconst 0 dL_law_973 (by decide) ?_
  refine J_lald dL_law_974 vi_out ?_
  refine J_iload 0 dL_law_975 rfl ?_
  refine J_i2l dL_law_977 ?_
  refine J_lcmp dL_law_978 ?_
  refine J_if_eq 984 dL_law_979 (by decide) (fun _ => ?_) (fun hne => absurd (lg_cmp0 he2) hne)
  refine J_goto 2345 dL_law_984 (by decide) ?_
  exact J_widen (by omega) (by omega) (J_lv [2, 3, 4, 5, 6] rfl (kk _ h))
set_option maxRecDepth 100000 in
set_option maxHeartbeats 4000000 in
theorem cs_13 {l : Launch} {E : En} (hl0 : l.stackTraces = false) {L : Nat} {xs : Nat → Int32} {XT : Code → Prop} {QQ : List Frame → Array Value → State → Nat → State → Prop} {k n : Nat} {i a1 a2 a3 a4 a5 : Int32} (s1 : SL L xs (i + 1) a1) (s2 : SL L xs (i + 2) a2) (s3 : SL L xs (i + 3) a3) (s4 : SL L xs (i + 4) a4) (s5 : SL L xs (i + 5) a5) {st : St} {K : St → Prop} (hk : k + 5 ≤ 601024) (hn : n + 30 ≤ 7293034)
    (h : P_X11_undo 0  st (fun r1 st1 => P_X12_undo 58  st1 (fun r2 st2 => r1 = r2 ∧ K st2))) (kk : ∀ st2, K st2 → Jg l E (CFs E L xs) room_1 code 7 RL ret XT QQ (k + 5) (n + 30) 2345 [(0, .ref 1300), (1, .ref 0), (2, .ref 58), (3, .ref 106), (4, .int i)] [] st2) : Jg l E (CFs E L xs) room_1 code 7 RL ret XT QQ k n 987 [(0, .ref 1300), (1, .ref 0), (2, .ref 58), (3, .ref 106), (4, .int i)] [] st := by
  refine J_aload_n 1 dL_law_987 rfl rfl ?_
  refine J_cvi (As := []) md_X11_undo k_1501 (rc_obj cl_11 tb_out) rfl rfl ⟨Nat.le_of_ble_eq_true rfl, Nat.le_of_ble_eq_true rfl⟩ ⟨by show k + 0 + 0 ≤ 601024; omega, by show n + 0 + 0 ≤ 7293034; omega⟩ (Nat.le_of_ble_eq_true rfl) dL_law_988 (CtI_mono CFs_c (CFc_ok E) (ct_X11_undo h)) (fun r1 st1 h => ?_)
  refine J_aload_n 2 dL_law_991 rfl rfl ?_
  refine J_cvi (As := []) md_X12_undo k_1504 (rc_obj cl_12 tb_mo) rfl rfl ⟨Nat.le_of_ble_eq_true rfl, Nat.le_of_ble_eq_true rfl⟩ ⟨by show k + 0 + 0 ≤ 601024; omega, by show n + 0 + 0 ≤ 7293034; omega⟩ (Nat.le_of_ble_eq_true rfl) dL_law_992 (CtI_mono CFs_c (CFc_ok E) (ct_X12_undo h)) (fun r2 st2 h => ?_)
  obtain ⟨he, h⟩ := h
  refine J_icmp_eq 2345 dL_law_995 (by decide) (fun _ => ?_) (fun hne => absurd he hne)
  exact J_widen (by omega) (by omega) (J_lv [0, 1, 2, 3, 4] rfl (kk _ h))
set_option maxRecDepth 100000 in
set_option maxHeartbeats 4000000 in
theorem cs_14 {l : Launch} {E : En} (hl0 : l.stackTraces = false) {L : Nat} {xs : Nat → Int32} {XT : Code → Prop} {QQ : List Frame → Array Value → State → Nat → State → Prop} {k n : Nat} {i a1 a2 a3 a4 a5 : Int32} (s1 : SL L xs (i + 1) a1) (s2 : SL L xs (i + 2) a2) (s3 : SL L xs (i + 3) a3) (s4 : SL L xs (i + 4) a4) (s5 : SL L xs (i + 5) a5) {st : St} {K : St → Prop} (hk : k + 5 ≤ 601024) (hn : n + 30 ≤ 7293034)
    (h : P_L_leader a1 st (fun r1 st1 => P_X12_leader 58 a1 st1 (fun r2 st2 => P_X12_thrown 58  st2 (fun r3 st3 => r3 = r1 ∧ (r1 = 0 → gL st3 106 0 = r2.toInt64) ∧ K st3)))) (kk : ∀ st2, K st2 → Jg l E (CFs E L xs) room_1 code 7 RL ret XT QQ (k + 5) (n + 30) 2345 [(0, .ref 1300), (1, .ref 0), (2, .ref 58), (3, .ref 106), (4, .int i)] [] st2) : Jg l E (CFs E L xs) room_1 code 7 RL ret XT QQ k n 1000 [(0, .ref 1300), (1, .ref 0), (2, .ref 58), (3, .ref 106), (4, .int i)] [] st := by
  refine J_aload_n 1 dL_law_1000 rfl rfl ?_
  refine J_aload_n 0 dL_law_1001 rfl rfl ?_
  refine J_iload 4 dL_law_1002 rfl ?_
  refine J_iconst 1 dL_law_1004 (by decide) ?_
  refine J_iadd dL_law_1005 ?_
  refine J_sld s1 dL_law_1006 ?_
  refine J_aload_n 3 dL_law_1007 rfl rfl ?_
  refine J_csH (As := [_, _, _]) mdh_L_leader k_1507 rfl rfl ⟨Nat.le_of_ble_eq_true rfl, Nat.le_of_ble_eq_true rfl⟩ ⟨by show k + 1 ≤ 601024; omega, by show n + 6 ≤ 7293034; omega⟩ (Nat.le_of_ble_eq_true rfl) dL_law_1008 (CtH_mono CFs_c (CFc_ok E) (ct_L_leader hl0 h)) (fun r1 st1 h => ?_)
  refine J_istore _ dL_law_1011 (by decide) rfl ?_
  refine J_aload_n 3 dL_law_1013 rfl rfl ?_
  refine J_aload_n 1 dL_law_1014 rfl rfl ?_
  refine J_iload 5 dL_law_1015 rfl ?_
  refine J_iconst 1 dL_law_1017 (by decide) ?_
  refine J_iadd dL_law_1018 ?_
  refine J_sld s1 dL_law_1019 ?_
  refine J_cvi (As := [_]) md_X12_leader k_1509 (rc_obj cl_12 tb_mo) rfl rfl ⟨Nat.le_of_ble_eq_true rfl, Nat.le_of_ble_eq_true rfl⟩ ⟨by show k + 1 + 0 ≤ 601024; omega, by show n + 6 + 0 ≤ 7293034; omega⟩ (Nat.le_of_ble_eq_true rfl) dL_law_1020 (CtI_mono CFs_c (CFc_ok E) (ct_X12_leader h)) (fun r2 st2 h => ?_)
  refine J_istore _ dL_law_1023 (by decide) rfl ?_
  refine J_aload_n 4 dL_law_1025 rfl rfl ?_
  refine J_cvi (As := []) md_X12_thrown k_1441 (rc_obj cl_12 tb_mo) rfl rfl ⟨Nat.le_of_ble_eq_true rfl, Nat.le_of_ble_eq_true rfl⟩ ⟨by show k + 1 + 0 ≤ 601024; omega, by show n + 6 + 0 ≤ 7293034; omega⟩ (Nat.le_of_ble_eq_true rfl) dL_law_1026 (CtI_mono CFs_c (CFc_ok E) (ct_X12_thrown h)) (fun r3 st3 h => ?_)
  refine J_iload 1 dL_law_1029 rfl ?_
  obtain ⟨he, h⟩ := h
  refine J_icmp_eq 1036 dL_law_1031 (by decide) (fun _ => ?_) (fun hne => absurd he hne)
  refine J_iload 1 dL_law_1036 rfl ?_
  obtain ⟨he2, h⟩ := h
  refine J_if_ne 1053 dL_law_1038 (by decide) (fun _ => ?_) (fun hz0 => ?_)
  · refine J_goto 2345 dL_law_1053 (by decide) ?_; exact J_widen (by omega) (by omega) (J_lv [2, 3, 4, 5, 6] rfl (kk _ h))
  have he2 := he2 hz0
  refine J_aload_n 5 dL_law_1041 rfl rfl ?_
  refine J_iconst 0 dL_law_1042 (by decide) ?_
  refine J_lald dL_law_1043 vi_out ?_
  refine J_iload 0 dL_law_1044 rfl ?_
  refine J_i2l dL_law_1046 ?_
  refine J_lcmp dL_law_1047 ?_
  refine J_if_eq 1053 dL_law_1048 (by decide) (fun _ => ?_) (fun hne => absurd (lg_cmp0 he2) hne)
  refine J_goto 2345 dL_law_1053 (by decide) ?_
  exact J_widen (by omega) (by omega) (J_lv [2, 3, 4, 5, 6] rfl (kk _ h))
set_option maxRecDepth 100000 in
set_option maxHeartbeats 4000000 in
theorem cs_15 {l : Launch} {E : En} (hl0 : l.stackTraces = false) {L : Nat} {xs : Nat → Int32} {XT : Code → Prop} {QQ : List Frame → Array Value → State → Nat → State → Prop} {k n : Nat} {i a1 a2 a3 a4 a5 : Int32} (s1 : SL L xs (i + 1) a1) (s2 : SL L xs (i + 2) a2) (s3 : SL L xs (i + 3) a3) (s4 : SL L xs (i + 4) a4) (s5 : SL L xs (i + 5) a5) {st : St} {K : St → Prop} (hk : k + 5 ≤ 601024) (hn : n + 30 ≤ 7293034)
    (h : P_L_then a1 a2 st (fun r1 st1 => P_X12_then 58 a1 a2 st1 (fun r2 st2 => P_X12_thrown 58  st2 (fun r3 st3 => r3 = r1 ∧ (r1 = 0 → gL st3 106 0 = r2.toInt64) ∧ K st3)))) (kk : ∀ st2, K st2 → Jg l E (CFs E L xs) room_1 code 7 RL ret XT QQ (k + 5) (n + 30) 2345 [(0, .ref 1300), (1, .ref 0), (2, .ref 58), (3, .ref 106), (4, .int i)] [] st2) : Jg l E (CFs E L xs) room_1 code 7 RL ret XT QQ k n 1056 [(0, .ref 1300), (1, .ref 0), (2, .ref 58), (3, .ref 106), (4, .int i)] [] st := by
  refine J_aload_n 1 dL_law_1056 rfl rfl ?_
  refine J_aload_n 0 dL_law_1057 rfl rfl ?_
  refine J_iload 4 dL_law_1058 rfl ?_
  refine J_iconst 1 dL_law_1060 (by decide) ?_
  refine J_iadd dL_law_1061 ?_
  refine J_sld s1 dL_law_1062 ?_
  refine J_aload_n 0 dL_law_1063 rfl rfl ?_
  refine J_iload 4 dL_law_1064 rfl ?_
  refine J_iconst 2 dL_law_1066 (by decide) ?_
  refine J_iadd dL_law_1067 ?_
  refine J_sld s2 dL_law_1068 ?_
  refine J_aload_n 3 dL_law_1069 rfl rfl ?_
  refine J_csH (As := [_, _, _, _]) mdh_L_then k_1512 rfl rfl ⟨Nat.le_of_ble_eq_true rfl, Nat.le_of_ble_eq_true rfl⟩ ⟨by show k + 2 ≤ 601024; omega, by show n + 12 ≤ 7293034; omega⟩ (Nat.le_of_ble_eq_true rfl) dL_law_1070 (CtH_mono CFs_c (CFc_ok E) (ct_L_then hl0 h)) (fun r1 st1 h => ?_)
  refine J_istore _ dL_law_1073 (by decide) rfl ?_
  refine J_aload_n 3 dL_law_1075 rfl rfl ?_
  refine J_aload_n 1 dL_law_1076 rfl rfl ?_
  refine J_iload 5 dL_law_1077 rfl ?_
  refine J_iconst 1 dL_law_1079 (by decide) ?_
  refine J_iadd dL_law_1080 ?_
  refine J_sld s1 dL_law_1081 ?_
  refine J_aload_n 1 dL_law_1082 rfl rfl ?_
  refine J_iload 5 dL_law_1083 rfl ?_
  refine J_iconst 2 dL_law_1085 (by decide) ?_
  refine J_iadd dL_law_1086 ?_
  refine J_sld s2 dL_law_1087 ?_
  refine J_cvi (As := [_, _]) md_X12_then k_1514 (rc_obj cl_12 tb_mo) rfl rfl ⟨Nat.le_of_ble_eq_true rfl, Nat.le_of_ble_eq_true rfl⟩ ⟨by show k + 2 + 0 ≤ 601024; omega, by show n + 12 + 0 ≤ 7293034; omega⟩ (Nat.le_of_ble_eq_true rfl) dL_law_1088 (CtI_mono CFs_c (CFc_ok E) (ct_X12_then h)) (fun r2 st2 h => ?_)
  refine J_istore _ dL_law_1091 (by decide) rfl ?_
  refine J_aload_n 4 dL_law_1093 rfl rfl ?_
  refine J_cvi (As := []) md_X12_thrown k_1441 (rc_obj cl_12 tb_mo) rfl rfl ⟨Nat.le_of_ble_eq_true rfl, Nat.le_of_ble_eq_true rfl⟩ ⟨by show k + 2 + 0 ≤ 601024; omega, by show n + 12 + 0 ≤ 7293034; omega⟩ (Nat.le_of_ble_eq_true rfl) dL_law_1094 (CtI_mono CFs_c (CFc_ok E) (ct_X12_thrown h)) (fun r3 st3 h => ?_)
  refine J_iload 1 dL_law_1097 rfl ?_
  obtain ⟨he, h⟩ := h
  refine J_icmp_eq 1104 dL_law_1099 (by decide) (fun _ => ?_) (fun hne => absurd he hne)
  refine J_iload 1 dL_law_1104 rfl ?_
  obtain ⟨he2, h⟩ := h
  refine J_if_ne 1121 dL_law_1106 (by decide) (fun _ => ?_) (fun hz0 => ?_)
  · refine J_goto 2345 dL_law_1121 (by decide) ?_; exact J_widen (by omega) (by omega) (J_lv [2, 3, 4, 5, 6] rfl (kk _ h))
  have he2 := he2 hz0
  refine J_aload_n 5 dL_law_1109 rfl rfl ?_
  refine J_iconst 0 dL_law_1110 (by decide) ?_
  refine J_lald dL_law_1111 vi_out ?_
  refine J_iload 0 dL_law_1112 rfl ?_
  refine J_i2l dL_law_1114 ?_
  refine J_lcmp dL_law_1115 ?_
  refine J_if_eq 1121 dL_law_1116 (by decide) (fun _ => ?_) (fun hne => absurd (lg_cmp0 he2) hne)
  refine J_goto 2345 dL_law_1121 (by decide) ?_
  exact J_widen (by omega) (by omega) (J_lv [2, 3, 4, 5, 6] rfl (kk _ h))
set_option maxRecDepth 100000 in
set_option maxHeartbeats 4000000 in
theorem cs_16 {l : Launch} {E : En} (hl0 : l.stackTraces = false) {L : Nat} {xs : Nat → Int32} {XT : Code → Prop} {QQ : List Frame → Array Value → State → Nat → State → Prop} {k n : Nat} {i a1 a2 a3 a4 a5 : Int32} (s1 : SL L xs (i + 1) a1) (s2 : SL L xs (i + 2) a2) (s3 : SL L xs (i + 3) a3) (s4 : SL L xs (i + 4) a4) (s5 : SL L xs (i + 5) a5) {st : St} {K : St → Prop} (hk : k + 5 ≤ 601024) (hn : n + 30 ≤ 7293034)
    (h : P_L_led a1 a2 st (fun r1 st1 => P_X12_led 58 a1 a2 st1 (fun r2 st2 => P_X12_thrown 58  st2 (fun r3 st3 => r3 = r1 ∧ (r1 = 0 → gL st3 106 0 = r2.toInt64) ∧ K st3)))) (kk : ∀ st2, K st2 → Jg l E (CFs E L xs) room_1 code 7 RL ret XT QQ (k + 5) (n + 30) 2345 [(0, .ref 1300), (1, .ref 0), (2, .ref 58), (3, .ref 106), (4, .int i)] [] st2) : Jg l E (CFs E L xs) room_1 code 7 RL ret XT QQ k n 1124 [(0, .ref 1300), (1, .ref 0), (2, .ref 58), (3, .ref 106), (4, .int i)] [] st := by
  refine J_aload_n 1 dL_law_1124 rfl rfl ?_
  refine J_aload_n 0 dL_law_1125 rfl rfl ?_
  refine J_iload 4 dL_law_1126 rfl ?_
  refine J_iconst 1 dL_law_1128 (by decide) ?_
  refine J_iadd dL_law_1129 ?_
  refine J_sld s1 dL_law_1130 ?_
  refine J_aload_n 0 dL_law_1131 rfl rfl ?_
  refine J_iload 4 dL_law_1132 rfl ?_
  refine J_iconst 2 dL_law_1134 (by decide) ?_
  refine J_iadd dL_law_1135 ?_
  refine J_sld s2 dL_law_1136 ?_
  refine J_aload_n 3 dL_law_1137 rfl rfl ?_
  refine J_csH (As := [_, _, _, _]) mdh_L_led k_1517 rfl rfl ⟨Nat.le_of_ble_eq_true rfl, Nat.le_of_ble_eq_true rfl⟩ ⟨by show k + 2 ≤ 601024; omega, by show n + 12 ≤ 7293034; omega⟩ (Nat.le_of_ble_eq_true rfl) dL_law_1138 (CtH_mono CFs_c (CFc_ok E) (ct_L_led hl0 h)) (fun r1 st1 h => ?_)
  refine J_istore _ dL_law_1141 (by decide) rfl ?_
  refine J_aload_n 3 dL_law_1143 rfl rfl ?_
  refine J_aload_n 1 dL_law_1144 rfl rfl ?_
  refine J_iload 5 dL_law_1145 rfl ?_
  refine J_iconst 1 dL_law_1147 (by decide) ?_
  refine J_iadd dL_law_1148 ?_
  refine J_sld s1 dL_law_1149 ?_
  refine J_aload_n 1 dL_law_1150 rfl rfl ?_
  refine J_iload 5 dL_law_1151 rfl ?_
  refine J_iconst 2 dL_law_1153 (by decide) ?_
  refine J_iadd dL_law_1154 ?_
  refine J_sld s2 dL_law_1155 ?_
  refine J_cvi (As := [_, _]) md_X12_led k_1519 (rc_obj cl_12 tb_mo) rfl rfl ⟨Nat.le_of_ble_eq_true rfl, Nat.le_of_ble_eq_true rfl⟩ ⟨by show k + 2 + 0 ≤ 601024; omega, by show n + 12 + 0 ≤ 7293034; omega⟩ (Nat.le_of_ble_eq_true rfl) dL_law_1156 (CtI_mono CFs_c (CFc_ok E) (ct_X12_led h)) (fun r2 st2 h => ?_)
  refine J_istore _ dL_law_1159 (by decide) rfl ?_
  refine J_aload_n 4 dL_law_1161 rfl rfl ?_
  refine J_cvi (As := []) md_X12_thrown k_1441 (rc_obj cl_12 tb_mo) rfl rfl ⟨Nat.le_of_ble_eq_true rfl, Nat.le_of_ble_eq_true rfl⟩ ⟨by show k + 2 + 0 ≤ 601024; omega, by show n + 12 + 0 ≤ 7293034; omega⟩ (Nat.le_of_ble_eq_true rfl) dL_law_1162 (CtI_mono CFs_c (CFc_ok E) (ct_X12_thrown h)) (fun r3 st3 h => ?_)
  refine J_iload 1 dL_law_1165 rfl ?_
  obtain ⟨he, h⟩ := h
  refine J_icmp_eq 1172 dL_law_1167 (by decide) (fun _ => ?_) (fun hne => absurd he hne)
  refine J_iload 1 dL_law_1172 rfl ?_
  obtain ⟨he2, h⟩ := h
  refine J_if_ne 1189 dL_law_1174 (by decide) (fun _ => ?_) (fun hz0 => ?_)
  · refine J_goto 2345 dL_law_1189 (by decide) ?_; exact J_widen (by omega) (by omega) (J_lv [2, 3, 4, 5, 6] rfl (kk _ h))
  have he2 := he2 hz0
  refine J_aload_n 5 dL_law_1177 rfl rfl ?_
  refine J_iconst 0 dL_law_1178 (by decide) ?_
  refine J_lald dL_law_1179 vi_out ?_
  refine J_iload 0 dL_law_1180 rfl ?_
  refine J_i2l dL_law_1182 ?_
  refine J_lcmp dL_law_1183 ?_
  refine J_if_eq 1189 dL_law_1184 (by decide) (fun _ => ?_) (fun hne => absurd (lg_cmp0 he2) hne)
  refine J_goto 2345 dL_law_1189 (by decide) ?_
  exact J_widen (by omega) (by omega) (J_lv [2, 3, 4, 5, 6] rfl (kk _ h))
set_option maxRecDepth 100000 in
set_option maxHeartbeats 4000000 in
theorem cs_17 {l : Launch} {E : En} (hl0 : l.stackTraces = false) {L : Nat} {xs : Nat → Int32} {XT : Code → Prop} {QQ : List Frame → Array Value → State → Nat → State → Prop} {k n : Nat} {i a1 a2 a3 a4 a5 : Int32} (s1 : SL L xs (i + 1) a1) (s2 : SL L xs (i + 2) a2) (s3 : SL L xs (i + 3) a3) (s4 : SL L xs (i + 4) a4) (s5 : SL L xs (i + 5) a5) {st : St} {K : St → Prop} (hk : k + 5 ≤ 601024) (hn : n + 30 ≤ 7293034)
    (h : P_X11_dog 0  st (fun r1 st1 => P_X12_dog 58  st1 (fun r2 st2 => r1 = r2 ∧ K st2))) (kk : ∀ st2, K st2 → Jg l E (CFs E L xs) room_1 code 7 RL ret XT QQ (k + 5) (n + 30) 2345 [(0, .ref 1300), (1, .ref 0), (2, .ref 58), (3, .ref 106), (4, .int i)] [] st2) : Jg l E (CFs E L xs) room_1 code 7 RL ret XT QQ k n 1192 [(0, .ref 1300), (1, .ref 0), (2, .ref 58), (3, .ref 106), (4, .int i)] [] st := by
  refine J_aload_n 1 dL_law_1192 rfl rfl ?_
  refine J_cvi (As := []) md_X11_dog k_1522 (rc_obj cl_11 tb_out) rfl rfl ⟨Nat.le_of_ble_eq_true rfl, Nat.le_of_ble_eq_true rfl⟩ ⟨by show k + 0 + 0 ≤ 601024; omega, by show n + 0 + 0 ≤ 7293034; omega⟩ (Nat.le_of_ble_eq_true rfl) dL_law_1193 (CtI_mono CFs_c (CFc_ok E) (ct_X11_dog h)) (fun r1 st1 h => ?_)
  refine J_aload_n 2 dL_law_1196 rfl rfl ?_
  refine J_cvi (As := []) md_X12_dog k_1525 (rc_obj cl_12 tb_mo) rfl rfl ⟨Nat.le_of_ble_eq_true rfl, Nat.le_of_ble_eq_true rfl⟩ ⟨by show k + 0 + 0 ≤ 601024; omega, by show n + 0 + 0 ≤ 7293034; omega⟩ (Nat.le_of_ble_eq_true rfl) dL_law_1197 (CtI_mono CFs_c (CFc_ok E) (ct_X12_dog h)) (fun r2 st2 h => ?_)
  obtain ⟨he, h⟩ := h
  refine J_icmp_eq 2345 dL_law_1200 (by decide) (fun _ => ?_) (fun hne => absurd he hne)
  exact J_widen (by omega) (by omega) (J_lv [0, 1, 2, 3, 4] rfl (kk _ h))
set_option maxRecDepth 100000 in
set_option maxHeartbeats 4000000 in
theorem cs_18 {l : Launch} {E : En} (hl0 : l.stackTraces = false) {L : Nat} {xs : Nat → Int32} {XT : Code → Prop} {QQ : List Frame → Array Value → State → Nat → State → Prop} {k n : Nat} {i a1 a2 a3 a4 a5 : Int32} (s1 : SL L xs (i + 1) a1) (s2 : SL L xs (i + 2) a2) (s3 : SL L xs (i + 3) a3) (s4 : SL L xs (i + 4) a4) (s5 : SL L xs (i + 5) a5) {st : St} {K : St → Prop} (hk : k + 5 ≤ 601024) (hn : n + 30 ≤ 7293034)
    (h : P_L_rank a1 a2 st (fun r1 st1 => P_X12_rank 58 a1 a2 st1 (fun r2 st2 => P_X12_thrown 58  st2 (fun r3 st3 => r3 = r1 ∧ (r1 = 0 → gL st3 106 0 = r2.toInt64) ∧ K st3)))) (kk : ∀ st2, K st2 → Jg l E (CFs E L xs) room_1 code 7 RL ret XT QQ (k + 5) (n + 30) 2345 [(0, .ref 1300), (1, .ref 0), (2, .ref 58), (3, .ref 106), (4, .int i)] [] st2) : Jg l E (CFs E L xs) room_1 code 7 RL ret XT QQ k n 1205 [(0, .ref 1300), (1, .ref 0), (2, .ref 58), (3, .ref 106), (4, .int i)] [] st := by
  refine J_aload_n 1 dL_law_1205 rfl rfl ?_
  refine J_aload_n 0 dL_law_1206 rfl rfl ?_
  refine J_iload 4 dL_law_1207 rfl ?_
  refine J_iconst 1 dL_law_1209 (by decide) ?_
  refine J_iadd dL_law_1210 ?_
  refine J_sld s1 dL_law_1211 ?_
  refine J_aload_n 0 dL_law_1212 rfl rfl ?_
  refine J_iload 4 dL_law_1213 rfl ?_
  refine J_iconst 2 dL_law_1215 (by decide) ?_
  refine J_iadd dL_law_1216 ?_
  refine J_sld s2 dL_law_1217 ?_
  refine J_aload_n 3 dL_law_1218 rfl rfl ?_
  refine J_csH (As := [_, _, _, _]) mdh_L_rank k_1528 rfl rfl ⟨Nat.le_of_ble_eq_true rfl, Nat.le_of_ble_eq_true rfl⟩ ⟨by show k + 2 ≤ 601024; omega, by show n + 12 ≤ 7293034; omega⟩ (Nat.le_of_ble_eq_true rfl) dL_law_1219 (CtH_mono CFs_c (CFc_ok E) (ct_L_rank hl0 h)) (fun r1 st1 h => ?_)
  refine J_istore _ dL_law_1222 (by decide) rfl ?_
  refine J_aload_n 3 dL_law_1224 rfl rfl ?_
  refine J_aload_n 1 dL_law_1225 rfl rfl ?_
  refine J_iload 5 dL_law_1226 rfl ?_
  refine J_iconst 1 dL_law_1228 (by decide) ?_
  refine J_iadd dL_law_1229 ?_
  refine J_sld s1 dL_law_1230 ?_
  refine J_aload_n 1 dL_law_1231 rfl rfl ?_
  refine J_iload 5 dL_law_1232 rfl ?_
  refine J_iconst 2 dL_law_1234 (by decide) ?_
  refine J_iadd dL_law_1235 ?_
  refine J_sld s2 dL_law_1236 ?_
  refine J_cvi (As := [_, _]) md_X12_rank k_1530 (rc_obj cl_12 tb_mo) rfl rfl ⟨Nat.le_of_ble_eq_true rfl, Nat.le_of_ble_eq_true rfl⟩ ⟨by show k + 2 + 0 ≤ 601024; omega, by show n + 12 + 0 ≤ 7293034; omega⟩ (Nat.le_of_ble_eq_true rfl) dL_law_1237 (CtI_mono CFs_c (CFc_ok E) (ct_X12_rank h)) (fun r2 st2 h => ?_)
  refine J_istore _ dL_law_1240 (by decide) rfl ?_
  refine J_aload_n 4 dL_law_1242 rfl rfl ?_
  refine J_cvi (As := []) md_X12_thrown k_1441 (rc_obj cl_12 tb_mo) rfl rfl ⟨Nat.le_of_ble_eq_true rfl, Nat.le_of_ble_eq_true rfl⟩ ⟨by show k + 2 + 0 ≤ 601024; omega, by show n + 12 + 0 ≤ 7293034; omega⟩ (Nat.le_of_ble_eq_true rfl) dL_law_1243 (CtI_mono CFs_c (CFc_ok E) (ct_X12_thrown h)) (fun r3 st3 h => ?_)
  refine J_iload 1 dL_law_1246 rfl ?_
  obtain ⟨he, h⟩ := h
  refine J_icmp_eq 1253 dL_law_1248 (by decide) (fun _ => ?_) (fun hne => absurd he hne)
  refine J_iload 1 dL_law_1253 rfl ?_
  obtain ⟨he2, h⟩ := h
  refine J_if_ne 1270 dL_law_1255 (by decide) (fun _ => ?_) (fun hz0 => ?_)
  · refine J_goto 2345 dL_law_1270 (by decide) ?_; exact J_widen (by omega) (by omega) (J_lv [2, 3, 4, 5, 6] rfl (kk _ h))
  have he2 := he2 hz0
  refine J_aload_n 5 dL_law_1258 rfl rfl ?_
  refine J_iconst 0 dL_law_1259 (by decide) ?_
  refine J_lald dL_law_1260 vi_out ?_
  refine J_iload 0 dL_law_1261 rfl ?_
  refine J_i2l dL_law_1263 ?_
  refine J_lcmp dL_law_1264 ?_
  refine J_if_eq 1270 dL_law_1265 (by decide) (fun _ => ?_) (fun hne => absurd (lg_cmp0 he2) hne)
  refine J_goto 2345 dL_law_1270 (by decide) ?_
  exact J_widen (by omega) (by omega) (J_lv [2, 3, 4, 5, 6] rfl (kk _ h))
set_option maxRecDepth 100000 in
set_option maxHeartbeats 4000000 in
theorem cs_19 {l : Launch} {E : En} (hl0 : l.stackTraces = false) {L : Nat} {xs : Nat → Int32} {XT : Code → Prop} {QQ : List Frame → Array Value → State → Nat → State → Prop} {k n : Nat} {i a1 a2 a3 a4 a5 : Int32} (s1 : SL L xs (i + 1) a1) (s2 : SL L xs (i + 2) a2) (s3 : SL L xs (i + 3) a3) (s4 : SL L xs (i + 4) a4) (s5 : SL L xs (i + 5) a5) {st : St} {K : St → Prop} (hk : k + 5 ≤ 601024) (hn : n + 30 ≤ 7293034)
    (h : P_L_toTrain a1 a2 st (fun r1 st1 => P_X12_toTrain 58 a1 a2 st1 (fun r2 st2 => P_X12_thrown 58  st2 (fun r3 st3 => r3 = r1 ∧ (r1 = 0 → gL st3 106 0 = r2.toInt64) ∧ K st3)))) (kk : ∀ st2, K st2 → Jg l E (CFs E L xs) room_1 code 7 RL ret XT QQ (k + 5) (n + 30) 2345 [(0, .ref 1300), (1, .ref 0), (2, .ref 58), (3, .ref 106), (4, .int i)] [] st2) : Jg l E (CFs E L xs) room_1 code 7 RL ret XT QQ k n 1273 [(0, .ref 1300), (1, .ref 0), (2, .ref 58), (3, .ref 106), (4, .int i)] [] st := by
  refine J_aload_n 1 dL_law_1273 rfl rfl ?_
  refine J_aload_n 0 dL_law_1274 rfl rfl ?_
  refine J_iload 4 dL_law_1275 rfl ?_
  refine J_iconst 1 dL_law_1277 (by decide) ?_
  refine J_iadd dL_law_1278 ?_
  refine J_sld s1 dL_law_1279 ?_
  refine J_aload_n 0 dL_law_1280 rfl rfl ?_
  refine J_iload 4 dL_law_1281 rfl ?_
  refine J_iconst 2 dL_law_1283 (by decide) ?_
  refine J_iadd dL_law_1284 ?_
  refine J_sld s2 dL_law_1285 ?_
  refine J_aload_n 3 dL_law_1286 rfl rfl ?_
  refine J_csH (As := [_, _, _, _]) mdh_L_toTrain k_1533 rfl rfl ⟨Nat.le_of_ble_eq_true rfl, Nat.le_of_ble_eq_true rfl⟩ ⟨by show k + 2 ≤ 601024; omega, by show n + 12 ≤ 7293034; omega⟩ (Nat.le_of_ble_eq_true rfl) dL_law_1287 (CtH_mono CFs_c (CFc_ok E) (ct_L_toTrain hl0 h)) (fun r1 st1 h => ?_)
  refine J_istore _ dL_law_1290 (by decide) rfl ?_
  refine J_aload_n 3 dL_law_1292 rfl rfl ?_
  refine J_aload_n 1 dL_law_1293 rfl rfl ?_
  refine J_iload 5 dL_law_1294 rfl ?_
  refine J_iconst 1 dL_law_1296 (by decide) ?_
  refine J_iadd dL_law_1297 ?_
  refine J_sld s1 dL_law_1298 ?_
  refine J_aload_n 1 dL_law_1299 rfl rfl ?_
  refine J_iload 5 dL_law_1300 rfl ?_
  refine J_iconst 2 dL_law_1302 (by decide) ?_
  refine J_iadd dL_law_1303 ?_
  refine J_sld s2 dL_law_1304 ?_
  refine J_cvi (As := [_, _]) md_X12_toTrain k_1535 (rc_obj cl_12 tb_mo) rfl rfl ⟨Nat.le_of_ble_eq_true rfl, Nat.le_of_ble_eq_true rfl⟩ ⟨by show k + 2 + 0 ≤ 601024; omega, by show n + 12 + 0 ≤ 7293034; omega⟩ (Nat.le_of_ble_eq_true rfl) dL_law_1305 (CtI_mono CFs_c (CFc_ok E) (ct_X12_toTrain h)) (fun r2 st2 h => ?_)
  refine J_istore _ dL_law_1308 (by decide) rfl ?_
  refine J_aload_n 4 dL_law_1310 rfl rfl ?_
  refine J_cvi (As := []) md_X12_thrown k_1441 (rc_obj cl_12 tb_mo) rfl rfl ⟨Nat.le_of_ble_eq_true rfl, Nat.le_of_ble_eq_true rfl⟩ ⟨by show k + 2 + 0 ≤ 601024; omega, by show n + 12 + 0 ≤ 7293034; omega⟩ (Nat.le_of_ble_eq_true rfl) dL_law_1311 (CtI_mono CFs_c (CFc_ok E) (ct_X12_thrown h)) (fun r3 st3 h => ?_)
  refine J_iload 1 dL_law_1314 rfl ?_
  obtain ⟨he, h⟩ := h
  refine J_icmp_eq 1321 dL_law_1316 (by decide) (fun _ => ?_) (fun hne => absurd he hne)
  refine J_iload 1 dL_law_1321 rfl ?_
  obtain ⟨he2, h⟩ := h
  refine J_if_ne 1338 dL_law_1323 (by decide) (fun _ => ?_) (fun hz0 => ?_)
  · refine J_goto 2345 dL_law_1338 (by decide) ?_; exact J_widen (by omega) (by omega) (J_lv [2, 3, 4, 5, 6] rfl (kk _ h))
  have he2 := he2 hz0
  refine J_aload_n 5 dL_law_1326 rfl rfl ?_
  refine J_iconst 0 dL_law_1327 (by decide) ?_
  refine J_lald dL_law_1328 vi_out ?_
  refine J_iload 0 dL_law_1329 rfl ?_
  refine J_i2l dL_law_1331 ?_
  refine J_lcmp dL_law_1332 ?_
  refine J_if_eq 1338 dL_law_1333 (by decide) (fun _ => ?_) (fun hne => absurd (lg_cmp0 he2) hne)
  refine J_goto 2345 dL_law_1338 (by decide) ?_
  exact J_widen (by omega) (by omega) (J_lv [2, 3, 4, 5, 6] rfl (kk _ h))
set_option maxRecDepth 100000 in
set_option maxHeartbeats 4000000 in
theorem cs_20 {l : Launch} {E : En} (hl0 : l.stackTraces = false) {L : Nat} {xs : Nat → Int32} {XT : Code → Prop} {QQ : List Frame → Array Value → State → Nat → State → Prop} {k n : Nat} {i a1 a2 a3 a4 a5 : Int32} (s1 : SL L xs (i + 1) a1) (s2 : SL L xs (i + 2) a2) (s3 : SL L xs (i + 3) a3) (s4 : SL L xs (i + 4) a4) (s5 : SL L xs (i + 5) a5) {st : St} {K : St → Prop} (hk : k + 5 ≤ 601024) (hn : n + 30 ≤ 7293034)
    (h : P_L_instead a1 st (fun r1 st1 => P_X12_instead 58 a1 st1 (fun r2 st2 => P_X12_thrown 58  st2 (fun r3 st3 => r3 = r1 ∧ (r1 = 0 → gL st3 106 0 = r2.toInt64) ∧ K st3)))) (kk : ∀ st2, K st2 → Jg l E (CFs E L xs) room_1 code 7 RL ret XT QQ (k + 5) (n + 30) 2345 [(0, .ref 1300), (1, .ref 0), (2, .ref 58), (3, .ref 106), (4, .int i)] [] st2) : Jg l E (CFs E L xs) room_1 code 7 RL ret XT QQ k n 1341 [(0, .ref 1300), (1, .ref 0), (2, .ref 58), (3, .ref 106), (4, .int i)] [] st := by
  refine J_aload_n 1 dL_law_1341 rfl rfl ?_
  refine J_aload_n 0 dL_law_1342 rfl rfl ?_
  refine J_iload 4 dL_law_1343 rfl ?_
  refine J_iconst 1 dL_law_1345 (by decide) ?_
  refine J_iadd dL_law_1346 ?_
  refine J_sld s1 dL_law_1347 ?_
  refine J_aload_n 3 dL_law_1348 rfl rfl ?_
  refine J_csH (As := [_, _, _]) mdh_L_instead k_1538 rfl rfl ⟨Nat.le_of_ble_eq_true rfl, Nat.le_of_ble_eq_true rfl⟩ ⟨by show k + 1 ≤ 601024; omega, by show n + 6 ≤ 7293034; omega⟩ (Nat.le_of_ble_eq_true rfl) dL_law_1349 (CtH_mono CFs_c (CFc_ok E) (ct_L_instead hl0 h)) (fun r1 st1 h => ?_)
  refine J_istore _ dL_law_1352 (by decide) rfl ?_
  refine J_aload_n 3 dL_law_1354 rfl rfl ?_
  refine J_aload_n 1 dL_law_1355 rfl rfl ?_
  refine J_iload 5 dL_law_1356 rfl ?_
  refine J_iconst 1 dL_law_1358 (by decide) ?_
  refine J_iadd dL_law_1359 ?_
  refine J_sld s1 dL_law_1360 ?_
  refine J_cvi (As := [_]) md_X12_instead k_1540 (rc_obj cl_12 tb_mo) rfl rfl ⟨Nat.le_of_ble_eq_true rfl, Nat.le_of_ble_eq_true rfl⟩ ⟨by show k + 1 + 0 ≤ 601024; omega, by show n + 6 + 0 ≤ 7293034; omega⟩ (Nat.le_of_ble_eq_true rfl) dL_law_1361 (CtI_mono CFs_c (CFc_ok E) (ct_X12_instead h)) (fun r2 st2 h => ?_)
  refine J_istore _ dL_law_1364 (by decide) rfl ?_
  refine J_aload_n 4 dL_law_1366 rfl rfl ?_
  refine J_cvi (As := []) md_X12_thrown k_1441 (rc_obj cl_12 tb_mo) rfl rfl ⟨Nat.le_of_ble_eq_true rfl, Nat.le_of_ble_eq_true rfl⟩ ⟨by show k + 1 + 0 ≤ 601024; omega, by show n + 6 + 0 ≤ 7293034; omega⟩ (Nat.le_of_ble_eq_true rfl) dL_law_1367 (CtI_mono CFs_c (CFc_ok E) (ct_X12_thrown h)) (fun r3 st3 h => ?_)
  refine J_iload 1 dL_law_1370 rfl ?_
  obtain ⟨he, h⟩ := h
  refine J_icmp_eq 1377 dL_law_1372 (by decide) (fun _ => ?_) (fun hne => absurd he hne)
  refine J_iload 1 dL_law_1377 rfl ?_
  obtain ⟨he2, h⟩ := h
  refine J_if_ne 1394 dL_law_1379 (by decide) (fun _ => ?_) (fun hz0 => ?_)
  · refine J_goto 2345 dL_law_1394 (by decide) ?_; exact J_widen (by omega) (by omega) (J_lv [2, 3, 4, 5, 6] rfl (kk _ h))
  have he2 := he2 hz0
  refine J_aload_n 5 dL_law_1382 rfl rfl ?_
  refine J_iconst 0 dL_law_1383 (by decide) ?_
  refine J_lald dL_law_1384 vi_out ?_
  refine J_iload 0 dL_law_1385 rfl ?_
  refine J_i2l dL_law_1387 ?_
  refine J_lcmp dL_law_1388 ?_
  refine J_if_eq 1394 dL_law_1389 (by decide) (fun _ => ?_) (fun hne => absurd (lg_cmp0 he2) hne)
  refine J_goto 2345 dL_law_1394 (by decide) ?_
  exact J_widen (by omega) (by omega) (J_lv [2, 3, 4, 5, 6] rfl (kk _ h))
set_option maxRecDepth 100000 in
set_option maxHeartbeats 4000000 in
theorem cs_21 {l : Launch} {E : En} (hl0 : l.stackTraces = false) {L : Nat} {xs : Nat → Int32} {XT : Code → Prop} {QQ : List Frame → Array Value → State → Nat → State → Prop} {k n : Nat} {i a1 a2 a3 a4 a5 : Int32} (s1 : SL L xs (i + 1) a1) (s2 : SL L xs (i + 2) a2) (s3 : SL L xs (i + 3) a3) (s4 : SL L xs (i + 4) a4) (s5 : SL L xs (i + 5) a5) {st : St} {K : St → Prop} (hk : k + 5 ≤ 601024) (hn : n + 30 ≤ 7293034)
    (h : P_L_bestDay a1 a2 st (fun r1 st1 => P_X12_bestDay 58 a1 a2 st1 (fun r2 st2 => P_X12_thrown 58  st2 (fun r3 st3 => r3 = r1 ∧ (r1 = 0 → gL st3 106 0 = r2.toInt64) ∧ K st3)))) (kk : ∀ st2, K st2 → Jg l E (CFs E L xs) room_1 code 7 RL ret XT QQ (k + 5) (n + 30) 2345 [(0, .ref 1300), (1, .ref 0), (2, .ref 58), (3, .ref 106), (4, .int i)] [] st2) : Jg l E (CFs E L xs) room_1 code 7 RL ret XT QQ k n 1397 [(0, .ref 1300), (1, .ref 0), (2, .ref 58), (3, .ref 106), (4, .int i)] [] st := by
  refine J_aload_n 1 dL_law_1397 rfl rfl ?_
  refine J_aload_n 0 dL_law_1398 rfl rfl ?_
  refine J_iload 4 dL_law_1399 rfl ?_
  refine J_iconst 1 dL_law_1401 (by decide) ?_
  refine J_iadd dL_law_1402 ?_
  refine J_sld s1 dL_law_1403 ?_
  refine J_aload_n 0 dL_law_1404 rfl rfl ?_
  refine J_iload 4 dL_law_1405 rfl ?_
  refine J_iconst 2 dL_law_1407 (by decide) ?_
  refine J_iadd dL_law_1408 ?_
  refine J_sld s2 dL_law_1409 ?_
  refine J_aload_n 3 dL_law_1410 rfl rfl ?_
  refine J_csH (As := [_, _, _, _]) mdh_L_bestDay k_1543 rfl rfl ⟨Nat.le_of_ble_eq_true rfl, Nat.le_of_ble_eq_true rfl⟩ ⟨by show k + 2 ≤ 601024; omega, by show n + 12 ≤ 7293034; omega⟩ (Nat.le_of_ble_eq_true rfl) dL_law_1411 (CtH_mono CFs_c (CFc_ok E) (ct_L_bestDay hl0 h)) (fun r1 st1 h => ?_)
  refine J_istore _ dL_law_1414 (by decide) rfl ?_
  refine J_aload_n 3 dL_law_1416 rfl rfl ?_
  refine J_aload_n 1 dL_law_1417 rfl rfl ?_
  refine J_iload 5 dL_law_1418 rfl ?_
  refine J_iconst 1 dL_law_1420 (by decide) ?_
  refine J_iadd dL_law_1421 ?_
  refine J_sld s1 dL_law_1422 ?_
  refine J_aload_n 1 dL_law_1423 rfl rfl ?_
  refine J_iload 5 dL_law_1424 rfl ?_
  refine J_iconst 2 dL_law_1426 (by decide) ?_
  refine J_iadd dL_law_1427 ?_
  refine J_sld s2 dL_law_1428 ?_
  refine J_cvi (As := [_, _]) md_X12_bestDay k_1545 (rc_obj cl_12 tb_mo) rfl rfl ⟨Nat.le_of_ble_eq_true rfl, Nat.le_of_ble_eq_true rfl⟩ ⟨by show k + 2 + 0 ≤ 601024; omega, by show n + 12 + 0 ≤ 7293034; omega⟩ (Nat.le_of_ble_eq_true rfl) dL_law_1429 (CtI_mono CFs_c (CFc_ok E) (ct_X12_bestDay h)) (fun r2 st2 h => ?_)
  refine J_istore _ dL_law_1432 (by decide) rfl ?_
  refine J_aload_n 4 dL_law_1434 rfl rfl ?_
  refine J_cvi (As := []) md_X12_thrown k_1441 (rc_obj cl_12 tb_mo) rfl rfl ⟨Nat.le_of_ble_eq_true rfl, Nat.le_of_ble_eq_true rfl⟩ ⟨by show k + 2 + 0 ≤ 601024; omega, by show n + 12 + 0 ≤ 7293034; omega⟩ (Nat.le_of_ble_eq_true rfl) dL_law_1435 (CtI_mono CFs_c (CFc_ok E) (ct_X12_thrown h)) (fun r3 st3 h => ?_)
  refine J_iload 1 dL_law_1438 rfl ?_
  obtain ⟨he, h⟩ := h
  refine J_icmp_eq 1445 dL_law_1440 (by decide) (fun _ => ?_) (fun hne => absurd he hne)
  refine J_iload 1 dL_law_1445 rfl ?_
  obtain ⟨he2, h⟩ := h
  refine J_if_ne 1462 dL_law_1447 (by decide) (fun _ => ?_) (fun hz0 => ?_)
  · refine J_goto 2345 dL_law_1462 (by decide) ?_; exact J_widen (by omega) (by omega) (J_lv [2, 3, 4, 5, 6] rfl (kk _ h))
  have he2 := he2 hz0
  refine J_aload_n 5 dL_law_1450 rfl rfl ?_
  refine J_iconst 0 dL_law_1451 (by decide) ?_
  refine J_lald dL_law_1452 vi_out ?_
  refine J_iload 0 dL_law_1453 rfl ?_
  refine J_i2l dL_law_1455 ?_
  refine J_lcmp dL_law_1456 ?_
  refine J_if_eq 1462 dL_law_1457 (by decide) (fun _ => ?_) (fun hne => absurd (lg_cmp0 he2) hne)
  refine J_goto 2345 dL_law_1462 (by decide) ?_
  exact J_widen (by omega) (by omega) (J_lv [2, 3, 4, 5, 6] rfl (kk _ h))
set_option maxRecDepth 100000 in
set_option maxHeartbeats 4000000 in
theorem cs_22 {l : Launch} {E : En} (hl0 : l.stackTraces = false) {L : Nat} {xs : Nat → Int32} {XT : Code → Prop} {QQ : List Frame → Array Value → State → Nat → State → Prop} {k n : Nat} {i a1 a2 a3 a4 a5 : Int32} (s1 : SL L xs (i + 1) a1) (s2 : SL L xs (i + 2) a2) (s3 : SL L xs (i + 3) a3) (s4 : SL L xs (i + 4) a4) (s5 : SL L xs (i + 5) a5) {st : St} {K : St → Prop} (hk : k + 5 ≤ 601024) (hn : n + 30 ≤ 7293034)
    (h : P_L_choice a1 st (fun r1 st1 => P_X12_choice 58 a1 st1 (fun r2 st2 => P_X12_thrown 58  st2 (fun r3 st3 => r3 = r1 ∧ (r1 = 0 → gL st3 106 0 = r2.toInt64) ∧ K st3)))) (kk : ∀ st2, K st2 → Jg l E (CFs E L xs) room_1 code 7 RL ret XT QQ (k + 5) (n + 30) 2345 [(0, .ref 1300), (1, .ref 0), (2, .ref 58), (3, .ref 106), (4, .int i)] [] st2) : Jg l E (CFs E L xs) room_1 code 7 RL ret XT QQ k n 1465 [(0, .ref 1300), (1, .ref 0), (2, .ref 58), (3, .ref 106), (4, .int i)] [] st := by
  refine J_aload_n 1 dL_law_1465 rfl rfl ?_
  refine J_aload_n 0 dL_law_1466 rfl rfl ?_
  refine J_iload 4 dL_law_1467 rfl ?_
  refine J_iconst 1 dL_law_1469 (by decide) ?_
  refine J_iadd dL_law_1470 ?_
  refine J_sld s1 dL_law_1471 ?_
  refine J_aload_n 3 dL_law_1472 rfl rfl ?_
  refine J_csH (As := [_, _, _]) mdh_L_choice k_1548 rfl rfl ⟨Nat.le_of_ble_eq_true rfl, Nat.le_of_ble_eq_true rfl⟩ ⟨by show k + 1 ≤ 601024; omega, by show n + 6 ≤ 7293034; omega⟩ (Nat.le_of_ble_eq_true rfl) dL_law_1473 (CtH_mono CFs_c (CFc_ok E) (ct_L_choice hl0 h)) (fun r1 st1 h => ?_)
  refine J_istore _ dL_law_1476 (by decide) rfl ?_
  refine J_aload_n 3 dL_law_1478 rfl rfl ?_
  refine J_aload_n 1 dL_law_1479 rfl rfl ?_
  refine J_iload 5 dL_law_1480 rfl ?_
  refine J_iconst 1 dL_law_1482 (by decide) ?_
  refine J_iadd dL_law_1483 ?_
  refine J_sld s1 dL_law_1484 ?_
  refine J_cvi (As := [_]) md_X12_choice k_1550 (rc_obj cl_12 tb_mo) rfl rfl ⟨Nat.le_of_ble_eq_true rfl, Nat.le_of_ble_eq_true rfl⟩ ⟨by show k + 1 + 0 ≤ 601024; omega, by show n + 6 + 0 ≤ 7293034; omega⟩ (Nat.le_of_ble_eq_true rfl) dL_law_1485 (CtI_mono CFs_c (CFc_ok E) (ct_X12_choice h)) (fun r2 st2 h => ?_)
  refine J_istore _ dL_law_1488 (by decide) rfl ?_
  refine J_aload_n 4 dL_law_1490 rfl rfl ?_
  refine J_cvi (As := []) md_X12_thrown k_1441 (rc_obj cl_12 tb_mo) rfl rfl ⟨Nat.le_of_ble_eq_true rfl, Nat.le_of_ble_eq_true rfl⟩ ⟨by show k + 1 + 0 ≤ 601024; omega, by show n + 6 + 0 ≤ 7293034; omega⟩ (Nat.le_of_ble_eq_true rfl) dL_law_1491 (CtI_mono CFs_c (CFc_ok E) (ct_X12_thrown h)) (fun r3 st3 h => ?_)
  refine J_iload 1 dL_law_1494 rfl ?_
  obtain ⟨he, h⟩ := h
  refine J_icmp_eq 1501 dL_law_1496 (by decide) (fun _ => ?_) (fun hne => absurd he hne)
  refine J_iload 1 dL_law_1501 rfl ?_
  obtain ⟨he2, h⟩ := h
  refine J_if_ne 1518 dL_law_1503 (by decide) (fun _ => ?_) (fun hz0 => ?_)
  · refine J_goto 2345 dL_law_1518 (by decide) ?_; exact J_widen (by omega) (by omega) (J_lv [2, 3, 4, 5, 6] rfl (kk _ h))
  have he2 := he2 hz0
  refine J_aload_n 5 dL_law_1506 rfl rfl ?_
  refine J_iconst 0 dL_law_1507 (by decide) ?_
  refine J_lald dL_law_1508 vi_out ?_
  refine J_iload 0 dL_law_1509 rfl ?_
  refine J_i2l dL_law_1511 ?_
  refine J_lcmp dL_law_1512 ?_
  refine J_if_eq 1518 dL_law_1513 (by decide) (fun _ => ?_) (fun hne => absurd (lg_cmp0 he2) hne)
  refine J_goto 2345 dL_law_1518 (by decide) ?_
  exact J_widen (by omega) (by omega) (J_lv [2, 3, 4, 5, 6] rfl (kk _ h))
set_option maxRecDepth 100000 in
set_option maxHeartbeats 4000000 in
theorem cs_23 {l : Launch} {E : En} (hl0 : l.stackTraces = false) {L : Nat} {xs : Nat → Int32} {XT : Code → Prop} {QQ : List Frame → Array Value → State → Nat → State → Prop} {k n : Nat} {i a1 a2 a3 a4 a5 : Int32} (s1 : SL L xs (i + 1) a1) (s2 : SL L xs (i + 2) a2) (s3 : SL L xs (i + 3) a3) (s4 : SL L xs (i + 4) a4) (s5 : SL L xs (i + 5) a5) {st : St} {K : St → Prop} (hk : k + 5 ≤ 601024) (hn : n + 30 ≤ 7293034)
    (h : P_X11_unloved 0  st (fun r1 st1 => P_X12_unloved 58  st1 (fun r2 st2 => r1 = r2 ∧ K st2))) (kk : ∀ st2, K st2 → Jg l E (CFs E L xs) room_1 code 7 RL ret XT QQ (k + 5) (n + 30) 2345 [(0, .ref 1300), (1, .ref 0), (2, .ref 58), (3, .ref 106), (4, .int i)] [] st2) : Jg l E (CFs E L xs) room_1 code 7 RL ret XT QQ k n 1521 [(0, .ref 1300), (1, .ref 0), (2, .ref 58), (3, .ref 106), (4, .int i)] [] st := by
  refine J_aload_n 1 dL_law_1521 rfl rfl ?_
  refine J_cvi (As := []) md_X11_unloved k_1553 (rc_obj cl_11 tb_out) rfl rfl ⟨Nat.le_of_ble_eq_true rfl, Nat.le_of_ble_eq_true rfl⟩ ⟨by show k + 0 + 0 ≤ 601024; omega, by show n + 0 + 0 ≤ 7293034; omega⟩ (Nat.le_of_ble_eq_true rfl) dL_law_1522 (CtI_mono CFs_c (CFc_ok E) (ct_X11_unloved h)) (fun r1 st1 h => ?_)
  refine J_aload_n 2 dL_law_1525 rfl rfl ?_
  refine J_cvi (As := []) md_X12_unloved k_1556 (rc_obj cl_12 tb_mo) rfl rfl ⟨Nat.le_of_ble_eq_true rfl, Nat.le_of_ble_eq_true rfl⟩ ⟨by show k + 0 + 0 ≤ 601024; omega, by show n + 0 + 0 ≤ 7293034; omega⟩ (Nat.le_of_ble_eq_true rfl) dL_law_1526 (CtI_mono CFs_c (CFc_ok E) (ct_X12_unloved h)) (fun r2 st2 h => ?_)
  obtain ⟨he, h⟩ := h
  refine J_icmp_eq 2345 dL_law_1529 (by decide) (fun _ => ?_) (fun hne => absurd he hne)
  exact J_widen (by omega) (by omega) (J_lv [0, 1, 2, 3, 4] rfl (kk _ h))
set_option maxRecDepth 100000 in
set_option maxHeartbeats 4000000 in
theorem cs_24 {l : Launch} {E : En} (hl0 : l.stackTraces = false) {L : Nat} {xs : Nat → Int32} {XT : Code → Prop} {QQ : List Frame → Array Value → State → Nat → State → Prop} {k n : Nat} {i a1 a2 a3 a4 a5 : Int32} (s1 : SL L xs (i + 1) a1) (s2 : SL L xs (i + 2) a2) (s3 : SL L xs (i + 3) a3) (s4 : SL L xs (i + 4) a4) (s5 : SL L xs (i + 5) a5) {st : St} {K : St → Prop} (hk : k + 5 ≤ 601024) (hn : n + 30 ≤ 7293034)
    (h : P_L_tug a1 st (fun r1 st1 => P_X12_tug 58 a1 st1 (fun r2 st2 => P_X12_thrown 58  st2 (fun r3 st3 => r3 = r1 ∧ (r1 = 0 → gL st3 106 0 = r2.toInt64) ∧ K st3)))) (kk : ∀ st2, K st2 → Jg l E (CFs E L xs) room_1 code 7 RL ret XT QQ (k + 5) (n + 30) 2345 [(0, .ref 1300), (1, .ref 0), (2, .ref 58), (3, .ref 106), (4, .int i)] [] st2) : Jg l E (CFs E L xs) room_1 code 7 RL ret XT QQ k n 1534 [(0, .ref 1300), (1, .ref 0), (2, .ref 58), (3, .ref 106), (4, .int i)] [] st := by
  refine J_aload_n 1 dL_law_1534 rfl rfl ?_
  refine J_aload_n 0 dL_law_1535 rfl rfl ?_
  refine J_iload 4 dL_law_1536 rfl ?_
  refine J_iconst 1 dL_law_1538 (by decide) ?_
  refine J_iadd dL_law_1539 ?_
  refine J_sld s1 dL_law_1540 ?_
  refine J_aload_n 3 dL_law_1541 rfl rfl ?_
  refine J_csH (As := [_, _, _]) mdh_L_tug k_1559 rfl rfl ⟨Nat.le_of_ble_eq_true rfl, Nat.le_of_ble_eq_true rfl⟩ ⟨by show k + 1 ≤ 601024; omega, by show n + 6 ≤ 7293034; omega⟩ (Nat.le_of_ble_eq_true rfl) dL_law_1542 (CtH_mono CFs_c (CFc_ok E) (ct_L_tug hl0 h)) (fun r1 st1 h => ?_)
  refine J_istore _ dL_law_1545 (by decide) rfl ?_
  refine J_aload_n 3 dL_law_1547 rfl rfl ?_
  refine J_aload_n 1 dL_law_1548 rfl rfl ?_
  refine J_iload 5 dL_law_1549 rfl ?_
  refine J_iconst 1 dL_law_1551 (by decide) ?_
  refine J_iadd dL_law_1552 ?_
  refine J_sld s1 dL_law_1553 ?_
  refine J_cvi (As := [_]) md_X12_tug k_1561 (rc_obj cl_12 tb_mo) rfl rfl ⟨Nat.le_of_ble_eq_true rfl, Nat.le_of_ble_eq_true rfl⟩ ⟨by show k + 1 + 0 ≤ 601024; omega, by show n + 6 + 0 ≤ 7293034; omega⟩ (Nat.le_of_ble_eq_true rfl) dL_law_1554 (CtI_mono CFs_c (CFc_ok E) (ct_X12_tug h)) (fun r2 st2 h => ?_)
  refine J_istore _ dL_law_1557 (by decide) rfl ?_
  refine J_aload_n 4 dL_law_1559 rfl rfl ?_
  refine J_cvi (As := []) md_X12_thrown k_1441 (rc_obj cl_12 tb_mo) rfl rfl ⟨Nat.le_of_ble_eq_true rfl, Nat.le_of_ble_eq_true rfl⟩ ⟨by show k + 1 + 0 ≤ 601024; omega, by show n + 6 + 0 ≤ 7293034; omega⟩ (Nat.le_of_ble_eq_true rfl) dL_law_1560 (CtI_mono CFs_c (CFc_ok E) (ct_X12_thrown h)) (fun r3 st3 h => ?_)
  refine J_iload 1 dL_law_1563 rfl ?_
  obtain ⟨he, h⟩ := h
  refine J_icmp_eq 1570 dL_law_1565 (by decide) (fun _ => ?_) (fun hne => absurd he hne)
  refine J_iload 1 dL_law_1570 rfl ?_
  obtain ⟨he2, h⟩ := h
  refine J_if_ne 1587 dL_law_1572 (by decide) (fun _ => ?_) (fun hz0 => ?_)
  · refine J_goto 2345 dL_law_1587 (by decide) ?_; exact J_widen (by omega) (by omega) (J_lv [2, 3, 4, 5, 6] rfl (kk _ h))
  have he2 := he2 hz0
  refine J_aload_n 5 dL_law_1575 rfl rfl ?_
  refine J_iconst 0 dL_law_1576 (by decide) ?_
  refine J_lald dL_law_1577 vi_out ?_
  refine J_iload 0 dL_law_1578 rfl ?_
  refine J_i2l dL_law_1580 ?_
  refine J_lcmp dL_law_1581 ?_
  refine J_if_eq 1587 dL_law_1582 (by decide) (fun _ => ?_) (fun hne => absurd (lg_cmp0 he2) hne)
  refine J_goto 2345 dL_law_1587 (by decide) ?_
  exact J_widen (by omega) (by omega) (J_lv [2, 3, 4, 5, 6] rfl (kk _ h))
set_option maxRecDepth 100000 in
set_option maxHeartbeats 4000000 in
theorem cs_25 {l : Launch} {E : En} (hl0 : l.stackTraces = false) {L : Nat} {xs : Nat → Int32} {XT : Code → Prop} {QQ : List Frame → Array Value → State → Nat → State → Prop} {k n : Nat} {i a1 a2 a3 a4 a5 : Int32} (s1 : SL L xs (i + 1) a1) (s2 : SL L xs (i + 2) a2) (s3 : SL L xs (i + 3) a3) (s4 : SL L xs (i + 4) a4) (s5 : SL L xs (i + 5) a5) {st : St} {K : St → Prop} (hk : k + 5 ≤ 601024) (hn : n + 30 ≤ 7293034)
    (h : P_L_decisive a1 a2 st (fun r1 st1 => P_X12_decisive 58 a1 a2 st1 (fun r2 st2 => P_X12_thrown 58  st2 (fun r3 st3 => r3 = r1 ∧ (r1 = 0 → gL st3 106 0 = r2.toInt64) ∧ K st3)))) (kk : ∀ st2, K st2 → Jg l E (CFs E L xs) room_1 code 7 RL ret XT QQ (k + 5) (n + 30) 2345 [(0, .ref 1300), (1, .ref 0), (2, .ref 58), (3, .ref 106), (4, .int i)] [] st2) : Jg l E (CFs E L xs) room_1 code 7 RL ret XT QQ k n 1590 [(0, .ref 1300), (1, .ref 0), (2, .ref 58), (3, .ref 106), (4, .int i)] [] st := by
  refine J_aload_n 1 dL_law_1590 rfl rfl ?_
  refine J_aload_n 0 dL_law_1591 rfl rfl ?_
  refine J_iload 4 dL_law_1592 rfl ?_
  refine J_iconst 1 dL_law_1594 (by decide) ?_
  refine J_iadd dL_law_1595 ?_
  refine J_sld s1 dL_law_1596 ?_
  refine J_aload_n 0 dL_law_1597 rfl rfl ?_
  refine J_iload 4 dL_law_1598 rfl ?_
  refine J_iconst 2 dL_law_1600 (by decide) ?_
  refine J_iadd dL_law_1601 ?_
  refine J_sld s2 dL_law_1602 ?_
  refine J_aload_n 3 dL_law_1603 rfl rfl ?_
  refine J_csH (As := [_, _, _, _]) mdh_L_decisive k_1564 rfl rfl ⟨Nat.le_of_ble_eq_true rfl, Nat.le_of_ble_eq_true rfl⟩ ⟨by show k + 2 ≤ 601024; omega, by show n + 12 ≤ 7293034; omega⟩ (Nat.le_of_ble_eq_true rfl) dL_law_1604 (CtH_mono CFs_c (CFc_ok E) (ct_L_decisive hl0 h)) (fun r1 st1 h => ?_)
  refine J_istore _ dL_law_1607 (by decide) rfl ?_
  refine J_aload_n 3 dL_law_1609 rfl rfl ?_
  refine J_aload_n 1 dL_law_1610 rfl rfl ?_
  refine J_iload 5 dL_law_1611 rfl ?_
  refine J_iconst 1 dL_law_1613 (by decide) ?_
  refine J_iadd dL_law_1614 ?_
  refine J_sld s1 dL_law_1615 ?_
  refine J_aload_n 1 dL_law_1616 rfl rfl ?_
  refine J_iload 5 dL_law_1617 rfl ?_
  refine J_iconst 2 dL_law_1619 (by decide) ?_
  refine J_iadd dL_law_1620 ?_
  refine J_sld s2 dL_law_1621 ?_
  refine J_cvi (As := [_, _]) md_X12_decisive k_1566 (rc_obj cl_12 tb_mo) rfl rfl ⟨Nat.le_of_ble_eq_true rfl, Nat.le_of_ble_eq_true rfl⟩ ⟨by show k + 2 + 0 ≤ 601024; omega, by show n + 12 + 0 ≤ 7293034; omega⟩ (Nat.le_of_ble_eq_true rfl) dL_law_1622 (CtI_mono CFs_c (CFc_ok E) (ct_X12_decisive h)) (fun r2 st2 h => ?_)
  refine J_istore _ dL_law_1625 (by decide) rfl ?_
  refine J_aload_n 4 dL_law_1627 rfl rfl ?_
  refine J_cvi (As := []) md_X12_thrown k_1441 (rc_obj cl_12 tb_mo) rfl rfl ⟨Nat.le_of_ble_eq_true rfl, Nat.le_of_ble_eq_true rfl⟩ ⟨by show k + 2 + 0 ≤ 601024; omega, by show n + 12 + 0 ≤ 7293034; omega⟩ (Nat.le_of_ble_eq_true rfl) dL_law_1628 (CtI_mono CFs_c (CFc_ok E) (ct_X12_thrown h)) (fun r3 st3 h => ?_)
  refine J_iload 1 dL_law_1631 rfl ?_
  obtain ⟨he, h⟩ := h
  refine J_icmp_eq 1638 dL_law_1633 (by decide) (fun _ => ?_) (fun hne => absurd he hne)
  refine J_iload 1 dL_law_1638 rfl ?_
  obtain ⟨he2, h⟩ := h
  refine J_if_ne 1655 dL_law_1640 (by decide) (fun _ => ?_) (fun hz0 => ?_)
  · refine J_goto 2345 dL_law_1655 (by decide) ?_; exact J_widen (by omega) (by omega) (J_lv [2, 3, 4, 5, 6] rfl (kk _ h))
  have he2 := he2 hz0
  refine J_aload_n 5 dL_law_1643 rfl rfl ?_
  refine J_iconst 0 dL_law_1644 (by decide) ?_
  refine J_lald dL_law_1645 vi_out ?_
  refine J_iload 0 dL_law_1646 rfl ?_
  refine J_i2l dL_law_1648 ?_
  refine J_lcmp dL_law_1649 ?_
  refine J_if_eq 1655 dL_law_1650 (by decide) (fun _ => ?_) (fun hne => absurd (lg_cmp0 he2) hne)
  refine J_goto 2345 dL_law_1655 (by decide) ?_
  exact J_widen (by omega) (by omega) (J_lv [2, 3, 4, 5, 6] rfl (kk _ h))
set_option maxRecDepth 100000 in
set_option maxHeartbeats 4000000 in
theorem cs_26 {l : Launch} {E : En} (hl0 : l.stackTraces = false) {L : Nat} {xs : Nat → Int32} {XT : Code → Prop} {QQ : List Frame → Array Value → State → Nat → State → Prop} {k n : Nat} {i a1 a2 a3 a4 a5 : Int32} (s1 : SL L xs (i + 1) a1) (s2 : SL L xs (i + 2) a2) (s3 : SL L xs (i + 3) a3) (s4 : SL L xs (i + 4) a4) (s5 : SL L xs (i + 5) a5) {st : St} {K : St → Prop} (hk : k + 5 ≤ 601024) (hn : n + 30 ≤ 7293034)
    (h : P_L_steps a1 a2 st (fun r1 st1 => P_X12_steps 58 a1 a2 st1 (fun r2 st2 => P_X12_thrown 58  st2 (fun r3 st3 => r3 = r1 ∧ (r1 = 0 → gL st3 106 0 = r2.toInt64) ∧ K st3)))) (kk : ∀ st2, K st2 → Jg l E (CFs E L xs) room_1 code 7 RL ret XT QQ (k + 5) (n + 30) 2345 [(0, .ref 1300), (1, .ref 0), (2, .ref 58), (3, .ref 106), (4, .int i)] [] st2) : Jg l E (CFs E L xs) room_1 code 7 RL ret XT QQ k n 1658 [(0, .ref 1300), (1, .ref 0), (2, .ref 58), (3, .ref 106), (4, .int i)] [] st := by
  refine J_aload_n 1 dL_law_1658 rfl rfl ?_
  refine J_aload_n 0 dL_law_1659 rfl rfl ?_
  refine J_iload 4 dL_law_1660 rfl ?_
  refine J_iconst 1 dL_law_1662 (by decide) ?_
  refine J_iadd dL_law_1663 ?_
  refine J_sld s1 dL_law_1664 ?_
  refine J_aload_n 0 dL_law_1665 rfl rfl ?_
  refine J_iload 4 dL_law_1666 rfl ?_
  refine J_iconst 2 dL_law_1668 (by decide) ?_
  refine J_iadd dL_law_1669 ?_
  refine J_sld s2 dL_law_1670 ?_
  refine J_aload_n 3 dL_law_1671 rfl rfl ?_
  refine J_csH (As := [_, _, _, _]) mdh_L_steps k_1569 rfl rfl ⟨Nat.le_of_ble_eq_true rfl, Nat.le_of_ble_eq_true rfl⟩ ⟨by show k + 2 ≤ 601024; omega, by show n + 12 ≤ 7293034; omega⟩ (Nat.le_of_ble_eq_true rfl) dL_law_1672 (CtH_mono CFs_c (CFc_ok E) (ct_L_steps hl0 h)) (fun r1 st1 h => ?_)
  refine J_istore _ dL_law_1675 (by decide) rfl ?_
  refine J_aload_n 3 dL_law_1677 rfl rfl ?_
  refine J_aload_n 1 dL_law_1678 rfl rfl ?_
  refine J_iload 5 dL_law_1679 rfl ?_
  refine J_iconst 1 dL_law_1681 (by decide) ?_
  refine J_iadd dL_law_1682 ?_
  refine J_sld s1 dL_law_1683 ?_
  refine J_aload_n 1 dL_law_1684 rfl rfl ?_
  refine J_iload 5 dL_law_1685 rfl ?_
  refine J_iconst 2 dL_law_1687 (by decide) ?_
  refine J_iadd dL_law_1688 ?_
  refine J_sld s2 dL_law_1689 ?_
  refine J_cvi (As := [_, _]) md_X12_steps k_1571 (rc_obj cl_12 tb_mo) rfl rfl ⟨Nat.le_of_ble_eq_true rfl, Nat.le_of_ble_eq_true rfl⟩ ⟨by show k + 2 + 0 ≤ 601024; omega, by show n + 12 + 0 ≤ 7293034; omega⟩ (Nat.le_of_ble_eq_true rfl) dL_law_1690 (CtI_mono CFs_c (CFc_ok E) (ct_X12_steps h)) (fun r2 st2 h => ?_)
  refine J_istore _ dL_law_1693 (by decide) rfl ?_
  refine J_aload_n 4 dL_law_1695 rfl rfl ?_
  refine J_cvi (As := []) md_X12_thrown k_1441 (rc_obj cl_12 tb_mo) rfl rfl ⟨Nat.le_of_ble_eq_true rfl, Nat.le_of_ble_eq_true rfl⟩ ⟨by show k + 2 + 0 ≤ 601024; omega, by show n + 12 + 0 ≤ 7293034; omega⟩ (Nat.le_of_ble_eq_true rfl) dL_law_1696 (CtI_mono CFs_c (CFc_ok E) (ct_X12_thrown h)) (fun r3 st3 h => ?_)
  refine J_iload 1 dL_law_1699 rfl ?_
  obtain ⟨he, h⟩ := h
  refine J_icmp_eq 1706 dL_law_1701 (by decide) (fun _ => ?_) (fun hne => absurd he hne)
  refine J_iload 1 dL_law_1706 rfl ?_
  obtain ⟨he2, h⟩ := h
  refine J_if_ne 1723 dL_law_1708 (by decide) (fun _ => ?_) (fun hz0 => ?_)
  · refine J_goto 2345 dL_law_1723 (by decide) ?_; exact J_widen (by omega) (by omega) (J_lv [2, 3, 4, 5, 6] rfl (kk _ h))
  have he2 := he2 hz0
  refine J_aload_n 5 dL_law_1711 rfl rfl ?_
  refine J_iconst 0 dL_law_1712 (by decide) ?_
  refine J_lald dL_law_1713 vi_out ?_
  refine J_iload 0 dL_law_1714 rfl ?_
  refine J_i2l dL_law_1716 ?_
  refine J_lcmp dL_law_1717 ?_
  refine J_if_eq 1723 dL_law_1718 (by decide) (fun _ => ?_) (fun hne => absurd (lg_cmp0 he2) hne)
  refine J_goto 2345 dL_law_1723 (by decide) ?_
  exact J_widen (by omega) (by omega) (J_lv [2, 3, 4, 5, 6] rfl (kk _ h))
set_option maxRecDepth 100000 in
set_option maxHeartbeats 4000000 in
theorem cs_27 {l : Launch} {E : En} (hl0 : l.stackTraces = false) {L : Nat} {xs : Nat → Int32} {XT : Code → Prop} {QQ : List Frame → Array Value → State → Nat → State → Prop} {k n : Nat} {i a1 a2 a3 a4 a5 : Int32} (s1 : SL L xs (i + 1) a1) (s2 : SL L xs (i + 2) a2) (s3 : SL L xs (i + 3) a3) (s4 : SL L xs (i + 4) a4) (s5 : SL L xs (i + 5) a5) {st : St} {K : St → Prop} (hk : k + 5 ≤ 601024) (hn : n + 30 ≤ 7293034)
    (h : P_L_busiest a1 st (fun r1 st1 => P_X12_busiest 58 a1 st1 (fun r2 st2 => P_X12_thrown 58  st2 (fun r3 st3 => r3 = r1 ∧ (r1 = 0 → gL st3 106 0 = r2.toInt64) ∧ K st3)))) (kk : ∀ st2, K st2 → Jg l E (CFs E L xs) room_1 code 7 RL ret XT QQ (k + 5) (n + 30) 2345 [(0, .ref 1300), (1, .ref 0), (2, .ref 58), (3, .ref 106), (4, .int i)] [] st2) : Jg l E (CFs E L xs) room_1 code 7 RL ret XT QQ k n 1726 [(0, .ref 1300), (1, .ref 0), (2, .ref 58), (3, .ref 106), (4, .int i)] [] st := by
  refine J_aload_n 1 dL_law_1726 rfl rfl ?_
  refine J_aload_n 0 dL_law_1727 rfl rfl ?_
  refine J_iload 4 dL_law_1728 rfl ?_
  refine J_iconst 1 dL_law_1730 (by decide) ?_
  refine J_iadd dL_law_1731 ?_
  refine J_sld s1 dL_law_1732 ?_
  refine J_aload_n 3 dL_law_1733 rfl rfl ?_
  refine J_csH (As := [_, _, _]) mdh_L_busiest k_1574 rfl rfl ⟨Nat.le_of_ble_eq_true rfl, Nat.le_of_ble_eq_true rfl⟩ ⟨by show k + 1 ≤ 601024; omega, by show n + 6 ≤ 7293034; omega⟩ (Nat.le_of_ble_eq_true rfl) dL_law_1734 (CtH_mono CFs_c (CFc_ok E) (ct_L_busiest hl0 h)) (fun r1 st1 h => ?_)
  refine J_istore _ dL_law_1737 (by decide) rfl ?_
  refine J_aload_n 3 dL_law_1739 rfl rfl ?_
  refine J_aload_n 1 dL_law_1740 rfl rfl ?_
  refine J_iload 5 dL_law_1741 rfl ?_
  refine J_iconst 1 dL_law_1743 (by decide) ?_
  refine J_iadd dL_law_1744 ?_
  refine J_sld s1 dL_law_1745 ?_
  refine J_cvi (As := [_]) md_X12_busiest k_1576 (rc_obj cl_12 tb_mo) rfl rfl ⟨Nat.le_of_ble_eq_true rfl, Nat.le_of_ble_eq_true rfl⟩ ⟨by show k + 1 + 0 ≤ 601024; omega, by show n + 6 + 0 ≤ 7293034; omega⟩ (Nat.le_of_ble_eq_true rfl) dL_law_1746 (CtI_mono CFs_c (CFc_ok E) (ct_X12_busiest h)) (fun r2 st2 h => ?_)
  refine J_istore _ dL_law_1749 (by decide) rfl ?_
  refine J_aload_n 4 dL_law_1751 rfl rfl ?_
  refine J_cvi (As := []) md_X12_thrown k_1441 (rc_obj cl_12 tb_mo) rfl rfl ⟨Nat.le_of_ble_eq_true rfl, Nat.le_of_ble_eq_true rfl⟩ ⟨by show k + 1 + 0 ≤ 601024; omega, by show n + 6 + 0 ≤ 7293034; omega⟩ (Nat.le_of_ble_eq_true rfl) dL_law_1752 (CtI_mono CFs_c (CFc_ok E) (ct_X12_thrown h)) (fun r3 st3 h => ?_)
  refine J_iload 1 dL_law_1755 rfl ?_
  obtain ⟨he, h⟩ := h
  refine J_icmp_eq 1762 dL_law_1757 (by decide) (fun _ => ?_) (fun hne => absurd he hne)
  refine J_iload 1 dL_law_1762 rfl ?_
  obtain ⟨he2, h⟩ := h
  refine J_if_ne 1779 dL_law_1764 (by decide) (fun _ => ?_) (fun hz0 => ?_)
  · refine J_goto 2345 dL_law_1779 (by decide) ?_; exact J_widen (by omega) (by omega) (J_lv [2, 3, 4, 5, 6] rfl (kk _ h))
  have he2 := he2 hz0
  refine J_aload_n 5 dL_law_1767 rfl rfl ?_
  refine J_iconst 0 dL_law_1768 (by decide) ?_
  refine J_lald dL_law_1769 vi_out ?_
  refine J_iload 0 dL_law_1770 rfl ?_
  refine J_i2l dL_law_1772 ?_
  refine J_lcmp dL_law_1773 ?_
  refine J_if_eq 1779 dL_law_1774 (by decide) (fun _ => ?_) (fun hne => absurd (lg_cmp0 he2) hne)
  refine J_goto 2345 dL_law_1779 (by decide) ?_
  exact J_widen (by omega) (by omega) (J_lv [2, 3, 4, 5, 6] rfl (kk _ h))
set_option maxRecDepth 100000 in
set_option maxHeartbeats 4000000 in
theorem cs_28 {l : Launch} {E : En} (hl0 : l.stackTraces = false) {L : Nat} {xs : Nat → Int32} {XT : Code → Prop} {QQ : List Frame → Array Value → State → Nat → State → Prop} {k n : Nat} {i a1 a2 a3 a4 a5 : Int32} (s1 : SL L xs (i + 1) a1) (s2 : SL L xs (i + 2) a2) (s3 : SL L xs (i + 3) a3) (s4 : SL L xs (i + 4) a4) (s5 : SL L xs (i + 5) a5) {st : St} {K : St → Prop} (hk : k + 5 ≤ 601024) (hn : n + 30 ≤ 7293034)
    (h : P_L_crowd a1 st (fun r1 st1 => P_X12_crowd 58 a1 st1 (fun r2 st2 => P_X12_thrown 58  st2 (fun r3 st3 => r3 = r1 ∧ (r1 = 0 → gL st3 106 0 = r2.toInt64) ∧ K st3)))) (kk : ∀ st2, K st2 → Jg l E (CFs E L xs) room_1 code 7 RL ret XT QQ (k + 5) (n + 30) 2345 [(0, .ref 1300), (1, .ref 0), (2, .ref 58), (3, .ref 106), (4, .int i)] [] st2) : Jg l E (CFs E L xs) room_1 code 7 RL ret XT QQ k n 1782 [(0, .ref 1300), (1, .ref 0), (2, .ref 58), (3, .ref 106), (4, .int i)] [] st := by
  refine J_aload_n 1 dL_law_1782 rfl rfl ?_
  refine J_aload_n 0 dL_law_1783 rfl rfl ?_
  refine J_iload 4 dL_law_1784 rfl ?_
  refine J_iconst 1 dL_law_1786 (by decide) ?_
  refine J_iadd dL_law_1787 ?_
  refine J_sld s1 dL_law_1788 ?_
  refine J_aload_n 3 dL_law_1789 rfl rfl ?_
  refine J_csH (As := [_, _, _]) mdh_L_crowd k_1579 rfl rfl ⟨Nat.le_of_ble_eq_true rfl, Nat.le_of_ble_eq_true rfl⟩ ⟨by show k + 1 ≤ 601024; omega, by show n + 6 ≤ 7293034; omega⟩ (Nat.le_of_ble_eq_true rfl) dL_law_1790 (CtH_mono CFs_c (CFc_ok E) (ct_L_crowd hl0 h)) (fun r1 st1 h => ?_)
  refine J_istore _ dL_law_1793 (by decide) rfl ?_
  refine J_aload_n 3 dL_law_1795 rfl rfl ?_
  refine J_aload_n 1 dL_law_1796 rfl rfl ?_
  refine J_iload 5 dL_law_1797 rfl ?_
  refine J_iconst 1 dL_law_1799 (by decide) ?_
  refine J_iadd dL_law_1800 ?_
  refine J_sld s1 dL_law_1801 ?_
  refine J_cvi (As := [_]) md_X12_crowd k_1581 (rc_obj cl_12 tb_mo) rfl rfl ⟨Nat.le_of_ble_eq_true rfl, Nat.le_of_ble_eq_true rfl⟩ ⟨by show k + 1 + 0 ≤ 601024; omega, by show n + 6 + 0 ≤ 7293034; omega⟩ (Nat.le_of_ble_eq_true rfl) dL_law_1802 (CtI_mono CFs_c (CFc_ok E) (ct_X12_crowd h)) (fun r2 st2 h => ?_)
  refine J_istore _ dL_law_1805 (by decide) rfl ?_
  refine J_aload_n 4 dL_law_1807 rfl rfl ?_
  refine J_cvi (As := []) md_X12_thrown k_1441 (rc_obj cl_12 tb_mo) rfl rfl ⟨Nat.le_of_ble_eq_true rfl, Nat.le_of_ble_eq_true rfl⟩ ⟨by show k + 1 + 0 ≤ 601024; omega, by show n + 6 + 0 ≤ 7293034; omega⟩ (Nat.le_of_ble_eq_true rfl) dL_law_1808 (CtI_mono CFs_c (CFc_ok E) (ct_X12_thrown h)) (fun r3 st3 h => ?_)
  refine J_iload 1 dL_law_1811 rfl ?_
  obtain ⟨he, h⟩ := h
  refine J_icmp_eq 1818 dL_law_1813 (by decide) (fun _ => ?_) (fun hne => absurd he hne)
  refine J_iload 1 dL_law_1818 rfl ?_
  obtain ⟨he2, h⟩ := h
  refine J_if_ne 1835 dL_law_1820 (by decide) (fun _ => ?_) (fun hz0 => ?_)
  · refine J_goto 2345 dL_law_1835 (by decide) ?_; exact J_widen (by omega) (by omega) (J_lv [2, 3, 4, 5, 6] rfl (kk _ h))
  have he2 := he2 hz0
  refine J_aload_n 5 dL_law_1823 rfl rfl ?_
  refine J_iconst 0 dL_law_1824 (by decide) ?_
  refine J_lald dL_law_1825 vi_out ?_
  refine J_iload 0 dL_law_1826 rfl ?_
  refine J_i2l dL_law_1828 ?_
  refine J_lcmp dL_law_1829 ?_
  refine J_if_eq 1835 dL_law_1830 (by decide) (fun _ => ?_) (fun hne => absurd (lg_cmp0 he2) hne)
  refine J_goto 2345 dL_law_1835 (by decide) ?_
  exact J_widen (by omega) (by omega) (J_lv [2, 3, 4, 5, 6] rfl (kk _ h))
set_option maxRecDepth 100000 in
set_option maxHeartbeats 4000000 in
theorem cs_29 {l : Launch} {E : En} (hl0 : l.stackTraces = false) {L : Nat} {xs : Nat → Int32} {XT : Code → Prop} {QQ : List Frame → Array Value → State → Nat → State → Prop} {k n : Nat} {i a1 a2 a3 a4 a5 : Int32} (s1 : SL L xs (i + 1) a1) (s2 : SL L xs (i + 2) a2) (s3 : SL L xs (i + 3) a3) (s4 : SL L xs (i + 4) a4) (s5 : SL L xs (i + 5) a5) {st : St} {K : St → Prop} (hk : k + 5 ≤ 601024) (hn : n + 30 ≤ 7293034)
    (h : P_L_common a1 a2 st (fun r1 st1 => P_X12_common 58 a1 a2 st1 (fun r2 st2 => P_X12_thrown 58  st2 (fun r3 st3 => r3 = r1 ∧ (r1 = 0 → gL st3 106 0 = r2.toInt64) ∧ K st3)))) (kk : ∀ st2, K st2 → Jg l E (CFs E L xs) room_1 code 7 RL ret XT QQ (k + 5) (n + 30) 2345 [(0, .ref 1300), (1, .ref 0), (2, .ref 58), (3, .ref 106), (4, .int i)] [] st2) : Jg l E (CFs E L xs) room_1 code 7 RL ret XT QQ k n 1838 [(0, .ref 1300), (1, .ref 0), (2, .ref 58), (3, .ref 106), (4, .int i)] [] st := by
  refine J_aload_n 1 dL_law_1838 rfl rfl ?_
  refine J_aload_n 0 dL_law_1839 rfl rfl ?_
  refine J_iload 4 dL_law_1840 rfl ?_
  refine J_iconst 1 dL_law_1842 (by decide) ?_
  refine J_iadd dL_law_1843 ?_
  refine J_sld s1 dL_law_1844 ?_
  refine J_aload_n 0 dL_law_1845 rfl rfl ?_
  refine J_iload 4 dL_law_1846 rfl ?_
  refine J_iconst 2 dL_law_1848 (by decide) ?_
  refine J_iadd dL_law_1849 ?_
  refine J_sld s2 dL_law_1850 ?_
  refine J_aload_n 3 dL_law_1851 rfl rfl ?_
  refine J_csH (As := [_, _, _, _]) mdh_L_common k_1584 rfl rfl ⟨Nat.le_of_ble_eq_true rfl, Nat.le_of_ble_eq_true rfl⟩ ⟨by show k + 2 ≤ 601024; omega, by show n + 12 ≤ 7293034; omega⟩ (Nat.le_of_ble_eq_true rfl) dL_law_1852 (CtH_mono CFs_c (CFc_ok E) (ct_L_common hl0 h)) (fun r1 st1 h => ?_)
  refine J_istore _ dL_law_1855 (by decide) rfl ?_
  refine J_aload_n 3 dL_law_1857 rfl rfl ?_
  refine J_aload_n 1 dL_law_1858 rfl rfl ?_
  refine J_iload 5 dL_law_1859 rfl ?_
  refine J_iconst 1 dL_law_1861 (by decide) ?_
  refine J_iadd dL_law_1862 ?_
  refine J_sld s1 dL_law_1863 ?_
  refine J_aload_n 1 dL_law_1864 rfl rfl ?_
  refine J_iload 5 dL_law_1865 rfl ?_
  refine J_iconst 2 dL_law_1867 (by decide) ?_
  refine J_iadd dL_law_1868 ?_
  refine J_sld s2 dL_law_1869 ?_
  refine J_cvi (As := [_, _]) md_X12_common k_1586 (rc_obj cl_12 tb_mo) rfl rfl ⟨Nat.le_of_ble_eq_true rfl, Nat.le_of_ble_eq_true rfl⟩ ⟨by show k + 2 + 0 ≤ 601024; omega, by show n + 12 + 0 ≤ 7293034; omega⟩ (Nat.le_of_ble_eq_true rfl) dL_law_1870 (CtI_mono CFs_c (CFc_ok E) (ct_X12_common h)) (fun r2 st2 h => ?_)
  refine J_istore _ dL_law_1873 (by decide) rfl ?_
  refine J_aload_n 4 dL_law_1875 rfl rfl ?_
  refine J_cvi (As := []) md_X12_thrown k_1441 (rc_obj cl_12 tb_mo) rfl rfl ⟨Nat.le_of_ble_eq_true rfl, Nat.le_of_ble_eq_true rfl⟩ ⟨by show k + 2 + 0 ≤ 601024; omega, by show n + 12 + 0 ≤ 7293034; omega⟩ (Nat.le_of_ble_eq_true rfl) dL_law_1876 (CtI_mono CFs_c (CFc_ok E) (ct_X12_thrown h)) (fun r3 st3 h => ?_)
  refine J_iload 1 dL_law_1879 rfl ?_
  obtain ⟨he, h⟩ := h
  refine J_icmp_eq 1886 dL_law_1881 (by decide) (fun _ => ?_) (fun hne => absurd he hne)
  refine J_iload 1 dL_law_1886 rfl ?_
  obtain ⟨he2, h⟩ := h
  refine J_if_ne 1903 dL_law_1888 (by decide) (fun _ => ?_) (fun hz0 => ?_)
  · refine J_goto 2345 dL_law_1903 (by decide) ?_; exact J_widen (by omega) (by omega) (J_lv [2, 3, 4, 5, 6] rfl (kk _ h))
  have he2 := he2 hz0
  refine J_aload_n 5 dL_law_1891 rfl rfl ?_
  refine J_iconst 0 dL_law_1892 (by decide) ?_
  refine J_lald dL_law_1893 vi_out ?_
  refine J_iload 0 dL_law_1894 rfl ?_
  refine J_i2l dL_law_1896 ?_
  refine J_lcmp dL_law_1897 ?_
  refine J_if_eq 1903 dL_law_1898 (by decide) (fun _ => ?_) (fun hne => absurd (lg_cmp0 he2) hne)
  refine J_goto 2345 dL_law_1903 (by decide) ?_
  exact J_widen (by omega) (by omega) (J_lv [2, 3, 4, 5, 6] rfl (kk _ h))
set_option maxRecDepth 100000 in
set_option maxHeartbeats 4000000 in
theorem cs_30 {l : Launch} {E : En} (hl0 : l.stackTraces = false) {L : Nat} {xs : Nat → Int32} {XT : Code → Prop} {QQ : List Frame → Array Value → State → Nat → State → Prop} {k n : Nat} {i a1 a2 a3 a4 a5 : Int32} (s1 : SL L xs (i + 1) a1) (s2 : SL L xs (i + 2) a2) (s3 : SL L xs (i + 3) a3) (s4 : SL L xs (i + 4) a4) (s5 : SL L xs (i + 5) a5) {st : St} {K : St → Prop} (hk : k + 5 ≤ 601024) (hn : n + 30 ≤ 7293034)
    (h : P_L_see a1 a2 a3 a4 (if a5 = 0 then 0 else 1) st (fun r1 st1 => P_X12_see 58 a1 a2 a3 a4 (if a5 = 0 then 0 else 1) st1 (fun r2 st2 => P_X12_thrown 58  st2 (fun r3 st3 => r3 = r1 ∧ (r1 = 0 → gL st3 106 0 = r2.toInt64) ∧ K st3)))) (kk : ∀ st2, K st2 → Jg l E (CFs E L xs) room_1 code 7 RL ret XT QQ (k + 5) (n + 30) 2345 [(0, .ref 1300), (1, .ref 0), (2, .ref 58), (3, .ref 106), (4, .int i)] [] st2) : Jg l E (CFs E L xs) room_1 code 7 RL ret XT QQ k n 1906 [(0, .ref 1300), (1, .ref 0), (2, .ref 58), (3, .ref 106), (4, .int i)] [] st := by
  by_cases hz : a5 = 0
  · simp only [if_pos hz] at h
    refine J_aload_n 1 dL_law_1906 rfl rfl ?_
    refine J_aload_n 0 dL_law_1907 rfl rfl ?_
    refine J_iload 4 dL_law_1908 rfl ?_
    refine J_iconst 1 dL_law_1910 (by decide) ?_
    refine J_iadd dL_law_1911 ?_
    refine J_sld s1 dL_law_1912 ?_
    refine J_aload_n 0 dL_law_1913 rfl rfl ?_
    refine J_iload 4 dL_law_1914 rfl ?_
    refine J_iconst 2 dL_law_1916 (by decide) ?_
    refine J_iadd dL_law_1917 ?_
    refine J_sld s2 dL_law_1918 ?_
    refine J_aload_n 0 dL_law_1919 rfl rfl ?_
    refine J_iload 4 dL_law_1920 rfl ?_
    refine J_iconst 3 dL_law_1922 (by decide) ?_
    refine J_iadd dL_law_1923 ?_
    refine J_sld s3 dL_law_1924 ?_
    refine J_aload_n 0 dL_law_1925 rfl rfl ?_
    refine J_iload 4 dL_law_1926 rfl ?_
    refine J_iconst 4 dL_law_1928 (by decide) ?_
    refine J_iadd dL_law_1929 ?_
    refine J_sld s4 dL_law_1930 ?_
    refine J_aload_n 0 dL_law_1931 rfl rfl ?_
    refine J_iload 4 dL_law_1932 rfl ?_
    refine J_iconst 5 dL_law_1934 (by decide) ?_
    refine J_iadd dL_law_1935 ?_
    refine J_sld s5 dL_law_1936 ?_
    refine J_if_eq 1944 dL_law_1937 (by decide) (fun _ => ?_) (fun hne => absurd hz hne)
    refine J_iconst 0 dL_law_1944 (by decide) ?_
    refine J_aload_n 3 dL_law_1945 rfl rfl ?_
    refine J_csH (As := [_, _, _, _, _, _, _]) mdh_L_see k_1589 rfl rfl ⟨Nat.le_of_ble_eq_true rfl, Nat.le_of_ble_eq_true rfl⟩ ⟨by show k + 3 ≤ 601024; omega, by show n + 18 ≤ 7293034; omega⟩ (Nat.le_of_ble_eq_true rfl) dL_law_1946 (CtH_mono CFs_c (CFc_ok E) (ct_L_see hl0 h)) (fun r1 st1 h => ?_)
    refine J_istore _ dL_law_1949 (by decide) rfl ?_
    refine J_aload_n 3 dL_law_1951 rfl rfl ?_
    refine J_aload_n 1 dL_law_1952 rfl rfl ?_
    refine J_iload 5 dL_law_1953 rfl ?_
    refine J_iconst 1 dL_law_1955 (by decide) ?_
    refine J_iadd dL_law_1956 ?_
    refine J_sld s1 dL_law_1957 ?_
    refine J_aload_n 1 dL_law_1958 rfl rfl ?_
    refine J_iload 5 dL_law_1959 rfl ?_
    refine J_iconst 2 dL_law_1961 (by decide) ?_
    refine J_iadd dL_law_1962 ?_
    refine J_sld s2 dL_law_1963 ?_
    refine J_aload_n 1 dL_law_1964 rfl rfl ?_
    refine J_iload 5 dL_law_1965 rfl ?_
    refine J_iconst 3 dL_law_1967 (by decide) ?_
    refine J_iadd dL_law_1968 ?_
    refine J_sld s3 dL_law_1969 ?_
    refine J_aload_n 1 dL_law_1970 rfl rfl ?_
    refine J_iload 5 dL_law_1971 rfl ?_
    refine J_iconst 4 dL_law_1973 (by decide) ?_
    refine J_iadd dL_law_1974 ?_
    refine J_sld s4 dL_law_1975 ?_
    refine J_aload_n 1 dL_law_1976 rfl rfl ?_
    refine J_iload 5 dL_law_1977 rfl ?_
    refine J_iconst 5 dL_law_1979 (by decide) ?_
    refine J_iadd dL_law_1980 ?_
    refine J_sld s5 dL_law_1981 ?_
    refine J_if_eq 1989 dL_law_1982 (by decide) (fun _ => ?_) (fun hne => absurd hz hne)
    refine J_iconst 0 dL_law_1989 (by decide) ?_
    refine J_cvi (As := [_, _, _, _, _]) md_X12_see k_1591 (rc_obj cl_12 tb_mo) rfl rfl ⟨Nat.le_of_ble_eq_true rfl, Nat.le_of_ble_eq_true rfl⟩ ⟨by show k + 3 + 0 ≤ 601024; omega, by show n + 18 + 0 ≤ 7293034; omega⟩ (Nat.le_of_ble_eq_true rfl) dL_law_1990 (CtI_mono CFs_c (CFc_ok E) (ct_X12_see h)) (fun r2 st2 h => ?_)
    refine J_istore _ dL_law_1993 (by decide) rfl ?_
    refine J_aload_n 4 dL_law_1995 rfl rfl ?_
    refine J_cvi (As := []) md_X12_thrown k_1441 (rc_obj cl_12 tb_mo) rfl rfl ⟨Nat.le_of_ble_eq_true rfl, Nat.le_of_ble_eq_true rfl⟩ ⟨by show k + 3 + 0 ≤ 601024; omega, by show n + 18 + 0 ≤ 7293034; omega⟩ (Nat.le_of_ble_eq_true rfl) dL_law_1996 (CtI_mono CFs_c (CFc_ok E) (ct_X12_thrown h)) (fun r3 st3 h => ?_)
    refine J_iload 1 dL_law_1999 rfl ?_
    obtain ⟨he, h⟩ := h
    refine J_icmp_eq 2006 dL_law_2001 (by decide) (fun _ => ?_) (fun hne => absurd he hne)
    refine J_iload 1 dL_law_2006 rfl ?_
    obtain ⟨he2, h⟩ := h
    refine J_if_ne 2023 dL_law_2008 (by decide) (fun _ => ?_) (fun hz0 => ?_)
    · refine J_goto 2345 dL_law_2023 (by decide) ?_; exact J_widen (by omega) (by omega) (J_lv [2, 3, 4, 5, 6] rfl (kk _ h))
    have he2 := he2 hz0
    refine J_aload_n 5 dL_law_2011 rfl rfl ?_
    refine J_iconst 0 dL_law_2012 (by decide) ?_
    refine J_lald dL_law_2013 vi_out ?_
    refine J_iload 0 dL_law_2014 rfl ?_
    refine J_i2l dL_law_2016 ?_
    refine J_lcmp dL_law_2017 ?_
    refine J_if_eq 2023 dL_law_2018 (by decide) (fun _ => ?_) (fun hne => absurd (lg_cmp0 he2) hne)
    refine J_goto 2345 dL_law_2023 (by decide) ?_
    exact J_widen (by omega) (by omega) (J_lv [2, 3, 4, 5, 6] rfl (kk _ h))
  · simp only [if_neg hz] at h
    refine J_aload_n 1 dL_law_1906 rfl rfl ?_
    refine J_aload_n 0 dL_law_1907 rfl rfl ?_
    refine J_iload 4 dL_law_1908 rfl ?_
    refine J_iconst 1 dL_law_1910 (by decide) ?_
    refine J_iadd dL_law_1911 ?_
    refine J_sld s1 dL_law_1912 ?_
    refine J_aload_n 0 dL_law_1913 rfl rfl ?_
    refine J_iload 4 dL_law_1914 rfl ?_
    refine J_iconst 2 dL_law_1916 (by decide) ?_
    refine J_iadd dL_law_1917 ?_
    refine J_sld s2 dL_law_1918 ?_
    refine J_aload_n 0 dL_law_1919 rfl rfl ?_
    refine J_iload 4 dL_law_1920 rfl ?_
    refine J_iconst 3 dL_law_1922 (by decide) ?_
    refine J_iadd dL_law_1923 ?_
    refine J_sld s3 dL_law_1924 ?_
    refine J_aload_n 0 dL_law_1925 rfl rfl ?_
    refine J_iload 4 dL_law_1926 rfl ?_
    refine J_iconst 4 dL_law_1928 (by decide) ?_
    refine J_iadd dL_law_1929 ?_
    refine J_sld s4 dL_law_1930 ?_
    refine J_aload_n 0 dL_law_1931 rfl rfl ?_
    refine J_iload 4 dL_law_1932 rfl ?_
    refine J_iconst 5 dL_law_1934 (by decide) ?_
    refine J_iadd dL_law_1935 ?_
    refine J_sld s5 dL_law_1936 ?_
    refine J_if_eq 1944 dL_law_1937 (by decide) (fun hne => absurd hne hz) (fun _ => ?_)
    refine J_iconst 1 dL_law_1940 (by decide) ?_
    refine J_goto 1945 dL_law_1941 (by decide) ?_
    refine J_aload_n 3 dL_law_1945 rfl rfl ?_
    refine J_csH (As := [_, _, _, _, _, _, _]) mdh_L_see k_1589 rfl rfl ⟨Nat.le_of_ble_eq_true rfl, Nat.le_of_ble_eq_true rfl⟩ ⟨by show k + 3 ≤ 601024; omega, by show n + 18 ≤ 7293034; omega⟩ (Nat.le_of_ble_eq_true rfl) dL_law_1946 (CtH_mono CFs_c (CFc_ok E) (ct_L_see hl0 h)) (fun r1 st1 h => ?_)
    refine J_istore _ dL_law_1949 (by decide) rfl ?_
    refine J_aload_n 3 dL_law_1951 rfl rfl ?_
    refine J_aload_n 1 dL_law_1952 rfl rfl ?_
    refine J_iload 5 dL_law_1953 rfl ?_
    refine J_iconst 1 dL_law_1955 (by decide) ?_
    refine J_iadd dL_law_1956 ?_
    refine J_sld s1 dL_law_1957 ?_
    refine J_aload_n 1 dL_law_1958 rfl rfl ?_
    refine J_iload 5 dL_law_1959 rfl ?_
    refine J_iconst 2 dL_law_1961 (by decide) ?_
    refine J_iadd dL_law_1962 ?_
    refine J_sld s2 dL_law_1963 ?_
    refine J_aload_n 1 dL_law_1964 rfl rfl ?_
    refine J_iload 5 dL_law_1965 rfl ?_
    refine J_iconst 3 dL_law_1967 (by decide) ?_
    refine J_iadd dL_law_1968 ?_
    refine J_sld s3 dL_law_1969 ?_
    refine J_aload_n 1 dL_law_1970 rfl rfl ?_
    refine J_iload 5 dL_law_1971 rfl ?_
    refine J_iconst 4 dL_law_1973 (by decide) ?_
    refine J_iadd dL_law_1974 ?_
    refine J_sld s4 dL_law_1975 ?_
    refine J_aload_n 1 dL_law_1976 rfl rfl ?_
    refine J_iload 5 dL_law_1977 rfl ?_
    refine J_iconst 5 dL_law_1979 (by decide) ?_
    refine J_iadd dL_law_1980 ?_
    refine J_sld s5 dL_law_1981 ?_
    refine J_if_eq 1989 dL_law_1982 (by decide) (fun hne => absurd hne hz) (fun _ => ?_)
    refine J_iconst 1 dL_law_1985 (by decide) ?_
    refine J_goto 1990 dL_law_1986 (by decide) ?_
    refine J_cvi (As := [_, _, _, _, _]) md_X12_see k_1591 (rc_obj cl_12 tb_mo) rfl rfl ⟨Nat.le_of_ble_eq_true rfl, Nat.le_of_ble_eq_true rfl⟩ ⟨by show k + 3 + 0 ≤ 601024; omega, by show n + 18 + 0 ≤ 7293034; omega⟩ (Nat.le_of_ble_eq_true rfl) dL_law_1990 (CtI_mono CFs_c (CFc_ok E) (ct_X12_see h)) (fun r2 st2 h => ?_)
    refine J_istore _ dL_law_1993 (by decide) rfl ?_
    refine J_aload_n 4 dL_law_1995 rfl rfl ?_
    refine J_cvi (As := []) md_X12_thrown k_1441 (rc_obj cl_12 tb_mo) rfl rfl ⟨Nat.le_of_ble_eq_true rfl, Nat.le_of_ble_eq_true rfl⟩ ⟨by show k + 3 + 0 ≤ 601024; omega, by show n + 18 + 0 ≤ 7293034; omega⟩ (Nat.le_of_ble_eq_true rfl) dL_law_1996 (CtI_mono CFs_c (CFc_ok E) (ct_X12_thrown h)) (fun r3 st3 h => ?_)
    refine J_iload 1 dL_law_1999 rfl ?_
    obtain ⟨he, h⟩ := h
    refine J_icmp_eq 2006 dL_law_2001 (by decide) (fun _ => ?_) (fun hne => absurd he hne)
    refine J_iload 1 dL_law_2006 rfl ?_
    obtain ⟨he2, h⟩ := h
    refine J_if_ne 2023 dL_law_2008 (by decide) (fun _ => ?_) (fun hz0 => ?_)
    · refine J_goto 2345 dL_law_2023 (by decide) ?_; exact J_widen (by omega) (by omega) (J_lv [2, 3, 4, 5, 6] rfl (kk _ h))
    have he2 := he2 hz0
    refine J_aload_n 5 dL_law_2011 rfl rfl ?_
    refine J_iconst 0 dL_law_2012 (by decide) ?_
    refine J_lald dL_law_2013 vi_out ?_
    refine J_iload 0 dL_law_2014 rfl ?_
    refine J_i2l dL_law_2016 ?_
    refine J_lcmp dL_law_2017 ?_
    refine J_if_eq 2023 dL_law_2018 (by decide) (fun _ => ?_) (fun hne => absurd (lg_cmp0 he2) hne)
    refine J_goto 2345 dL_law_2023 (by decide) ?_
    exact J_widen (by omega) (by omega) (J_lv [2, 3, 4, 5, 6] rfl (kk _ h))
set_option maxRecDepth 100000 in
set_option maxHeartbeats 4000000 in
theorem cs_31 {l : Launch} {E : En} (hl0 : l.stackTraces = false) {L : Nat} {xs : Nat → Int32} {XT : Code → Prop} {QQ : List Frame → Array Value → State → Nat → State → Prop} {k n : Nat} {i a1 a2 a3 a4 a5 : Int32} (s1 : SL L xs (i + 1) a1) (s2 : SL L xs (i + 2) a2) (s3 : SL L xs (i + 3) a3) (s4 : SL L xs (i + 4) a4) (s5 : SL L xs (i + 5) a5) {st : St} {K : St → Prop} (hk : k + 5 ≤ 601024) (hn : n + 30 ≤ 7293034)
    (h : P_L_hidden a1 st (fun r1 st1 => P_X12_hidden 58 a1 st1 (fun r2 st2 => P_X12_thrown 58  st2 (fun r3 st3 => r3 = r1 ∧ (r1 = 0 → gL st3 106 0 = r2.toInt64) ∧ K st3)))) (kk : ∀ st2, K st2 → Jg l E (CFs E L xs) room_1 code 7 RL ret XT QQ (k + 5) (n + 30) 2345 [(0, .ref 1300), (1, .ref 0), (2, .ref 58), (3, .ref 106), (4, .int i)] [] st2) : Jg l E (CFs E L xs) room_1 code 7 RL ret XT QQ k n 2026 [(0, .ref 1300), (1, .ref 0), (2, .ref 58), (3, .ref 106), (4, .int i)] [] st := by
  refine J_aload_n 1 dL_law_2026 rfl rfl ?_
  refine J_aload_n 0 dL_law_2027 rfl rfl ?_
  refine J_iload 4 dL_law_2028 rfl ?_
  refine J_iconst 1 dL_law_2030 (by decide) ?_
  refine J_iadd dL_law_2031 ?_
  refine J_sld s1 dL_law_2032 ?_
  refine J_aload_n 3 dL_law_2033 rfl rfl ?_
  refine J_csH (As := [_, _, _]) mdh_L_hidden k_1594 rfl rfl ⟨Nat.le_of_ble_eq_true rfl, Nat.le_of_ble_eq_true rfl⟩ ⟨by show k + 1 ≤ 601024; omega, by show n + 6 ≤ 7293034; omega⟩ (Nat.le_of_ble_eq_true rfl) dL_law_2034 (CtH_mono CFs_c (CFc_ok E) (ct_L_hidden hl0 h)) (fun r1 st1 h => ?_)
  refine J_istore _ dL_law_2037 (by decide) rfl ?_
  refine J_aload_n 3 dL_law_2039 rfl rfl ?_
  refine J_aload_n 1 dL_law_2040 rfl rfl ?_
  refine J_iload 5 dL_law_2041 rfl ?_
  refine J_iconst 1 dL_law_2043 (by decide) ?_
  refine J_iadd dL_law_2044 ?_
  refine J_sld s1 dL_law_2045 ?_
  refine J_cvi (As := [_]) md_X12_hidden k_1596 (rc_obj cl_12 tb_mo) rfl rfl ⟨Nat.le_of_ble_eq_true rfl, Nat.le_of_ble_eq_true rfl⟩ ⟨by show k + 1 + 0 ≤ 601024; omega, by show n + 6 + 0 ≤ 7293034; omega⟩ (Nat.le_of_ble_eq_true rfl) dL_law_2046 (CtI_mono CFs_c (CFc_ok E) (ct_X12_hidden h)) (fun r2 st2 h => ?_)
  refine J_istore _ dL_law_2049 (by decide) rfl ?_
  refine J_aload_n 4 dL_law_2051 rfl rfl ?_
  refine J_cvi (As := []) md_X12_thrown k_1441 (rc_obj cl_12 tb_mo) rfl rfl ⟨Nat.le_of_ble_eq_true rfl, Nat.le_of_ble_eq_true rfl⟩ ⟨by show k + 1 + 0 ≤ 601024; omega, by show n + 6 + 0 ≤ 7293034; omega⟩ (Nat.le_of_ble_eq_true rfl) dL_law_2052 (CtI_mono CFs_c (CFc_ok E) (ct_X12_thrown h)) (fun r3 st3 h => ?_)
  refine J_iload 1 dL_law_2055 rfl ?_
  obtain ⟨he, h⟩ := h
  refine J_icmp_eq 2062 dL_law_2057 (by decide) (fun _ => ?_) (fun hne => absurd he hne)
  refine J_iload 1 dL_law_2062 rfl ?_
  obtain ⟨he2, h⟩ := h
  refine J_if_ne 2079 dL_law_2064 (by decide) (fun _ => ?_) (fun hz0 => ?_)
  · refine J_goto 2345 dL_law_2079 (by decide) ?_; exact J_widen (by omega) (by omega) (J_lv [2, 3, 4, 5, 6] rfl (kk _ h))
  have he2 := he2 hz0
  refine J_aload_n 5 dL_law_2067 rfl rfl ?_
  refine J_iconst 0 dL_law_2068 (by decide) ?_
  refine J_lald dL_law_2069 vi_out ?_
  refine J_iload 0 dL_law_2070 rfl ?_
  refine J_i2l dL_law_2072 ?_
  refine J_lcmp dL_law_2073 ?_
  refine J_if_eq 2079 dL_law_2074 (by decide) (fun _ => ?_) (fun hne => absurd (lg_cmp0 he2) hne)
  refine J_goto 2345 dL_law_2079 (by decide) ?_
  exact J_widen (by omega) (by omega) (J_lv [2, 3, 4, 5, 6] rfl (kk _ h))
set_option maxRecDepth 100000 in
set_option maxHeartbeats 4000000 in
theorem cs_32 {l : Launch} {E : En} (hl0 : l.stackTraces = false) {L : Nat} {xs : Nat → Int32} {XT : Code → Prop} {QQ : List Frame → Array Value → State → Nat → State → Prop} {k n : Nat} {i a1 a2 a3 a4 a5 : Int32} (s1 : SL L xs (i + 1) a1) (s2 : SL L xs (i + 2) a2) (s3 : SL L xs (i + 3) a3) (s4 : SL L xs (i + 4) a4) (s5 : SL L xs (i + 5) a5) {st : St} {K : St → Prop} (hk : k + 5 ≤ 601024) (hn : n + 30 ≤ 7293034)
    (h : P_L_next a1 st (fun r1 st1 => P_X12_next 58 a1 st1 (fun r2 st2 => P_X12_thrown 58  st2 (fun r3 st3 => r3 = r1 ∧ (r1 = 0 → gL st3 106 0 = r2.toInt64) ∧ K st3)))) (kk : ∀ st2, K st2 → Jg l E (CFs E L xs) room_1 code 7 RL ret XT QQ (k + 5) (n + 30) 2345 [(0, .ref 1300), (1, .ref 0), (2, .ref 58), (3, .ref 106), (4, .int i)] [] st2) : Jg l E (CFs E L xs) room_1 code 7 RL ret XT QQ k n 2082 [(0, .ref 1300), (1, .ref 0), (2, .ref 58), (3, .ref 106), (4, .int i)] [] st := by
  refine J_aload_n 1 dL_law_2082 rfl rfl ?_
  refine J_aload_n 0 dL_law_2083 rfl rfl ?_
  refine J_iload 4 dL_law_2084 rfl ?_
  refine J_iconst 1 dL_law_2086 (by decide) ?_
  refine J_iadd dL_law_2087 ?_
  refine J_sld s1 dL_law_2088 ?_
  refine J_aload_n 3 dL_law_2089 rfl rfl ?_
  refine J_csH (As := [_, _, _]) mdh_L_next k_1599 rfl rfl ⟨Nat.le_of_ble_eq_true rfl, Nat.le_of_ble_eq_true rfl⟩ ⟨by show k + 1 ≤ 601024; omega, by show n + 6 ≤ 7293034; omega⟩ (Nat.le_of_ble_eq_true rfl) dL_law_2090 (CtH_mono CFs_c (CFc_ok E) (ct_L_next hl0 h)) (fun r1 st1 h => ?_)
  refine J_istore _ dL_law_2093 (by decide) rfl ?_
  refine J_aload_n 3 dL_law_2095 rfl rfl ?_
  refine J_aload_n 1 dL_law_2096 rfl rfl ?_
  refine J_iload 5 dL_law_2097 rfl ?_
  refine J_iconst 1 dL_law_2099 (by decide) ?_
  refine J_iadd dL_law_2100 ?_
  refine J_sld s1 dL_law_2101 ?_
  refine J_cvi (As := [_]) md_X12_next k_1601 (rc_obj cl_12 tb_mo) rfl rfl ⟨Nat.le_of_ble_eq_true rfl, Nat.le_of_ble_eq_true rfl⟩ ⟨by show k + 1 + 0 ≤ 601024; omega, by show n + 6 + 0 ≤ 7293034; omega⟩ (Nat.le_of_ble_eq_true rfl) dL_law_2102 (CtI_mono CFs_c (CFc_ok E) (ct_X12_next h)) (fun r2 st2 h => ?_)
  refine J_istore _ dL_law_2105 (by decide) rfl ?_
  refine J_aload_n 4 dL_law_2107 rfl rfl ?_
  refine J_cvi (As := []) md_X12_thrown k_1441 (rc_obj cl_12 tb_mo) rfl rfl ⟨Nat.le_of_ble_eq_true rfl, Nat.le_of_ble_eq_true rfl⟩ ⟨by show k + 1 + 0 ≤ 601024; omega, by show n + 6 + 0 ≤ 7293034; omega⟩ (Nat.le_of_ble_eq_true rfl) dL_law_2108 (CtI_mono CFs_c (CFc_ok E) (ct_X12_thrown h)) (fun r3 st3 h => ?_)
  refine J_iload 1 dL_law_2111 rfl ?_
  obtain ⟨he, h⟩ := h
  refine J_icmp_eq 2118 dL_law_2113 (by decide) (fun _ => ?_) (fun hne => absurd he hne)
  refine J_iload 1 dL_law_2118 rfl ?_
  obtain ⟨he2, h⟩ := h
  refine J_if_ne 2135 dL_law_2120 (by decide) (fun _ => ?_) (fun hz0 => ?_)
  · refine J_goto 2345 dL_law_2135 (by decide) ?_; exact J_widen (by omega) (by omega) (J_lv [2, 3, 4, 5, 6] rfl (kk _ h))
  have he2 := he2 hz0
  refine J_aload_n 5 dL_law_2123 rfl rfl ?_
  refine J_iconst 0 dL_law_2124 (by decide) ?_
  refine J_lald dL_law_2125 vi_out ?_
  refine J_iload 0 dL_law_2126 rfl ?_
  refine J_i2l dL_law_2128 ?_
  refine J_lcmp dL_law_2129 ?_
  refine J_if_eq 2135 dL_law_2130 (by decide) (fun _ => ?_) (fun hne => absurd (lg_cmp0 he2) hne)
  refine J_goto 2345 dL_law_2135 (by decide) ?_
  exact J_widen (by omega) (by omega) (J_lv [2, 3, 4, 5, 6] rfl (kk _ h))
set_option maxRecDepth 100000 in
set_option maxHeartbeats 4000000 in
theorem cs_33 {l : Launch} {E : En} (hl0 : l.stackTraces = false) {L : Nat} {xs : Nat → Int32} {XT : Code → Prop} {QQ : List Frame → Array Value → State → Nat → State → Prop} {k n : Nat} {i a1 a2 a3 a4 a5 : Int32} (s1 : SL L xs (i + 1) a1) (s2 : SL L xs (i + 2) a2) (s3 : SL L xs (i + 3) a3) (s4 : SL L xs (i + 4) a4) (s5 : SL L xs (i + 5) a5) {st : St} {K : St → Prop} (hk : k + 5 ≤ 601024) (hn : n + 30 ≤ 7293034)
    (h : P_X11_forget 0  st (fun st1 => P_X12_forget 58  st1 (fun st2 => K st2))) (kk : ∀ st2, K st2 → Jg l E (CFs E L xs) room_1 code 7 RL ret XT QQ (k + 5) (n + 30) 2345 [(0, .ref 1300), (1, .ref 0), (2, .ref 58), (3, .ref 106), (4, .int i)] [] st2) : Jg l E (CFs E L xs) room_1 code 7 RL ret XT QQ k n 2138 [(0, .ref 1300), (1, .ref 0), (2, .ref 58), (3, .ref 106), (4, .int i)] [] st := by
  refine J_aload_n 1 dL_law_2138 rfl rfl ?_
  refine J_cvv (As := []) md_X11_forget k_1604 (rc_obj cl_11 tb_out) rfl rfl ⟨Nat.le_of_ble_eq_true rfl, Nat.le_of_ble_eq_true rfl⟩ ⟨by show k + 0 + 0 ≤ 601024; omega, by show n + 0 + 0 ≤ 7293034; omega⟩ (Nat.le_of_ble_eq_true rfl) dL_law_2139 (CtV_mono CFs_c (CFc_ok E) (ct_X11_forget h)) (fun st1 h => ?_)
  refine J_aload_n 2 dL_law_2142 rfl rfl ?_
  refine J_cvv (As := []) md_X12_forget k_1607 (rc_obj cl_12 tb_mo) rfl rfl ⟨Nat.le_of_ble_eq_true rfl, Nat.le_of_ble_eq_true rfl⟩ ⟨by show k + 0 + 0 ≤ 601024; omega, by show n + 0 + 0 ≤ 7293034; omega⟩ (Nat.le_of_ble_eq_true rfl) dL_law_2143 (CtV_mono CFs_c (CFc_ok E) (ct_X12_forget h)) (fun st2 h => ?_)
  refine J_goto 2345 dL_law_2146 (by decide) ?_
  exact J_widen (by omega) (by omega) (J_lv [0, 1, 2, 3, 4] rfl (kk _ h))
set_option maxRecDepth 100000 in
set_option maxHeartbeats 4000000 in
theorem cs_34 {l : Launch} {E : En} (hl0 : l.stackTraces = false) {L : Nat} {xs : Nat → Int32} {XT : Code → Prop} {QQ : List Frame → Array Value → State → Nat → State → Prop} {k n : Nat} {i a1 a2 a3 a4 a5 : Int32} (s1 : SL L xs (i + 1) a1) (s2 : SL L xs (i + 2) a2) (s3 : SL L xs (i + 3) a3) (s4 : SL L xs (i + 4) a4) (s5 : SL L xs (i + 5) a5) {st : St} {K : St → Prop} (hk : k + 5 ≤ 601024) (hn : n + 30 ≤ 7293034)
    (h : P_L_game a1 a2 a3 a4 st (fun r1 st1 => P_X12_game 58 a1 a2 a3 a4 st1 (fun r2 st2 => P_X12_thrown 58  st2 (fun r3 st3 => r3 = r1 ∧ (r1 = 0 → gL st3 106 0 = r2.toInt64) ∧ K st3)))) (kk : ∀ st2, K st2 → Jg l E (CFs E L xs) room_1 code 7 RL ret XT QQ (k + 5) (n + 30) 2345 [(0, .ref 1300), (1, .ref 0), (2, .ref 58), (3, .ref 106), (4, .int i)] [] st2) : Jg l E (CFs E L xs) room_1 code 7 RL ret XT QQ k n 2149 [(0, .ref 1300), (1, .ref 0), (2, .ref 58), (3, .ref 106), (4, .int i)] [] st := by
  refine J_aload_n 1 dL_law_2149 rfl rfl ?_
  refine J_aload_n 0 dL_law_2150 rfl rfl ?_
  refine J_iload 4 dL_law_2151 rfl ?_
  refine J_iconst 1 dL_law_2153 (by decide) ?_
  refine J_iadd dL_law_2154 ?_
  refine J_sld s1 dL_law_2155 ?_
  refine J_aload_n 0 dL_law_2156 rfl rfl ?_
  refine J_iload 4 dL_law_2157 rfl ?_
  refine J_iconst 2 dL_law_2159 (by decide) ?_
  refine J_iadd dL_law_2160 ?_
  refine J_sld s2 dL_law_2161 ?_
  refine J_aload_n 0 dL_law_2162 rfl rfl ?_
  refine J_iload 4 dL_law_2163 rfl ?_
  refine J_iconst 3 dL_law_2165 (by decide) ?_
  refine J_iadd dL_law_2166 ?_
  refine J_sld s3 dL_law_2167 ?_
  refine J_aload_n 0 dL_law_2168 rfl rfl ?_
  refine J_iload 4 dL_law_2169 rfl ?_
  refine J_iconst 4 dL_law_2171 (by decide) ?_
  refine J_iadd dL_law_2172 ?_
  refine J_sld s4 dL_law_2173 ?_
  refine J_aload_n 3 dL_law_2174 rfl rfl ?_
  refine J_csH (As := [_, _, _, _, _, _]) mdh_L_game k_1610 rfl rfl ⟨Nat.le_of_ble_eq_true rfl, Nat.le_of_ble_eq_true rfl⟩ ⟨by show k + 5 ≤ 601024; omega, by show n + 30 ≤ 7293034; omega⟩ (Nat.le_of_ble_eq_true rfl) dL_law_2175 (CtH_mono CFs_c (CFc_ok E) (ct_L_game hl0 h)) (fun r1 st1 h => ?_)
  refine J_istore _ dL_law_2178 (by decide) rfl ?_
  refine J_aload_n 3 dL_law_2180 rfl rfl ?_
  refine J_aload_n 1 dL_law_2181 rfl rfl ?_
  refine J_iload 5 dL_law_2182 rfl ?_
  refine J_iconst 1 dL_law_2184 (by decide) ?_
  refine J_iadd dL_law_2185 ?_
  refine J_sld s1 dL_law_2186 ?_
  refine J_aload_n 1 dL_law_2187 rfl rfl ?_
  refine J_iload 5 dL_law_2188 rfl ?_
  refine J_iconst 2 dL_law_2190 (by decide) ?_
  refine J_iadd dL_law_2191 ?_
  refine J_sld s2 dL_law_2192 ?_
  refine J_aload_n 1 dL_law_2193 rfl rfl ?_
  refine J_iload 5 dL_law_2194 rfl ?_
  refine J_iconst 3 dL_law_2196 (by decide) ?_
  refine J_iadd dL_law_2197 ?_
  refine J_sld s3 dL_law_2198 ?_
  refine J_aload_n 1 dL_law_2199 rfl rfl ?_
  refine J_iload 5 dL_law_2200 rfl ?_
  refine J_iconst 4 dL_law_2202 (by decide) ?_
  refine J_iadd dL_law_2203 ?_
  refine J_sld s4 dL_law_2204 ?_
  refine J_cvi (As := [_, _, _, _]) md_X12_game k_1612 (rc_obj cl_12 tb_mo) rfl rfl ⟨Nat.le_of_ble_eq_true rfl, Nat.le_of_ble_eq_true rfl⟩ ⟨by show k + 5 + 0 ≤ 601024; omega, by show n + 30 + 0 ≤ 7293034; omega⟩ (Nat.le_of_ble_eq_true rfl) dL_law_2205 (CtI_mono CFs_c (CFc_ok E) (ct_X12_game h)) (fun r2 st2 h => ?_)
  refine J_istore _ dL_law_2208 (by decide) rfl ?_
  refine J_aload_n 4 dL_law_2210 rfl rfl ?_
  refine J_cvi (As := []) md_X12_thrown k_1441 (rc_obj cl_12 tb_mo) rfl rfl ⟨Nat.le_of_ble_eq_true rfl, Nat.le_of_ble_eq_true rfl⟩ ⟨by show k + 5 + 0 ≤ 601024; omega, by show n + 30 + 0 ≤ 7293034; omega⟩ (Nat.le_of_ble_eq_true rfl) dL_law_2211 (CtI_mono CFs_c (CFc_ok E) (ct_X12_thrown h)) (fun r3 st3 h => ?_)
  refine J_iload 1 dL_law_2214 rfl ?_
  obtain ⟨he, h⟩ := h
  refine J_icmp_eq 2221 dL_law_2216 (by decide) (fun _ => ?_) (fun hne => absurd he hne)
  refine J_iload 1 dL_law_2221 rfl ?_
  obtain ⟨he2, h⟩ := h
  refine J_if_ne 2238 dL_law_2223 (by decide) (fun _ => ?_) (fun hz0 => ?_)
  · refine J_goto 2345 dL_law_2238 (by decide) ?_; exact J_widen (by omega) (by omega) (J_lv [2, 3, 4, 5, 6] rfl (kk _ h))
  have he2 := he2 hz0
  refine J_aload_n 5 dL_law_2226 rfl rfl ?_
  refine J_iconst 0 dL_law_2227 (by decide) ?_
  refine J_lald dL_law_2228 vi_out ?_
  refine J_iload 0 dL_law_2229 rfl ?_
  refine J_i2l dL_law_2231 ?_
  refine J_lcmp dL_law_2232 ?_
  refine J_if_eq 2238 dL_law_2233 (by decide) (fun _ => ?_) (fun hne => absurd (lg_cmp0 he2) hne)
  refine J_goto 2345 dL_law_2238 (by decide) ?_
  exact J_widen (by omega) (by omega) (J_lv [2, 3, 4, 5, 6] rfl (kk _ h))
set_option maxRecDepth 100000 in
set_option maxHeartbeats 4000000 in
theorem cs_35 {l : Launch} {E : En} (hl0 : l.stackTraces = false) {L : Nat} {xs : Nat → Int32} {XT : Code → Prop} {QQ : List Frame → Array Value → State → Nat → State → Prop} {k n : Nat} {i a1 a2 a3 a4 a5 : Int32} (s1 : SL L xs (i + 1) a1) (s2 : SL L xs (i + 2) a2) (s3 : SL L xs (i + 3) a3) (s4 : SL L xs (i + 4) a4) (s5 : SL L xs (i + 5) a5) {st : St} {K : St → Prop} (hk : k + 5 ≤ 601024) (hn : n + 30 ≤ 7293034)
    (h : P_L_drawn a1 a2 a3 st (fun r1 st1 => P_X12_drawn 58 a1 a2 a3 st1 (fun r2 st2 => P_X12_thrown 58  st2 (fun r3 st3 => r3 = r1 ∧ (r1 = 0 → gL st3 106 0 = r2.toInt64) ∧ K st3)))) (kk : ∀ st2, K st2 → Jg l E (CFs E L xs) room_1 code 7 RL ret XT QQ (k + 5) (n + 30) 2345 [(0, .ref 1300), (1, .ref 0), (2, .ref 58), (3, .ref 106), (4, .int i)] [] st2) : Jg l E (CFs E L xs) room_1 code 7 RL ret XT QQ k n 2241 [(0, .ref 1300), (1, .ref 0), (2, .ref 58), (3, .ref 106), (4, .int i)] [] st := by
  refine J_aload_n 1 dL_law_2241 rfl rfl ?_
  refine J_aload_n 0 dL_law_2242 rfl rfl ?_
  refine J_iload 4 dL_law_2243 rfl ?_
  refine J_iconst 1 dL_law_2245 (by decide) ?_
  refine J_iadd dL_law_2246 ?_
  refine J_sld s1 dL_law_2247 ?_
  refine J_aload_n 0 dL_law_2248 rfl rfl ?_
  refine J_iload 4 dL_law_2249 rfl ?_
  refine J_iconst 2 dL_law_2251 (by decide) ?_
  refine J_iadd dL_law_2252 ?_
  refine J_sld s2 dL_law_2253 ?_
  refine J_aload_n 0 dL_law_2254 rfl rfl ?_
  refine J_iload 4 dL_law_2255 rfl ?_
  refine J_iconst 3 dL_law_2257 (by decide) ?_
  refine J_iadd dL_law_2258 ?_
  refine J_sld s3 dL_law_2259 ?_
  refine J_aload_n 3 dL_law_2260 rfl rfl ?_
  refine J_csH (As := [_, _, _, _, _]) mdh_L_drawn k_1615 rfl rfl ⟨Nat.le_of_ble_eq_true rfl, Nat.le_of_ble_eq_true rfl⟩ ⟨by show k + 2 ≤ 601024; omega, by show n + 12 ≤ 7293034; omega⟩ (Nat.le_of_ble_eq_true rfl) dL_law_2261 (CtH_mono CFs_c (CFc_ok E) (ct_L_drawn hl0 h)) (fun r1 st1 h => ?_)
  refine J_istore _ dL_law_2264 (by decide) rfl ?_
  refine J_aload_n 3 dL_law_2266 rfl rfl ?_
  refine J_aload_n 1 dL_law_2267 rfl rfl ?_
  refine J_iload 5 dL_law_2268 rfl ?_
  refine J_iconst 1 dL_law_2270 (by decide) ?_
  refine J_iadd dL_law_2271 ?_
  refine J_sld s1 dL_law_2272 ?_
  refine J_aload_n 1 dL_law_2273 rfl rfl ?_
  refine J_iload 5 dL_law_2274 rfl ?_
  refine J_iconst 2 dL_law_2276 (by decide) ?_
  refine J_iadd dL_law_2277 ?_
  refine J_sld s2 dL_law_2278 ?_
  refine J_aload_n 1 dL_law_2279 rfl rfl ?_
  refine J_iload 5 dL_law_2280 rfl ?_
  refine J_iconst 3 dL_law_2282 (by decide) ?_
  refine J_iadd dL_law_2283 ?_
  refine J_sld s3 dL_law_2284 ?_
  refine J_cvi (As := [_, _, _]) md_X12_drawn k_1617 (rc_obj cl_12 tb_mo) rfl rfl ⟨Nat.le_of_ble_eq_true rfl, Nat.le_of_ble_eq_true rfl⟩ ⟨by show k + 2 + 0 ≤ 601024; omega, by show n + 12 + 0 ≤ 7293034; omega⟩ (Nat.le_of_ble_eq_true rfl) dL_law_2285 (CtI_mono CFs_c (CFc_ok E) (ct_X12_drawn h)) (fun r2 st2 h => ?_)
  refine J_istore _ dL_law_2288 (by decide) rfl ?_
  refine J_aload_n 4 dL_law_2290 rfl rfl ?_
  refine J_cvi (As := []) md_X12_thrown k_1441 (rc_obj cl_12 tb_mo) rfl rfl ⟨Nat.le_of_ble_eq_true rfl, Nat.le_of_ble_eq_true rfl⟩ ⟨by show k + 2 + 0 ≤ 601024; omega, by show n + 12 + 0 ≤ 7293034; omega⟩ (Nat.le_of_ble_eq_true rfl) dL_law_2291 (CtI_mono CFs_c (CFc_ok E) (ct_X12_thrown h)) (fun r3 st3 h => ?_)
  refine J_iload 1 dL_law_2294 rfl ?_
  obtain ⟨he, h⟩ := h
  refine J_icmp_eq 2301 dL_law_2296 (by decide) (fun _ => ?_) (fun hne => absurd he hne)
  refine J_iload 1 dL_law_2301 rfl ?_
  obtain ⟨he2, h⟩ := h
  refine J_if_ne 2318 dL_law_2303 (by decide) (fun _ => ?_) (fun hz0 => ?_)
  · refine J_goto 2345 dL_law_2318 (by decide) ?_; exact J_widen (by omega) (by omega) (J_lv [2, 3, 4, 5, 6] rfl (kk _ h))
  have he2 := he2 hz0
  refine J_aload_n 5 dL_law_2306 rfl rfl ?_
  refine J_iconst 0 dL_law_2307 (by decide) ?_
  refine J_lald dL_law_2308 vi_out ?_
  refine J_iload 0 dL_law_2309 rfl ?_
  refine J_i2l dL_law_2311 ?_
  refine J_lcmp dL_law_2312 ?_
  refine J_if_eq 2318 dL_law_2313 (by decide) (fun _ => ?_) (fun hne => absurd (lg_cmp0 he2) hne)
  refine J_goto 2345 dL_law_2318 (by decide) ?_
  exact J_widen (by omega) (by omega) (J_lv [2, 3, 4, 5, 6] rfl (kk _ h))
set_option maxRecDepth 100000 in
set_option maxHeartbeats 4000000 in
theorem cs_36 {l : Launch} {E : En} (hl0 : l.stackTraces = false) {L : Nat} {xs : Nat → Int32} {XT : Code → Prop} {QQ : List Frame → Array Value → State → Nat → State → Prop} {k n : Nat} {i a1 a2 a3 a4 a5 : Int32} (s1 : SL L xs (i + 1) a1) (s2 : SL L xs (i + 2) a2) (s3 : SL L xs (i + 3) a3) (s4 : SL L xs (i + 4) a4) (s5 : SL L xs (i + 5) a5) {st : St} {K : St → Prop} (hk : k + 5 ≤ 601024) (hn : n + 30 ≤ 7293034)
    (h : P_X11_image 0  st (fun st1 => P_X12_image 58  st1 (fun st2 => K st2))) (kk : ∀ st2, K st2 → Jg l E (CFs E L xs) room_1 code 7 RL ret XT QQ (k + 5) (n + 30) 2345 [(0, .ref 1300), (1, .ref 0), (2, .ref 58), (3, .ref 106), (4, .int i)] [] st2) : Jg l E (CFs E L xs) room_1 code 7 RL ret XT QQ k n 2321 [(0, .ref 1300), (1, .ref 0), (2, .ref 58), (3, .ref 106), (4, .int i)] [] st := by
  refine J_aload_n 1 dL_law_2321 rfl rfl ?_
  refine J_cvv (As := []) md_X11_image k_1620 (rc_obj cl_11 tb_out) rfl rfl ⟨Nat.le_of_ble_eq_true rfl, Nat.le_of_ble_eq_true rfl⟩ ⟨by show k + 0 + 0 ≤ 601024; omega, by show n + 0 + 0 ≤ 7293034; omega⟩ (Nat.le_of_ble_eq_true rfl) dL_law_2322 (CtV_mono CFs_c (CFc_ok E) (ct_X11_image h)) (fun st1 h => ?_)
  refine J_aload_n 2 dL_law_2325 rfl rfl ?_
  refine J_cvv (As := []) md_X12_image k_1623 (rc_obj cl_12 tb_mo) rfl rfl ⟨Nat.le_of_ble_eq_true rfl, Nat.le_of_ble_eq_true rfl⟩ ⟨by show k + 0 + 0 ≤ 601024; omega, by show n + 0 + 0 ≤ 7293034; omega⟩ (Nat.le_of_ble_eq_true rfl) dL_law_2326 (CtV_mono CFs_c (CFc_ok E) (ct_X12_image h)) (fun st2 h => ?_)
  refine J_goto 2345 dL_law_2329 (by decide) ?_
  exact J_widen (by omega) (by omega) (J_lv [0, 1, 2, 3, 4] rfl (kk _ h))
set_option maxRecDepth 100000 in
set_option maxHeartbeats 4000000 in
theorem cs_37 {l : Launch} {E : En} (hl0 : l.stackTraces = false) {L : Nat} {xs : Nat → Int32} {XT : Code → Prop} {QQ : List Frame → Array Value → State → Nat → State → Prop} {k n : Nat} {i a1 a2 a3 a4 a5 : Int32} (s1 : SL L xs (i + 1) a1) (s2 : SL L xs (i + 2) a2) (s3 : SL L xs (i + 3) a3) (s4 : SL L xs (i + 4) a4) (s5 : SL L xs (i + 5) a5) {st : St} {K : St → Prop} (hk : k + 5 ≤ 601024) (hn : n + 30 ≤ 7293034)
    (h : P_X11_restore 0  st (fun r1 st1 => P_X12_restore 58  st1 (fun r2 st2 => r1 = r2 ∧ K st2))) (kk : ∀ st2, K st2 → Jg l E (CFs E L xs) room_1 code 7 RL ret XT QQ (k + 5) (n + 30) 2345 [(0, .ref 1300), (1, .ref 0), (2, .ref 58), (3, .ref 106), (4, .int i)] [] st2) : Jg l E (CFs E L xs) room_1 code 7 RL ret XT QQ k n 2332 [(0, .ref 1300), (1, .ref 0), (2, .ref 58), (3, .ref 106), (4, .int i)] [] st := by
  refine J_aload_n 1 dL_law_2332 rfl rfl ?_
  refine J_cvi (As := []) md_X11_restore k_1626 (rc_obj cl_11 tb_out) rfl rfl ⟨Nat.le_of_ble_eq_true rfl, Nat.le_of_ble_eq_true rfl⟩ ⟨by show k + 0 + 0 ≤ 601024; omega, by show n + 0 + 0 ≤ 7293034; omega⟩ (Nat.le_of_ble_eq_true rfl) dL_law_2333 (CtI_mono CFs_c (CFc_ok E) (ct_X11_restore h)) (fun r1 st1 h => ?_)
  refine J_aload_n 2 dL_law_2336 rfl rfl ?_
  refine J_cvi (As := []) md_X12_restore k_1629 (rc_obj cl_12 tb_mo) rfl rfl ⟨Nat.le_of_ble_eq_true rfl, Nat.le_of_ble_eq_true rfl⟩ ⟨by show k + 0 + 0 ≤ 601024; omega, by show n + 0 + 0 ≤ 7293034; omega⟩ (Nat.le_of_ble_eq_true rfl) dL_law_2337 (CtI_mono CFs_c (CFc_ok E) (ct_X12_restore h)) (fun r2 st2 h => ?_)
  obtain ⟨he, h⟩ := h
  refine J_icmp_eq 2345 dL_law_2340 (by decide) (fun _ => ?_) (fun hne => absurd he hne)
  exact J_widen (by omega) (by omega) (J_lv [0, 1, 2, 3, 4] rfl (kk _ h))
theorem sl_of {L i j : Nat} {xs : Nat → Int32} (hL : L ≤ 3072) (h : i + j < L) : SL L xs (Int32.ofNat i + Int32.ofNat j) (xs (i + j)) := by
  have e : Int32.ofNat i + Int32.ofNat j = Int32.ofNat (i + j) := (Int32.ofNat_add i j).symm
  have e2 : (Int32.ofNat (i + j)).toInt = (i + j : Nat) := Int32.toInt_ofNat_of_lt (by omega)
  have e3 : (Int32.ofNat (i + j)).toNatClampNeg = i + j := by
    show (Int32.ofNat (i + j)).toInt.toNat = i + j
    rw [e2]; omega
  rw [e]
  refine ⟨?_, by rw [e3]⟩
  unfold vp_in
  rw [e3]
  rintro (h1 | h1)
  · rw [Int32.lt_iff_toInt_lt, e2] at h1
    have : (0 : Int32).toInt = 0 := by decide
    omega
  · omega
theorem law_sub {L : Nat} (hL : L ≤ 3072) : (Int32.ofNat L - 6).toInt = (L : Int) - 6 := by
  rw [Int32.toInt_sub, Int32.toInt_ofNat_of_lt (by omega), show (6 : Int32).toInt = 6 by decide]
  rw [Int.bmod_def]
  omega
set_option maxRecDepth 100000 in
set_option maxHeartbeats 4000000 in
theorem law_loop {l : Launch} {E : En} (hl0 : l.stackTraces = false) {B : Nat} (hB : ∀ i, i < NN → B ≤ eA E i) {L : Nat} {xs : Nat → Int32} (hL : L ≤ 3072) {XT : Code → Prop} {Inv : St → Prop} (hstep : ∀ st, Inv st → ∀ c a1 a2 a3 a4 a5, CaseP c a1 a2 a3 a4 a5 st Inv) :
    ∀ (r i k n : Nat) (st : St), Inv st → L < i + 6 * r + 6 → i ≤ 3072 → k + 5 * r ≤ 601024 → n + 30 * r ≤ 7293034 → Jg l E (CFs E L xs) room_1 code 7 RL ret XT (QL B) k n 23 [(0, .ref 1300), (1, .ref 0), (2, .ref 58), (3, .ref 106), (4, .int (Int32.ofNat i))] [] st := by
  intro r
  induction r with
  | zero =>
    intro i k n st hI hr hi hk hn
    refine J_iload 4 dL_law_23 rfl ?_
    refine J_aload_n 0 dL_law_25 rfl rfl ?_
    refine J_slen dL_law_26 ?_
    refine J_bipush 6 dL_law_27 (by decide) ?_
    refine J_isub dL_law_29 ?_
    refine J_icmp_gt 2351 dL_law_30 (by decide) (fun _ => ?_) (fun h => absurd ?_ h)
    · refine J_iconst 1 dL_law_2351 (by decide) ?_
      exact J_lret hB (by omega) (by omega) dL_law_2352
    · rw [Int32.lt_iff_toInt_lt, law_sub hL, Int32.toInt_ofNat_of_lt (by omega)]
      omega
  | succ r ih =>
    intro i k n st hI hr hi hk hn
    refine J_iload 4 dL_law_23 rfl ?_
    refine J_aload_n 0 dL_law_25 rfl rfl ?_
    refine J_slen dL_law_26 ?_
    refine J_bipush 6 dL_law_27 (by decide) ?_
    refine J_isub dL_law_29 ?_
    refine J_icmp_gt 2351 dL_law_30 (by decide) (fun _ => ?_) (fun h => ?_)
    · refine J_iconst 1 dL_law_2351 (by decide) ?_
      exact J_lret hB (by omega) (by omega) dL_law_2352
    have hi6 : i + 6 ≤ L := by
      rw [Int32.lt_iff_toInt_lt, law_sub hL, Int32.toInt_ofNat_of_lt (by omega)] at h
      omega
    refine J_aload_n 0 dL_law_33 rfl rfl ?_
    refine J_iload 4 dL_law_34 rfl ?_
    refine J_sld (v := xs i) (by have := sl_of (xs := xs) (i := i) (j := 0) hL (by omega); simpa using this) dL_law_36 ?_
    refine J_bipush 63 dL_law_37 (by decide) ?_
    refine J_iand dL_law_39 ?_
    have h := hstep st hI (xs i &&& 63).toInt (xs (i + 1)) (xs (i + 2)) (xs (i + 3)) (xs (i + 4)) (xs (i + 5))
    have s1 : SL L xs (Int32.ofNat i + 1) (xs (i + 1)) := sl_of (i := i) (j := 1) hL (by omega)
    have s2 : SL L xs (Int32.ofNat i + 2) (xs (i + 2)) := sl_of (i := i) (j := 2) hL (by omega)
    have s3 : SL L xs (Int32.ofNat i + 3) (xs (i + 3)) := sl_of (i := i) (j := 3) hL (by omega)
    have s4 : SL L xs (Int32.ofNat i + 4) (xs (i + 4)) := sl_of (i := i) (j := 4) hL (by omega)
    have s5 : SL L xs (Int32.ofNat i + 5) (xs (i + 5)) := sl_of (i := i) (j := 5) hL (by omega)
    have kk : ∀ st2, Inv st2 → Jg l E (CFs E L xs) room_1 code 7 RL ret XT (QL B) (k + 5) (n + 30) 2345 [(0, .ref 1300), (1, .ref 0), (2, .ref 58), (3, .ref 106), (4, .int (Int32.ofNat i))] [] st2 := by
      intro st2 hI2
      refine J_iinc 4 (Int32.ofNat (i + 6)) _ dL_law_2345 rfl (by rw [Int32.ofNat_add]; rfl) (by decide) rfl ?_
      refine J_goto 23 dL_law_2348 (by decide) ?_
      exact J_lv [1, 2, 3, 4, 0] rfl (ih (i + 6) (k + 5) (n + 30) st2 hI2 (by omega) (by omega) (by omega) (by omega))
    have hk5 : k + 5 ≤ 601024 := by omega
    have hn5 : n + 30 ≤ 7293034 := by omega
    unfold CaseP at h
    generalize hc : (xs i &&& 63).toInt = cz at h
    rcases (show cz < 0 ∨ cz = 0 ∨ cz = 1 ∨ cz = 2 ∨ cz = 3 ∨ cz = 4 ∨ cz = 5 ∨ cz = 6 ∨ cz = 7 ∨ cz = 8 ∨ cz = 9 ∨ cz = 10 ∨ cz = 11 ∨ cz = 12 ∨ cz = 13 ∨ cz = 14 ∨ cz = 15 ∨ cz = 16 ∨ cz = 17 ∨ cz = 18 ∨ cz = 19 ∨ cz = 20 ∨ cz = 21 ∨ cz = 22 ∨ cz = 23 ∨ cz = 24 ∨ cz = 25 ∨ cz = 26 ∨ cz = 27 ∨ cz = 28 ∨ cz = 29 ∨ cz = 30 ∨ cz = 31 ∨ cz = 32 ∨ cz = 33 ∨ cz = 34 ∨ cz = 35 ∨ cz = 36 ∨ cz = 37 ∨ 37 < cz by omega) with hz | rfl | rfl | rfl | rfl | rfl | rfl | rfl | rfl | rfl | rfl | rfl | rfl | rfl | rfl | rfl | rfl | rfl | rfl | rfl | rfl | rfl | rfl | rfl | rfl | rfl | rfl | rfl | rfl | rfl | rfl | rfl | rfl | rfl | rfl | rfl | rfl | rfl | rfl | hz
    · exact J_tsOut 2345 dL_law_40 (Or.inl (by rw [hc]; exact hz)) (by decide) (J_widen (by omega) (by omega) (kk _ (h.2.2.2.2.2.2.2.2.2.2.2.2.2.2.2.2.2.2.2.2.2.2.2.2.2.2.2.2.2.2.2.2.2.2.2.2.2.2 (Or.inl hz))))
    · exact J_tsIn 208 0 dL_law_40 hc (by decide) (by decide) rfl (by decide) (cs_0 hl0 s1 s2 s3 s4 s5 hk5 hn5 (h.1 rfl) kk)
    · exact J_tsIn 281 1 dL_law_40 hc (by decide) (by decide) rfl (by decide) (cs_1 hl0 s1 s2 s3 s4 s5 hk5 hn5 (h.2.1 rfl) kk)
    · exact J_tsIn 337 2 dL_law_40 hc (by decide) (by decide) rfl (by decide) (cs_2 hl0 s1 s2 s3 s4 s5 hk5 hn5 (h.2.2.1 rfl) kk)
    · exact J_tsIn 350 3 dL_law_40 hc (by decide) (by decide) rfl (by decide) (cs_3 hl0 s1 s2 s3 s4 s5 hk5 hn5 (h.2.2.2.1 rfl) kk)
    · exact J_tsIn 406 4 dL_law_40 hc (by decide) (by decide) rfl (by decide) (cs_4 hl0 s1 s2 s3 s4 s5 hk5 hn5 (h.2.2.2.2.1 rfl) kk)
    · exact J_tsIn 474 5 dL_law_40 hc (by decide) (by decide) rfl (by decide) (cs_5 hl0 s1 s2 s3 s4 s5 hk5 hn5 (h.2.2.2.2.2.1 rfl) kk)
    · exact J_tsIn 542 6 dL_law_40 hc (by decide) (by decide) rfl (by decide) (cs_6 hl0 s1 s2 s3 s4 s5 hk5 hn5 (h.2.2.2.2.2.2.1 rfl) kk)
    · exact J_tsIn 610 7 dL_law_40 hc (by decide) (by decide) rfl (by decide) (cs_7 hl0 s1 s2 s3 s4 s5 hk5 hn5 (h.2.2.2.2.2.2.2.1 rfl) kk)
    · exact J_tsIn 678 8 dL_law_40 hc (by decide) (by decide) rfl (by decide) (cs_8 hl0 s1 s2 s3 s4 s5 hk5 hn5 (h.2.2.2.2.2.2.2.2.1 rfl) kk)
    · exact J_tsIn 703 9 dL_law_40 hc (by decide) (by decide) rfl (by decide) (cs_9 hl0 s1 s2 s3 s4 s5 hk5 hn5 (h.2.2.2.2.2.2.2.2.2.1 rfl) kk)
    · exact J_tsIn 771 10 dL_law_40 hc (by decide) (by decide) rfl (by decide) (cs_10 hl0 s1 s2 s3 s4 s5 hk5 hn5 (h.2.2.2.2.2.2.2.2.2.2.1 rfl) kk)
    · exact J_tsIn 839 11 dL_law_40 hc (by decide) (by decide) rfl (by decide) (cs_11 hl0 s1 s2 s3 s4 s5 hk5 hn5 (h.2.2.2.2.2.2.2.2.2.2.2.1 rfl) kk)
    · exact J_tsIn 907 12 dL_law_40 hc (by decide) (by decide) rfl (by decide) (cs_12 hl0 s1 s2 s3 s4 s5 hk5 hn5 (h.2.2.2.2.2.2.2.2.2.2.2.2.1 rfl) kk)
    · exact J_tsIn 987 13 dL_law_40 hc (by decide) (by decide) rfl (by decide) (cs_13 hl0 s1 s2 s3 s4 s5 hk5 hn5 (h.2.2.2.2.2.2.2.2.2.2.2.2.2.1 rfl) kk)
    · exact J_tsIn 1000 14 dL_law_40 hc (by decide) (by decide) rfl (by decide) (cs_14 hl0 s1 s2 s3 s4 s5 hk5 hn5 (h.2.2.2.2.2.2.2.2.2.2.2.2.2.2.1 rfl) kk)
    · exact J_tsIn 1056 15 dL_law_40 hc (by decide) (by decide) rfl (by decide) (cs_15 hl0 s1 s2 s3 s4 s5 hk5 hn5 (h.2.2.2.2.2.2.2.2.2.2.2.2.2.2.2.1 rfl) kk)
    · exact J_tsIn 1124 16 dL_law_40 hc (by decide) (by decide) rfl (by decide) (cs_16 hl0 s1 s2 s3 s4 s5 hk5 hn5 (h.2.2.2.2.2.2.2.2.2.2.2.2.2.2.2.2.1 rfl) kk)
    · exact J_tsIn 1192 17 dL_law_40 hc (by decide) (by decide) rfl (by decide) (cs_17 hl0 s1 s2 s3 s4 s5 hk5 hn5 (h.2.2.2.2.2.2.2.2.2.2.2.2.2.2.2.2.2.1 rfl) kk)
    · exact J_tsIn 1205 18 dL_law_40 hc (by decide) (by decide) rfl (by decide) (cs_18 hl0 s1 s2 s3 s4 s5 hk5 hn5 (h.2.2.2.2.2.2.2.2.2.2.2.2.2.2.2.2.2.2.1 rfl) kk)
    · exact J_tsIn 1273 19 dL_law_40 hc (by decide) (by decide) rfl (by decide) (cs_19 hl0 s1 s2 s3 s4 s5 hk5 hn5 (h.2.2.2.2.2.2.2.2.2.2.2.2.2.2.2.2.2.2.2.1 rfl) kk)
    · exact J_tsIn 1341 20 dL_law_40 hc (by decide) (by decide) rfl (by decide) (cs_20 hl0 s1 s2 s3 s4 s5 hk5 hn5 (h.2.2.2.2.2.2.2.2.2.2.2.2.2.2.2.2.2.2.2.2.1 rfl) kk)
    · exact J_tsIn 1397 21 dL_law_40 hc (by decide) (by decide) rfl (by decide) (cs_21 hl0 s1 s2 s3 s4 s5 hk5 hn5 (h.2.2.2.2.2.2.2.2.2.2.2.2.2.2.2.2.2.2.2.2.2.1 rfl) kk)
    · exact J_tsIn 1465 22 dL_law_40 hc (by decide) (by decide) rfl (by decide) (cs_22 hl0 s1 s2 s3 s4 s5 hk5 hn5 (h.2.2.2.2.2.2.2.2.2.2.2.2.2.2.2.2.2.2.2.2.2.2.1 rfl) kk)
    · exact J_tsIn 1521 23 dL_law_40 hc (by decide) (by decide) rfl (by decide) (cs_23 hl0 s1 s2 s3 s4 s5 hk5 hn5 (h.2.2.2.2.2.2.2.2.2.2.2.2.2.2.2.2.2.2.2.2.2.2.2.1 rfl) kk)
    · exact J_tsIn 1534 24 dL_law_40 hc (by decide) (by decide) rfl (by decide) (cs_24 hl0 s1 s2 s3 s4 s5 hk5 hn5 (h.2.2.2.2.2.2.2.2.2.2.2.2.2.2.2.2.2.2.2.2.2.2.2.2.1 rfl) kk)
    · exact J_tsIn 1590 25 dL_law_40 hc (by decide) (by decide) rfl (by decide) (cs_25 hl0 s1 s2 s3 s4 s5 hk5 hn5 (h.2.2.2.2.2.2.2.2.2.2.2.2.2.2.2.2.2.2.2.2.2.2.2.2.2.1 rfl) kk)
    · exact J_tsIn 1658 26 dL_law_40 hc (by decide) (by decide) rfl (by decide) (cs_26 hl0 s1 s2 s3 s4 s5 hk5 hn5 (h.2.2.2.2.2.2.2.2.2.2.2.2.2.2.2.2.2.2.2.2.2.2.2.2.2.2.1 rfl) kk)
    · exact J_tsIn 1726 27 dL_law_40 hc (by decide) (by decide) rfl (by decide) (cs_27 hl0 s1 s2 s3 s4 s5 hk5 hn5 (h.2.2.2.2.2.2.2.2.2.2.2.2.2.2.2.2.2.2.2.2.2.2.2.2.2.2.2.1 rfl) kk)
    · exact J_tsIn 1782 28 dL_law_40 hc (by decide) (by decide) rfl (by decide) (cs_28 hl0 s1 s2 s3 s4 s5 hk5 hn5 (h.2.2.2.2.2.2.2.2.2.2.2.2.2.2.2.2.2.2.2.2.2.2.2.2.2.2.2.2.1 rfl) kk)
    · exact J_tsIn 1838 29 dL_law_40 hc (by decide) (by decide) rfl (by decide) (cs_29 hl0 s1 s2 s3 s4 s5 hk5 hn5 (h.2.2.2.2.2.2.2.2.2.2.2.2.2.2.2.2.2.2.2.2.2.2.2.2.2.2.2.2.2.1 rfl) kk)
    · exact J_tsIn 1906 30 dL_law_40 hc (by decide) (by decide) rfl (by decide) (cs_30 hl0 s1 s2 s3 s4 s5 hk5 hn5 (h.2.2.2.2.2.2.2.2.2.2.2.2.2.2.2.2.2.2.2.2.2.2.2.2.2.2.2.2.2.2.1 rfl) kk)
    · exact J_tsIn 2026 31 dL_law_40 hc (by decide) (by decide) rfl (by decide) (cs_31 hl0 s1 s2 s3 s4 s5 hk5 hn5 (h.2.2.2.2.2.2.2.2.2.2.2.2.2.2.2.2.2.2.2.2.2.2.2.2.2.2.2.2.2.2.2.1 rfl) kk)
    · exact J_tsIn 2082 32 dL_law_40 hc (by decide) (by decide) rfl (by decide) (cs_32 hl0 s1 s2 s3 s4 s5 hk5 hn5 (h.2.2.2.2.2.2.2.2.2.2.2.2.2.2.2.2.2.2.2.2.2.2.2.2.2.2.2.2.2.2.2.2.1 rfl) kk)
    · exact J_tsIn 2138 33 dL_law_40 hc (by decide) (by decide) rfl (by decide) (cs_33 hl0 s1 s2 s3 s4 s5 hk5 hn5 (h.2.2.2.2.2.2.2.2.2.2.2.2.2.2.2.2.2.2.2.2.2.2.2.2.2.2.2.2.2.2.2.2.2.1 rfl) kk)
    · exact J_tsIn 2149 34 dL_law_40 hc (by decide) (by decide) rfl (by decide) (cs_34 hl0 s1 s2 s3 s4 s5 hk5 hn5 (h.2.2.2.2.2.2.2.2.2.2.2.2.2.2.2.2.2.2.2.2.2.2.2.2.2.2.2.2.2.2.2.2.2.2.1 rfl) kk)
    · exact J_tsIn 2241 35 dL_law_40 hc (by decide) (by decide) rfl (by decide) (cs_35 hl0 s1 s2 s3 s4 s5 hk5 hn5 (h.2.2.2.2.2.2.2.2.2.2.2.2.2.2.2.2.2.2.2.2.2.2.2.2.2.2.2.2.2.2.2.2.2.2.2.1 rfl) kk)
    · exact J_tsIn 2321 36 dL_law_40 hc (by decide) (by decide) rfl (by decide) (cs_36 hl0 s1 s2 s3 s4 s5 hk5 hn5 (h.2.2.2.2.2.2.2.2.2.2.2.2.2.2.2.2.2.2.2.2.2.2.2.2.2.2.2.2.2.2.2.2.2.2.2.2.1 rfl) kk)
    · exact J_tsIn 2332 37 dL_law_40 hc (by decide) (by decide) rfl (by decide) (cs_37 hl0 s1 s2 s3 s4 s5 hk5 hn5 (h.2.2.2.2.2.2.2.2.2.2.2.2.2.2.2.2.2.2.2.2.2.2.2.2.2.2.2.2.2.2.2.2.2.2.2.2.2.1 rfl) kk)
    · exact J_tsOut 2345 dL_law_40 (Or.inr (by rw [hc]; exact hz)) (by decide) (J_widen (by omega) (by omega) (kk _ (h.2.2.2.2.2.2.2.2.2.2.2.2.2.2.2.2.2.2.2.2.2.2.2.2.2.2.2.2.2.2.2.2.2.2.2.2.2.2 (Or.inr hz))))
