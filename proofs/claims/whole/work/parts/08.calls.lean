/-! contracts over the abstract state, and calls -/
def Ba (E : En) (st : St) (t : State) : Prop := va_P E.1 vwCl (wl E st) t.heap
def Bg (E : En) (CF : CFt) (sz : Nat) (st : St) (U : State) : Prop := U.heap.size = sz ∧ va_P E.1 vwCl (wl E st) U.heap ∧ va_K E.1 vwCl (tyE E) U ∧ adOK E ∧ CF (AA E sz) U U.heap ∧ CFok CF
def QI (E : En) (post : Int32 → St → Prop) (k n : Nat) : List Frame → Array Value → State → Nat → State → Prop := fun below args s sz => MQ below (va_Qi post (Ba E) (AA E sz)) args s k n (AA E sz)
def QV (E : En) (post : St → Prop) (k n : Nat) : List Frame → Array Value → State → Nat → State → Prop := fun below args s sz => MQ below (va_Qv post (Ba E) (AA E sz)) args s k n (AA E sz)
def pQ (E : En) (post : Option Nat → St → Prop) (r : Option Nat) (st : St) : Prop := ∃ i : Option Nat, r = i.map (eA E) ∧ post i st
def QR (E : En) (post : Option Nat → St → Prop) (k n : Nat) : List Frame → Array Value → State → Nat → State → Prop := fun below args s sz => MQ below (va_Qq (pQ E post) (Ba E) (AA E sz)) args s k n (AA E sz)
def CtI (l : Launch) (E : En) (CF : CFt) (L mc ms : Nat) (y : MethodName) (cc : ByteArray) (nL : Nat) (ret : Option FieldType) (av : List Value) (st : St) (post : Int32 → St → Prop) : Prop := ∀ sz : Nat, Met l y (Cond.code y cc nL ret :: WL) (Rm L mc ms) (va_Pc (av.map (cv E)) (Bg E CF sz st)) (va_Qi post (Ba E) (AA E sz)) mc ms (AA E sz)
def CtV (l : Launch) (E : En) (CF : CFt) (L mc ms : Nat) (y : MethodName) (cc : ByteArray) (nL : Nat) (ret : Option FieldType) (av : List Value) (st : St) (post : St → Prop) : Prop := ∀ sz : Nat, Met l y (Cond.code y cc nL ret :: WL) (Rm L mc ms) (va_Pc (av.map (cv E)) (Bg E CF sz st)) (va_Qv post (Ba E) (AA E sz)) mc ms (AA E sz)
def CtR (l : Launch) (E : En) (CF : CFt) (L mc ms : Nat) (y : MethodName) (cc : ByteArray) (nL : Nat) (ret : Option FieldType) (av : List Value) (st : St) (post : Option Nat → St → Prop) : Prop := ∀ sz : Nat, Met l y (Cond.code y cc nL ret :: WL) (Rm L mc ms) (va_Pc (av.map (cv E)) (Bg E CF sz st)) (va_Qq (pQ E post) (Ba E) (AA E sz)) mc ms (AA E sz)
theorem lg_sl_cv (E : En) (av : List Value) : (lg_sl (av.map (cv E))).length = (lg_sl av).length := by
  induction av with
  | nil => rfl
  | cons v vs ih =>
    simp only [lg_sl, List.map_cons, List.flatMap_cons, List.length_append] at ih ⊢
    rw [ih]
    congr 1
    by_cases h : v.category = 2
    · rw [if_pos h, if_pos (by rw [cv_cat]; exact h)]; rfl
    · rw [if_neg h, if_neg (by rw [cv_cat]; exact h)]; rfl
theorem lv_args_cv (E : En) : ∀ (av : List Value) (i : Nat), lv_args i (av.map (cv E)) = lvc E (lv_args i av)
  | [], i => rfl
  | v :: vs, i => by
    simp only [List.map_cons, lv_args, lvc, cv_cat]
    rw [lv_args_cv E vs]
    rfl
theorem body_of {l : Launch} {E : En} {CF : CFt} {y : MethodName} {cc : ByteArray} {nL L mc ms : Nat} {ret : Option FieldType} {av : List Value} {st : St} {QQ : List Frame → Array Value → State → Nat → State → Prop} {sz : Nat}
    (hlen : (lg_sl av).length ≤ nL) (h : Jg l E CF (Rm L mc ms) cc nL y.cls ret (fun _ => True) QQ 0 0 0 (lv_args 0 av) [] st) :
    ∀ p e s m args below meth c s₁, BodyLoose p l y (headSpec (Cond.code y cc nL ret :: WL) (Rm L mc ms)) cc nL ret e s m args below meth c s₁ → c.maxLocals = nL → va_Pc (av.map (cv E)) (Bg E CF sz st) args s →
      W p l e (headSpec (Cond.code y cc nL ret :: WL) (Rm L mc ms)).room s m args below meth c s.heap [] 0 0 (QQ below args s sz) (entryFrame m args nL) := by
  intro p e s m args below meth c s₁ B hml hv
  obtain ⟨rfl, hsz, hP, hK, had, hCF, hok⟩ := hv
  rw [lg_entry_eq]
  have hl := lv_entry (av.map (cv E)) (n := nL) (by rw [lg_sl_cv]; exact hlen)
  rw [lv_args_cv] at hl
  exact h p e s m _ below meth c sz s.heap [] _ ⟨B.exec, B.bytes, B.returns, hml, findClass_of_methodNamed B.named, fun w hw => atoms_spec (ws := Cond.code y cc nL ret :: WL) B.pre w (List.mem_cons_of_mem _ hw), B.notSynchronized, hK, hsz, had, hCF, hok, trivial⟩ hP va_S.rf hl
theorem ctI_of {l : Launch} {E : En} {CF : CFt} {y : MethodName} {cc : ByteArray} {nL L mc ms : Nat} {ret : Option FieldType} {av : List Value} {st : St} {post : Int32 → St → Prop} (hy : plainName y.cls = true) (hlen : (lg_sl av).length ≤ nL)
    (h : Jg l E CF (Rm L mc ms) cc nL y.cls ret (fun _ => True) (QI E post mc ms) 0 0 0 (lv_args 0 av) [] st) : CtI l E CF L mc ms y cc nL ret av st post := fun sz => Met.ofW hy rfl (body_of (sz := sz) hlen h)
theorem ctV_of {l : Launch} {E : En} {CF : CFt} {y : MethodName} {cc : ByteArray} {nL L mc ms : Nat} {ret : Option FieldType} {av : List Value} {st : St} {post : St → Prop} (hy : plainName y.cls = true) (hlen : (lg_sl av).length ≤ nL)
    (h : Jg l E CF (Rm L mc ms) cc nL y.cls ret (fun _ => True) (QV E post mc ms) 0 0 0 (lv_args 0 av) [] st) : CtV l E CF L mc ms y cc nL ret av st post := fun sz => Met.ofW hy rfl (body_of (sz := sz) hlen h)
theorem ctR_of {l : Launch} {E : En} {CF : CFt} {y : MethodName} {cc : ByteArray} {nL L mc ms : Nat} {ret : Option FieldType} {av : List Value} {st : St} {post : Option Nat → St → Prop} (hy : plainName y.cls = true) (hlen : (lg_sl av).length ≤ nL)
    (h : Jg l E CF (Rm L mc ms) cc nL y.cls ret (fun _ => True) (QR E post mc ms) 0 0 0 (lv_args 0 av) [] st) : CtR l E CF L mc ms y cc nL ret av st post := fun sz => Met.ofW hy rfl (body_of (sz := sz) hlen h)
/-- what is known of a method that is called: by an object, or as a static one -/
def MDv (y : MethodName) (cc : ByteArray) (nL : Nat) (ret : Option FieldType) (n : Nat) : Prop := Cond.code y cc nL ret ∈ WL ∧ Cond.instanceMethod y ∈ WL ∧ Cond.selects y.cls y y ∈ WL ∧ Cond.initialized y.cls ∈ WL ∧ y.cls ≠ "java/lang/invoke/MethodHandle" ∧ y.cls ≠ "java/lang/invoke/VarHandle" ∧ (parseMethodDescriptor y.desc).map (fun d => d.parameters.length) = some n
def MDs (y : MethodName) (cc : ByteArray) (nL : Nat) (ret : Option FieldType) (n : Nat) : Prop := Cond.code y cc nL ret ∈ WL ∧ Cond.static y ∈ WL ∧ Cond.initialized y.cls ∈ WL ∧ y.cls ≠ "java/lang/invoke/MethodHandle" ∧ y.cls ≠ "java/lang/invoke/VarHandle" ∧ (parseMethodDescriptor y.desc).map (fun d => d.parameters.length) = some n
theorem good_code {y : MethodName} {cc : ByteArray} {nL : Nat} {ret : Option FieldType} (h : Cond.code y cc nL ret ∈ WL) : GoodIn WL (Cond.code y cc nL ret :: WL) := fun w hw => by
  have h1 : w ∈ WL := (List.mem_cons.mp hw).elim (fun e => by rw [e]; exact h) id
  exact ⟨h1, good_of_word (wl_good w h1)⟩
theorem AA_sub {E : En} {sz : Nat} {s : State} {H : Heap} {locs : List Loc} (hsz : s.heap.size = sz) (hS : va_S (AA E sz) s.heap H locs) : ∀ q, AA E H.size q → AA E sz q := fun q h => h.elim Or.inl (fun h => Or.inr (Nat.le_trans (by rw [← hsz]; exact hS.1) h))
theorem Bg_pass {E : En} {CF : CFt} {cc : ByteArray} {nL : Nat} {own : String} {ret : Option FieldType} {XT : Code → Prop} {p : Program} {s : State} {m : MethodId} {args : Array Value} {meth : Method} {c : Code} {sz : Nat} {H : Heap} {locs : List Loc} {st : St} (C : Cx E CF cc nL own ret XT p s m args meth c sz) (hP : va_P E.1 vwCl (wl E st) H) (hS : va_S (AA E sz) s.heap H locs) {U : State} (hU : U.heap = H) (hW : s.WarmedH U.vm) : Bg E CF H.size st U := by
  obtain ⟨_, _, _, _, _, _, _, hK, hsz, had, hCF, hok, _⟩ := C
  refine ⟨by rw [hU], by rw [hU]; exact hP, va_K.moved hW.alike hK, had, ?_, hok⟩
  rw [hU]
  exact hok.2.2.2 _ _ _ _ (AA_sub hsz hS) (hok.2.1 _ _ _ _ hW (hok.2.2.1 _ _ _ _ (fun a h1 h2 => hS.2.1 a h1 h2) hCF))
theorem Bg_blind {E : En} {CF : CFt} {sz : Nat} {st : St} {av : List Value} : FrameBlind (va_Pc av (Bg E CF sz st)) := fun a U g mk h => by
  obtain ⟨h0, h1, h2, h3, h4, h5, h6⟩ := h
  exact ⟨h0, h1, h2, va_K.moved (u := U) (U := U.calling g mk a) (Vm.Alike.refl U.vm) h3, h4, h6.1 _ U (U.calling g mk a) _ rfl h5, h6⟩
/-- an object that is called: its cell, of the class Cn -/
def Rc (E : En) (CF : CFt) (o : Nat) (Cn : String) : Prop := ∀ (s : State) (H : Heap) (sz : Nat) (locs : List Loc) (st : St), va_K E.1 vwCl (tyE E) s → CF (AA E sz) s s.heap → va_P E.1 vwCl (wl E st) H → va_S (AA E sz) s.heap H locs → ∃ cell : Cell, H[eA E o]? = some cell ∧ cell.vm.isStatics = false ∧ s.vm.findClass Cn = some cell.cls
def oC (o c : Nat) : Prop := ∃ fl, tbe o = (4, c, fl)
theorem rc_obj {E : En} {CF : CFt} {o ci N : Nat} {T : u_T} {Cn : String} (hcl : vwCl[ci]? = some (Cn, T, N)) (ho : oC o ci) : Rc E CF o Cn := by
  intro s H sz locs st hK _ hP _
  obtain ⟨fl, ho⟩ := ho
  exact va_recv hK hP hcl (by rw [wl_get E st (tbe_lt ho (by decide)), cel_obj ho])
section JC
variable {l : Launch} {E : En} {CF : CFt} {R : Room} {cc : ByteArray} {nL : Nat} {own : String} {ret : Option FieldType} {XT : Code → Prop} {QQ : List Frame → Array Value → State → Nat → State → Prop} {k n pc : Nat} {lv : List (Nat × Value)} {stk rest : List Value} {st : St}
variable {y : MethodName} {cc' : ByteArray} {nL' : Nat} {ret' : Option FieldType} {n' ix L mc ms : Nat} {As : List Value}
theorem cw_v {s : State} {args : Array Value} (hts : ∀ w ∈ WL, w.before args s = true) (hM : MDv y cc' nL' ret' n') (hl : Cond.methodLink own ix y ∈ WL) (hR : L + 1 ≤ R.frames ∧ 8 + (nL' + 11) + 64 * L ≤ R.locals) : CallW R s args own y.cls ix y cc' nL' ret' (Cond.code y cc' nL' ret' :: WL) (Rm L mc ms) mc ms n' := by
  obtain ⟨h1, h2, h3, h4, h5, h6, h7⟩ := hM
  exact ⟨callB_of n' hts (good_code h1) rfl rfl rfl (hts _ h4) (hts _ hl) ⟨h5, h6, h7⟩ hR, hts _ h2, hts _ h3⟩
theorem cw_s {s : State} {args : Array Value} (hts : ∀ w ∈ WL, w.before args s = true) (hM : MDs y cc' nL' ret' n') (hl : Cond.methodLink own ix y ∈ WL) (hR : L + 1 ≤ R.frames ∧ 8 + (nL' + 11) + 64 * L ≤ R.locals) : CallB R s args own ix y cc' nL' ret' (Cond.code y cc' nL' ret' :: WL) (Rm L mc ms) mc ms n' ∧ (Cond.static y).before args s = true := by
  obtain ⟨h1, h2, h4, h5, h6, h7⟩ := hM
  exact ⟨callB_of n' hts (good_code h1) rfl rfl rfl (hts _ h4) (hts _ hl) ⟨h5, h6, h7⟩ hR, hts _ h2⟩
theorem J_cvi {o : Nat} {post : Int32 → St → Prop} (hM : MDv y cc' nL' ret' n') (hlk : Cond.methodLink own ix y ∈ WL) (hrec : Rc E CF o y.cls) (hn : As.length = n') (hstk : stk = As.reverse ++ .ref o :: rest) (hR : L + 1 ≤ R.frames ∧ 8 + (nL' + 11) + 64 * L ≤ R.locals) (hf : k + mc ≤ R.cells ∧ n + ms ≤ R.slots) (hW : (rest.map fun v => v.category).sum ≤ 8) (hdg : decode cc pc = .ok (.invokevirtual ix, 3))
    (hC : CtI l E CF L mc ms y cc' nL' ret' (.ref o :: As) st post) (kk : ∀ (r : Int32) (st2 : St), post r st2 → Jg l E CF R cc nL own ret XT QQ (k + mc) (n + ms) (pc + 3) lv (.int r :: rest) st2) : Jg l E CF R cc nL own ret XT QQ k n pc lv stk st := by
  intro p e s m args below meth c sz H locs ls C hP hS hl
  have hFc := AA_sub C.2.2.2.2.2.2.2.2.1 hS
  refine va_calli (va_runV (As := As.map (cv E)) (rest := rest.map (cv E)) ⟨C.1, C.2.1, C.2.2.2.1, C.2.2.2.2.1, C.2.2.2.2.2.1⟩ (hC H.size) (cw_v C.2.2.2.2.2.1 hM hlk hR) ⟨Bg_blind, hrec s H sz locs st C.2.2.2.2.2.2.2.1 C.2.2.2.2.2.2.2.2.2.2.1 hP hS, fun U hU hW => ⟨rfl, Bg_pass C hP hS hU hW⟩⟩ rfl (by rw [List.length_map]; exact hn) hl.1 (by rw [hstk, List.map_append, List.map_reverse]; rfl) (by rw [cats]; simpa using hW) hdg hf) hS (fun q _ h => hFc q h) hFc (fun r u t H1 locs1 ht hvm hw hB hz1 hk1 hS1 => kk r u hw p e s m args below meth c sz H1 locs1 ls C (by rw [← ht]; exact hB) hS1 hl)
theorem J_csi {post : Int32 → St → Prop} (hM : MDs y cc' nL' ret' n') (hlk : Cond.methodLink own ix y ∈ WL) (hn : As.length = n') (hstk : stk = As.reverse ++ rest) (hR : L + 1 ≤ R.frames ∧ 8 + (nL' + 11) + 64 * L ≤ R.locals) (hf : k + mc ≤ R.cells ∧ n + ms ≤ R.slots) (hW : (rest.map fun v => v.category).sum ≤ 8) (hdg : decode cc pc = .ok (.invokestatic ix, 3))
    (hC : CtI l E CF L mc ms y cc' nL' ret' As st post) (kk : ∀ (r : Int32) (st2 : St), post r st2 → Jg l E CF R cc nL own ret XT QQ (k + mc) (n + ms) (pc + 3) lv (.int r :: rest) st2) : Jg l E CF R cc nL own ret XT QQ k n pc lv stk st := by
  intro p e s m args below meth c sz H locs ls C hP hS hl
  have hFc := AA_sub C.2.2.2.2.2.2.2.2.1 hS
  refine va_calli (va_runS (As := As.map (cv E)) (rest := rest.map (cv E)) ⟨C.1, C.2.1, C.2.2.2.1, C.2.2.2.2.1, C.2.2.2.2.2.1⟩ (hC H.size) (cw_s C.2.2.2.2.2.1 hM hlk hR) ⟨Bg_blind, fun U hU hW => ⟨rfl, Bg_pass C hP hS hU hW⟩⟩ rfl (by rw [List.length_map]; exact hn) hl.1 (by rw [hstk, List.map_append, List.map_reverse]) (by rw [cats]; simpa using hW) hdg hf) hS (fun q _ h => hFc q h) hFc (fun r u t H1 locs1 ht hvm hw hB hz1 hk1 hS1 => kk r u hw p e s m args below meth c sz H1 locs1 ls C (by rw [← ht]; exact hB) hS1 hl)
theorem J_cvv {o : Nat} {post : St → Prop} (hM : MDv y cc' nL' ret' n') (hlk : Cond.methodLink own ix y ∈ WL) (hrec : Rc E CF o y.cls) (hn : As.length = n') (hstk : stk = As.reverse ++ .ref o :: rest) (hR : L + 1 ≤ R.frames ∧ 8 + (nL' + 11) + 64 * L ≤ R.locals) (hf : k + mc ≤ R.cells ∧ n + ms ≤ R.slots) (hW : (rest.map fun v => v.category).sum ≤ 8) (hdg : decode cc pc = .ok (.invokevirtual ix, 3))
    (hC : CtV l E CF L mc ms y cc' nL' ret' (.ref o :: As) st post) (kk : ∀ (st2 : St), post st2 → Jg l E CF R cc nL own ret XT QQ (k + mc) (n + ms) (pc + 3) lv rest st2) : Jg l E CF R cc nL own ret XT QQ k n pc lv stk st := by
  intro p e s m args below meth c sz H locs ls C hP hS hl
  have hFc := AA_sub C.2.2.2.2.2.2.2.2.1 hS
  refine va_callv (va_runV (As := As.map (cv E)) (rest := rest.map (cv E)) ⟨C.1, C.2.1, C.2.2.2.1, C.2.2.2.2.1, C.2.2.2.2.2.1⟩ (hC H.size) (cw_v C.2.2.2.2.2.1 hM hlk hR) ⟨Bg_blind, hrec s H sz locs st C.2.2.2.2.2.2.2.1 C.2.2.2.2.2.2.2.2.2.2.1 hP hS, fun U hU hW => ⟨rfl, Bg_pass C hP hS hU hW⟩⟩ rfl (by rw [List.length_map]; exact hn) hl.1 (by rw [hstk, List.map_append, List.map_reverse]; rfl) (by rw [cats]; simpa using hW) hdg hf) hS (fun q _ h => hFc q h) hFc (fun u t H1 locs1 ht hvm hw hB hz1 hk1 hS1 => kk u hw p e s m args below meth c sz H1 locs1 ls C (by rw [← ht]; exact hB) hS1 hl)
theorem J_csv {post : St → Prop} (hM : MDs y cc' nL' ret' n') (hlk : Cond.methodLink own ix y ∈ WL) (hn : As.length = n') (hstk : stk = As.reverse ++ rest) (hR : L + 1 ≤ R.frames ∧ 8 + (nL' + 11) + 64 * L ≤ R.locals) (hf : k + mc ≤ R.cells ∧ n + ms ≤ R.slots) (hW : (rest.map fun v => v.category).sum ≤ 8) (hdg : decode cc pc = .ok (.invokestatic ix, 3))
    (hC : CtV l E CF L mc ms y cc' nL' ret' As st post) (kk : ∀ (st2 : St), post st2 → Jg l E CF R cc nL own ret XT QQ (k + mc) (n + ms) (pc + 3) lv rest st2) : Jg l E CF R cc nL own ret XT QQ k n pc lv stk st := by
  intro p e s m args below meth c sz H locs ls C hP hS hl
  have hFc := AA_sub C.2.2.2.2.2.2.2.2.1 hS
  refine va_callv (va_runS (As := As.map (cv E)) (rest := rest.map (cv E)) ⟨C.1, C.2.1, C.2.2.2.1, C.2.2.2.2.1, C.2.2.2.2.2.1⟩ (hC H.size) (cw_s C.2.2.2.2.2.1 hM hlk hR) ⟨Bg_blind, fun U hU hW => ⟨rfl, Bg_pass C hP hS hU hW⟩⟩ rfl (by rw [List.length_map]; exact hn) hl.1 (by rw [hstk, List.map_append, List.map_reverse]) (by rw [cats]; simpa using hW) hdg hf) hS (fun q _ h => hFc q h) hFc (fun u t H1 locs1 ht hvm hw hB hz1 hk1 hS1 => kk u hw p e s m args below meth c sz H1 locs1 ls C (by rw [← ht]; exact hB) hS1 hl)
theorem J_cvr {o : Nat} {post : Option Nat → St → Prop} (hM : MDv y cc' nL' ret' n') (hlk : Cond.methodLink own ix y ∈ WL) (hrec : Rc E CF o y.cls) (hn : As.length = n') (hstk : stk = As.reverse ++ .ref o :: rest) (hR : L + 1 ≤ R.frames ∧ 8 + (nL' + 11) + 64 * L ≤ R.locals) (hf : k + mc ≤ R.cells ∧ n + ms ≤ R.slots) (hW : (rest.map fun v => v.category).sum ≤ 8) (hdg : decode cc pc = .ok (.invokevirtual ix, 3))
    (hC : CtR l E CF L mc ms y cc' nL' ret' (.ref o :: As) st post) (kk : ∀ (r : Option Nat) (st2 : St), post r st2 → Jg l E CF R cc nL own ret XT QQ (k + mc) (n + ms) (pc + 3) lv (va_rf r :: rest) st2) : Jg l E CF R cc nL own ret XT QQ k n pc lv stk st := by
  intro p e s m args below meth c sz H locs ls C hP hS hl
  have hFc := AA_sub C.2.2.2.2.2.2.2.2.1 hS
  refine va_callq (va_runV (As := As.map (cv E)) (rest := rest.map (cv E)) ⟨C.1, C.2.1, C.2.2.2.1, C.2.2.2.2.1, C.2.2.2.2.2.1⟩ (hC H.size) (cw_v C.2.2.2.2.2.1 hM hlk hR) ⟨Bg_blind, hrec s H sz locs st C.2.2.2.2.2.2.2.1 C.2.2.2.2.2.2.2.2.2.2.1 hP hS, fun U hU hW => ⟨rfl, Bg_pass C hP hS hU hW⟩⟩ rfl (by rw [List.length_map]; exact hn) hl.1 (by rw [hstk, List.map_append, List.map_reverse]; rfl) (by rw [cats]; simpa using hW) hdg hf) hS (fun q _ h => hFc q h) hFc (fun r u t H1 locs1 ht hvm hw hB hz1 hk1 hS1 => (by
    obtain ⟨i, rfl, hw⟩ := hw
    have h9 := kk i u hw p e s m args below meth c sz H1 locs1 ls C (by rw [← ht]; exact hB) hS1 hl
    rw [List.map_cons, cv_rf] at h9
    exact h9))
theorem J_csr {post : Option Nat → St → Prop} (hM : MDs y cc' nL' ret' n') (hlk : Cond.methodLink own ix y ∈ WL) (hn : As.length = n') (hstk : stk = As.reverse ++ rest) (hR : L + 1 ≤ R.frames ∧ 8 + (nL' + 11) + 64 * L ≤ R.locals) (hf : k + mc ≤ R.cells ∧ n + ms ≤ R.slots) (hW : (rest.map fun v => v.category).sum ≤ 8) (hdg : decode cc pc = .ok (.invokestatic ix, 3))
    (hC : CtR l E CF L mc ms y cc' nL' ret' As st post) (kk : ∀ (r : Option Nat) (st2 : St), post r st2 → Jg l E CF R cc nL own ret XT QQ (k + mc) (n + ms) (pc + 3) lv (va_rf r :: rest) st2) : Jg l E CF R cc nL own ret XT QQ k n pc lv stk st := by
  intro p e s m args below meth c sz H locs ls C hP hS hl
  have hFc := AA_sub C.2.2.2.2.2.2.2.2.1 hS
  refine va_callq (va_runS (As := As.map (cv E)) (rest := rest.map (cv E)) ⟨C.1, C.2.1, C.2.2.2.1, C.2.2.2.2.1, C.2.2.2.2.2.1⟩ (hC H.size) (cw_s C.2.2.2.2.2.1 hM hlk hR) ⟨Bg_blind, fun U hU hW => ⟨rfl, Bg_pass C hP hS hU hW⟩⟩ rfl (by rw [List.length_map]; exact hn) hl.1 (by rw [hstk, List.map_append, List.map_reverse]) (by rw [cats]; simpa using hW) hdg hf) hS (fun q _ h => hFc q h) hFc (fun r u t H1 locs1 ht hvm hw hB hz1 hk1 hS1 => (by
    obtain ⟨i, rfl, hw⟩ := hw
    have h9 := kk i u hw p e s m args below meth c sz H1 locs1 ls C (by rw [← ht]; exact hB) hS1 hl
    rw [List.map_cons, cv_rf] at h9
    exact h9))
theorem J_reti {post : Int32 → St → Prop} {v : Int32} (hret : ret = some .int) (hdg : decode cc pc = .ok (.ireturn, 1)) (h : post v st) : Jg l E CF R cc nL own ret XT (QI E post k n) k n pc lv [.int v] st := by
  intro p e s m args below meth c sz H locs ls C hP hS hl
  exact W.iret (v := v) C.1 C.2.1 (C.2.2.1.trans hret) (fun t ht hW => ⟨⟨v, st, rfl, h, by unfold Ba; rw [ht]; exact hP⟩, hS.F ht⟩) hS.2.2 hdg C.2.2.2.2.2.2.1
theorem J_retz {post : Int32 → St → Prop} {v : Int32} (hret : ret = some .boolean) (hv : v = 0 ∨ v = 1) (hdg : decode cc pc = .ok (.ireturn, 1)) (h : post v st) : Jg l E CF R cc nL own ret XT (QI E post k n) k n pc lv [.int v] st := by
  intro p e s m args below meth c sz H locs ls C hP hS hl
  exact W.zret (v := v) C.1 C.2.1 (C.2.2.1.trans hret) (by rcases hv with rfl | rfl <;> rfl) (fun t ht hW => ⟨⟨v, st, rfl, h, by unfold Ba; rw [ht]; exact hP⟩, hS.F ht⟩) hS.2.2 hdg C.2.2.2.2.2.2.1
theorem J_retv {post : St → Prop} (hret : ret = none) (hdg : decode cc pc = .ok (.return_, 1)) (h : post st) : Jg l E CF R cc nL own ret XT (QV E post k n) k n pc lv [] st := by
  intro p e s m args below meth c sz H locs ls C hP hS hl
  exact W.vret C.1 C.2.1 (C.2.2.1.trans hret) (fun t ht hW => ⟨⟨st, rfl, h, by unfold Ba; rw [ht]; exact hP⟩, hS.F ht⟩) hS.2.2 hdg C.2.2.2.2.2.2.1
theorem J_retn {post : Int32 → St → Prop} {v : Int32} {ty : FieldType} (hret : ret = some ty) (hn : narrow ty (.int v) = .int v) (hdg : decode cc pc = .ok (.ireturn, 1)) (h : post v st) : Jg l E CF R cc nL own ret XT (QI E post k n) k n pc lv [.int v] st := by
  intro p e s m args below meth c sz H locs ls C hP hS hl
  exact W.zret (v := v) C.1 C.2.1 (C.2.2.1.trans hret) hn (fun t ht hW => ⟨⟨v, st, rfl, h, by unfold Ba; rw [ht]; exact hP⟩, hS.F ht⟩) hS.2.2 hdg C.2.2.2.2.2.2.1
theorem J_retr {post : Option Nat → St → Prop} {v : Option Nat} {q : String} (hret : ret = some (.object q)) (hdg : decode cc pc = .ok (.areturn, 1)) (h : post v st) : Jg l E CF R cc nL own ret XT (QR E post k n) k n pc lv [va_rf v] st := by
  intro p e s m args below meth c sz H locs ls C hP hS hl
  rw [List.map_cons, cv_rf]
  exact W.aret (v := va_rf (v.map (eA E))) C.1 C.2.1 (C.2.2.1.trans hret) (Or.inl ⟨q, rfl⟩) (by cases v with | none => exact Or.inl rfl | some i => exact Or.inr ⟨_, rfl⟩) (fun t ht hW => ⟨⟨v.map (eA E), st, rfl, ⟨v, rfl, h⟩, by unfold Ba; rw [ht]; exact hP⟩, hS.F ht⟩) hS.2.2 hdg C.2.2.2.2.2.2.1
end JC
