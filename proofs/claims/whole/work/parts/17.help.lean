/-! the law's helpers: a call whose throw is caught -/
def HH (own : String) (pc : Nat) (hh : List (Nat × Nat × Nat × Nat)) (X : String) (h : Nat) : Prop :=
  (∃ a b ct, hh = [(a, b, h, ct)] ∧ a ≤ pc ∧ pc < b ∧ ct ≠ 0 ∧ Cond.classLink own ct X ∈ WL ∧ (X = IAE ∨ X = NSE)) ∨
  (∃ a b ct q, hh = [(a, b, h, ct), q] ∧ a ≤ pc ∧ pc < b ∧ ct ≠ 0 ∧ Cond.classLink own ct NSE ∈ WL ∧ X = NSE) ∨
  (∃ a b ct a' b' h' ct', hh = [(a', b', h', ct'), (a, b, h, ct)] ∧ a ≤ pc ∧ pc < b ∧ ct ≠ 0 ∧ ct' ≠ 0 ∧ Cond.classLink own ct' NSE ∈ WL ∧ Cond.classLink own ct IAE ∈ WL ∧ X = IAE)
def Ast (cc : ByteArray) (nL h h2 : Nat) : Prop := (∃ z : Fin 4, decode cc h = .ok (.astore_n z, 1) ∧ (z : Nat) < nL ∧ h2 = h + 1) ∨ (∃ i, decode cc h = .ok (.astore i, 2) ∧ i < nL ∧ h2 = h + 2)
section JH
variable {l : Launch} {E : En} {R : Room} {cc : ByteArray} {nL : Nat} {own : String} {ret : Option FieldType} {XT : Code → Prop} {QQ : List Frame → Array Value → State → Nat → State → Prop} {k n pc : Nat} {lv : List (Nat × Value)} {stk rest : List Value} {st : St}
theorem J_hc {y : MethodName} {cc' : ByteArray} {nL' : Nat} {ret' : Option FieldType} {n' ix L mc' ms' o : Nat} {As : List Value} {post : Int32 → St → Prop} {pex : String → St → Prop} {hh : List (Nat × Nat × Nat × Nat)} (hXT : ∀ c, XT c → c.exceptionTable.toList = tableOf hh) (hM : MDv y cc' nL' ret' n') (hlk : Cond.methodLink own ix y ∈ WL) (hrec : Rc E (CFc E) o y.cls) (hn : As.length = n') (hstk : stk = As.reverse ++ .ref o :: rest) (hR : L + 1 ≤ R.frames ∧ 8 + (nL' + 11) + 64 * L ≤ R.locals) (hf : k + mc' ≤ R.cells ∧ n + ms' ≤ R.slots) (hW : (rest.map fun v => v.category).sum ≤ 8) (hdg : decode cc pc = .ok (.invokevirtual ix, 3))
    (hC : CtXI l E (CFc E) L mc' ms' y cc' nL' ret' (.ref o :: As) st post pex)
    (kx : ∀ (X : String) (st2 : St), pex X st2 → ∃ h h2, HH own pc hh X h ∧ Ast cc nL h h2 ∧ Jg l E (CFc E) R cc nL own ret XT QQ (k + mc') (n + ms') h2 [] [] st2)
    (kk : ∀ (r : Int32) (st2 : St), post r st2 → Jg l E (CFc E) R cc nL own ret XT QQ (k + mc') (n + ms') (pc + 3) lv (.int r :: rest) st2) : Jg l E (CFc E) R cc nL own ret XT QQ k n pc lv stk st := by
  intro p e s m args below meth c sz H locs ls C hP hS hl
  have hFc := AA_sub C.2.2.2.2.2.2.2.2.1 hS
  refine vx_calli (vx_runV (As := As.map (cv E)) (rest := rest.map (cv E)) ⟨C.1, C.2.1, C.2.2.2.1, C.2.2.2.2.1, C.2.2.2.2.2.1⟩ (hC H.size) (cw_v C.2.2.2.2.2.1 hM hlk hR) ⟨Bg_blind, hrec s H sz locs st C.2.2.2.2.2.2.2.1 C.2.2.2.2.2.2.2.2.2.2.1 hP hS, fun U hU hW => ⟨rfl, Bg_pass C hP hS hU hW⟩⟩ rfl (by rw [List.length_map]; exact hn) hl.1 (by rw [hstk, List.map_append, List.map_reverse]; rfl) (by rw [cats]; simpa using hW) hdg hf) hS (fun q _ h => hFc q h) hFc (fun q _ h => hFc q h) (fun X ce q9 u t H1 locs1 ht hvm _ hB hz1 hk1 hS1 hce hcv hcl => ?_) (fun r u t H1 locs1 ht hvm hw hB hz1 hk1 hS1 => kk r u hw p e s m args below meth c sz H1 locs1 ls C (by rw [← ht]; exact hB) hS1 hl)
  obtain ⟨h, h2, hHH, hast, hJ⟩ := kx X u hB.1
  have F := C.2.2.2.2.2.2.2.2.2.2.1
  have hW2 : W p l e R s m args below meth c H1 locs1 (k + mc') (n + ms') (QQ below args s sz) (F0 m h ls [.ref q9]) := by
    rcases hast with ⟨z, d, hz, rfl⟩ | ⟨i, d, hi, rfl⟩
    · exact lv_astore_n C.1 C.2.1 d rfl hl hz rfl (fun ls' hl' => hJ p e s m args below meth c sz H1 locs1 ls' C (by rw [← ht]; exact hB.2) hS1 (lv_sub hl' [] rfl))
    · exact lv_astore C.1 C.2.1 d hl hi rfl (fun ls' hl' => hJ p e s m args below meth c sz H1 locs1 ls' C (by rw [← ht]; exact hB.2) hS1 (lv_sub hl' [] rfl))
  have hI : (Cond.castable IAE IAE).before args s = true := va_tabs rfl rfl F.2.2.2.2.2.2.2.2.2.2.2.1
  have hN : (Cond.castable NSE NSE).before args s = true := va_tabs rfl rfl F.2.2.2.2.2.2.2.2.2.2.2.2.1
  have hts := C.2.2.2.2.2.1
  rcases hHH with ⟨a, b, ct, rfl, h1, h3, h4, h5, h6⟩ | ⟨a, b, ct, q, rfl, h1, h3, h4, h5, rfl⟩ | ⟨a, b, ct, a', b', h', ct', rfl, h1, h3, h4, h7, h8, h5, rfl⟩
  · have hcv9 : (Cond.castable X X).before args s = true := by rcases h6 with rfl | rfl; exact hI; exact hN
    exact vx_catch (own := own) C.2.2.2.2.1 [] ⟨a, b, h, ct⟩ [] (hXT c C.2.2.2.2.2.2.2.2.2.2.2.2) (fun z hz => by cases hz) (by simp [h1, h3]) h4 (hts _ h5) hcv9 hce hcv hcl hW2
  · exact vx_catch (own := own) C.2.2.2.2.1 [] ⟨a, b, h, ct⟩ _ (hXT c C.2.2.2.2.2.2.2.2.2.2.2.2) (fun z hz => by cases hz) (by simp [h1, h3]) h4 (hts _ h5) hN hce hcv hcl hW2
  · refine vx_catch (own := own) C.2.2.2.2.1 [⟨a', b', h', ct'⟩] ⟨a, b, h, ct⟩ [] (hXT c C.2.2.2.2.2.2.2.2.2.2.2.2) (fun z hz => ?_) (by simp [h1, h3]) h4 (hts _ h5) hI hce hcv hcl hW2
    rw [List.mem_singleton] at hz
    subst hz
    exact Or.inr ⟨h7, NSE, hts _ h8, F.2.2.2.2.2.2.2.2.2.2.2.2.2⟩
end JH
def CtH (l : Launch) (E : En) (CF : CFt) (L mc ms : Nat) (y : MethodName) (cc : ByteArray) (nL : Nat) (ret : Option FieldType) (hh : List (Nat × Nat × Nat × Nat)) (av : List Value) (st : St) (post : Int32 → St → Prop) : Prop := ∀ sz : Nat, Met l y (Cond.codeWith y cc nL ret hh :: WL) (Rm L mc ms) (va_Pc (av.map (cv E)) (Bg E CF sz st)) (va_Qi post (Ba E) (AA E sz)) mc ms (AA E sz)
theorem ctH_of {l : Launch} {E : En} {CF : CFt} {y : MethodName} {cc : ByteArray} {nL L mc ms : Nat} {ret : Option FieldType} {hh : List (Nat × Nat × Nat × Nat)} {av : List Value} {st : St} {post : Int32 → St → Prop} (hy : plainName y.cls = true) (hlen : (lg_sl av).length ≤ nL)
    (h : Jg l E CF (Rm L mc ms) cc nL y.cls ret (fun c => c.exceptionTable.toList = tableOf hh) (QI E post mc ms) 0 0 0 (lv_args 0 av) [] st) : CtH l E CF L mc ms y cc nL ret hh av st post := by
  intro sz
  refine MetFree.of_bodyS (code := cc) (maxLocals := nL) (ret := ret) hy ?_ ?_
  · intro args s m h hn
    obtain ⟨m9, meth, c, hn9, h1, h2, h3, h4, -, h5, h6, -⟩ := Cond.codeWith_spec (atoms_spec (ws := Cond.codeWith y cc nL ret hh :: WL) h _ List.mem_cons_self)
    cases hn.symm.trans hn9
    exact ⟨meth, c, h1, h2, h3, h4, h5, h6⟩
  · intro p e s m args below meth c s₁ B hml hv _
    have hh0 : s₁.heap = s.heap := by rw [B.state]; rfl
    have htab := vx_table (x := y) B (atoms_spec (ws := Cond.codeWith y cc nL ret hh :: WL) B.pre _ List.mem_cons_self)
    have K : W p l e (Rm L mc ms) s m args below meth c s.heap [] 0 0 (QI E post mc ms below args s sz) (entryFrame m args nL) := by
      obtain ⟨rfl, hsz, hP, hK, had, hCF, hok⟩ := hv
      rw [lg_entry_eq]
      have hl := lv_entry (av.map (cv E)) (n := nL) (by rw [lg_sl_cv]; exact hlen)
      rw [lv_args_cv] at hl
      exact h p e s m _ below meth c sz s.heap [] _ ⟨B.exec, B.bytes, B.returns, hml, findClass_of_methodNamed B.named, fun w hw => atoms_spec (ws := Cond.codeWith y cc nL ret hh :: WL) B.pre w (List.mem_cons_of_mem _ hw), B.notSynchronized, hK, hsz, had, hCF, hok, htab⟩ hP va_S.rf hl
    obtain ⟨t, a1, o, b1, b2, b3, b4⟩ := K s₁ hh0 (Stand.of_body B)
    exact ⟨t, o, a1, b1, b2, b3, b4⟩
/-- more is known of the constants: the contract stays -/
theorem Bg_mono {E : En} {CF CF' : CFt} (hm : ∀ A U H, CF' A U H → CF A U H) (hok : CFok CF) {sz : Nat} {st : St} {av : List Value} {args : Array Value} {U : State} (h : va_Pc av (Bg E CF' sz st) args U) : va_Pc av (Bg E CF sz st) args U := by
  obtain ⟨h0, h1, h2, h3, h4, h5, h6⟩ := h
  exact ⟨h0, h1, h2, h3, h4, hm _ _ _ h5, hok⟩
theorem CtI_mono {l : Launch} {E : En} {CF CF' : CFt} {L mc ms : Nat} {y : MethodName} {cc : ByteArray} {nL : Nat} {ret : Option FieldType} {av : List Value} {st : St} {post : Int32 → St → Prop} (hm : ∀ A U H, CF' A U H → CF A U H) (hok : CFok CF) (h : CtI l E CF L mc ms y cc nL ret av st post) : CtI l E CF' L mc ms y cc nL ret av st post :=
  fun sz p e ha hc hk s m args below hf hfit hP => h sz p e ha hc hk s m args below hf hfit (Bg_mono hm hok hP)
theorem CtV_mono {l : Launch} {E : En} {CF CF' : CFt} {L mc ms : Nat} {y : MethodName} {cc : ByteArray} {nL : Nat} {ret : Option FieldType} {av : List Value} {st : St} {post : St → Prop} (hm : ∀ A U H, CF' A U H → CF A U H) (hok : CFok CF) (h : CtV l E CF L mc ms y cc nL ret av st post) : CtV l E CF' L mc ms y cc nL ret av st post :=
  fun sz p e ha hc hk s m args below hf hfit hP => h sz p e ha hc hk s m args below hf hfit (Bg_mono hm hok hP)
theorem CtH_mono {l : Launch} {E : En} {CF CF' : CFt} {L mc ms : Nat} {y : MethodName} {cc : ByteArray} {nL : Nat} {ret : Option FieldType} {hh : List (Nat × Nat × Nat × Nat)} {av : List Value} {st : St} {post : Int32 → St → Prop} (hm : ∀ A U H, CF' A U H → CF A U H) (hok : CFok CF) (h : CtH l E CF L mc ms y cc nL ret hh av st post) : CtH l E CF' L mc ms y cc nL ret hh av st post :=
  fun sz p e ha hc hk s m args below hf hfit hP => h sz p e ha hc hk s m args below hf hfit (Bg_mono hm hok hP)
def MDh (y : MethodName) (cc : ByteArray) (nL : Nat) (ret : Option FieldType) (hh : List (Nat × Nat × Nat × Nat)) (n : Nat) : Prop := Cond.codeWith y cc nL ret hh ∈ WL ∧ Cond.static y ∈ WL ∧ Cond.initialized y.cls ∈ WL ∧ y.cls ≠ "java/lang/invoke/MethodHandle" ∧ y.cls ≠ "java/lang/invoke/VarHandle" ∧ (parseMethodDescriptor y.desc).map (fun d => d.parameters.length) = some n
theorem good_codeW {y : MethodName} {cc : ByteArray} {nL : Nat} {ret : Option FieldType} {hh : List (Nat × Nat × Nat × Nat)} (h : Cond.codeWith y cc nL ret hh ∈ WL) {ix : Nat} {own : String} (h1 : Cond.methodLink own ix y ∈ WL) (h2 : Cond.static y ∈ WL) (h3 : Cond.initialized y.cls ∈ WL) : GoodIn WL (va_wsS own ix y (Cond.codeWith y cc nL ret hh :: WL)) := fun w hw => by
  have h9 : w ∈ WL := by
    simp only [va_wsS, List.cons_append, List.nil_append, List.mem_cons] at hw
    rcases hw with rfl | rfl | rfl | rfl | hw
    · exact h1
    · exact h2
    · exact h3
    · exact h
    · exact hw
  exact ⟨h9, good_of_word (wl_good w h9)⟩
theorem J_csH {l : Launch} {E : En} {CF : CFt} {R : Room} {cc : ByteArray} {nL : Nat} {own : String} {ret : Option FieldType} {XT : Code → Prop} {QQ : List Frame → Array Value → State → Nat → State → Prop} {k n pc : Nat} {lv : List (Nat × Value)} {stk rest : List Value} {st : St} {y : MethodName} {cc' : ByteArray} {nL' : Nat} {ret' : Option FieldType} {hh : List (Nat × Nat × Nat × Nat)} {n' ix L mc ms : Nat} {As : List Value}
    {post : Int32 → St → Prop} (hM : MDh y cc' nL' ret' hh n') (hlk : Cond.methodLink own ix y ∈ WL) (hn : As.length = n') (hstk : stk = As.reverse ++ rest) (hR : L + 1 ≤ R.frames ∧ 8 + (nL' + 11) + 64 * L ≤ R.locals) (hf : k + mc ≤ R.cells ∧ n + ms ≤ R.slots) (hW : (rest.map fun v => v.category).sum ≤ 8) (hdg : decode cc pc = .ok (.invokestatic ix, 3))
    (hC : CtH l E CF L mc ms y cc' nL' ret' hh As st post) (kk : ∀ (r : Int32) (st2 : St), post r st2 → Jg l E CF R cc nL own ret XT QQ (k + mc) (n + ms) (pc + 3) lv (.int r :: rest) st2) : Jg l E CF R cc nL own ret XT QQ k n pc lv stk st := by
  intro p e s m args below meth c sz H locs ls C hP hS hl
  have hFc := AA_sub C.2.2.2.2.2.2.2.2.1 hS
  obtain ⟨h1, h2, h3, h4, h5, h6⟩ := hM
  refine va_calli (vx_runSW (As := As.map (cv E)) (rest := rest.map (cv E)) (Ts := WL) ⟨C.1, C.2.1, C.2.2.2.1, C.2.2.2.2.1, C.2.2.2.2.2.1⟩ (hC H.size) (vx_cwSW n' C.2.2.2.2.2.1 (good_codeW h1 hlk h2 h3) rfl rfl rfl ⟨h4, h5, h6⟩ hR) ⟨Bg_blind, fun U hU hW => ⟨rfl, Bg_pass C hP hS hU hW⟩⟩ rfl (by rw [List.length_map]; exact hn) hl.1 (by rw [hstk, List.map_append, List.map_reverse]) (by rw [cats]; simpa using hW) hdg hf) hS (fun q _ h => hFc q h) hFc (fun r u t H1 locs1 ht hvm hw hB hz1 hk1 hS1 => kk r u hw p e s m args below meth c sz H1 locs1 ls C (by rw [← ht]; exact hB) hS1 hl)
theorem al_out : al 2 106 = 1 := by decide +kernel
theorem vi_out : vp_in 0 (al 2 106) := by rw [al_out]; unfold vp_in; decide
theorem tb_out : oC 0 11 := ⟨_, rfl⟩
theorem tb_mo : oC 58 12 := ⟨_, rfl⟩
theorem md_X11_dale : MDv yX11_dale cX11_dale 3 (some .int) 1 := ⟨k_744, k_1304, k_1305, k_719, by decide, by decide, by decide +kernel⟩
theorem md_X11_count : MDv yX11_count cX11_count 2 (some .int) 1 := ⟨k_769, k_1309, k_1310, k_719, by decide, by decide, by decide +kernel⟩
theorem md_X11_person : MDv yX11_person cX11_person 3 (some .int) 2 := ⟨k_780, k_1313, k_1314, k_719, by decide, by decide, by decide +kernel⟩
theorem md_X11_bride : MDv yX11_bride cX11_bride 3 (some .int) 2 := ⟨k_791, k_1317, k_1318, k_719, by decide, by decide, by decide +kernel⟩
theorem md_X11_years : MDv yX11_years cX11_years 3 (some .int) 2 := ⟨k_792, k_1321, k_1322, k_719, by decide, by decide, by decide +kernel⟩
theorem md_X11_weight : MDv yX11_weight cX11_weight 3 (some .int) 2 := ⟨k_795, k_1325, k_1326, k_719, by decide, by decide, by decide +kernel⟩
theorem md_X11_train : MDv yX11_train cX11_train 4 (some .int) 2 := ⟨k_802, k_1329, k_1330, k_719, by decide, by decide, by decide +kernel⟩
theorem md_X11_onions : MDv yX11_onions cX11_onions 3 (some .int) 2 := ⟨k_805, k_1333, k_1334, k_719, by decide, by decide, by decide +kernel⟩
theorem md_X11_putOff : MDv yX11_putOff cX11_putOff 4 (some .int) 2 := ⟨k_807, k_1337, k_1338, k_719, by decide, by decide, by decide +kernel⟩
theorem md_X11_tie : MDv yX11_tie cX11_tie 5 (some .int) 3 := ⟨k_809, k_1341, k_1342, k_719, by decide, by decide, by decide +kernel⟩
theorem md_X11_leader : MDv yX11_leader cX11_leader 2 (some .int) 1 := ⟨k_817, k_1345, k_1346, k_719, by decide, by decide, by decide +kernel⟩
theorem md_X11_then : MDv yX11_then cX11_then 3 (some .int) 2 := ⟨k_825, k_1349, k_1350, k_719, by decide, by decide, by decide +kernel⟩
theorem md_X11_led : MDv yX11_led cX11_led 3 (some .int) 2 := ⟨k_829, k_1353, k_1354, k_719, by decide, by decide, by decide +kernel⟩
theorem md_X11_rank : MDv yX11_rank cX11_rank 3 (some .int) 2 := ⟨k_834, k_1357, k_1358, k_719, by decide, by decide, by decide +kernel⟩
theorem md_X11_toTrain : MDv yX11_toTrain cX11_toTrain 3 (some .int) 2 := ⟨k_838, k_1361, k_1362, k_719, by decide, by decide, by decide +kernel⟩
theorem md_X11_instead : MDv yX11_instead cX11_instead 2 (some .int) 1 := ⟨k_842, k_1365, k_1366, k_719, by decide, by decide, by decide +kernel⟩
theorem md_X11_bestDay : MDv yX11_bestDay cX11_bestDay 3 (some .int) 2 := ⟨k_846, k_1369, k_1370, k_719, by decide, by decide, by decide +kernel⟩
theorem md_X11_choice : MDv yX11_choice cX11_choice 2 (some .int) 1 := ⟨k_851, k_1373, k_1374, k_719, by decide, by decide, by decide +kernel⟩
theorem md_X11_tug : MDv yX11_tug cX11_tug 2 (some .int) 1 := ⟨k_856, k_1377, k_1378, k_719, by decide, by decide, by decide +kernel⟩
theorem md_X11_decisive : MDv yX11_decisive cX11_decisive 3 (some .int) 2 := ⟨k_860, k_1381, k_1382, k_719, by decide, by decide, by decide +kernel⟩
theorem md_X11_steps : MDv yX11_steps cX11_steps 5 (some .int) 2 := ⟨k_861, k_1385, k_1386, k_719, by decide, by decide, by decide +kernel⟩
theorem md_X11_busiest : MDv yX11_busiest cX11_busiest 6 (some .int) 1 := ⟨k_865, k_1389, k_1390, k_719, by decide, by decide, by decide +kernel⟩
theorem md_X11_crowd : MDv yX11_crowd cX11_crowd 7 (some .int) 1 := ⟨k_869, k_1393, k_1394, k_719, by decide, by decide, by decide +kernel⟩
theorem md_X11_common : MDv yX11_common cX11_common 3 (some .int) 2 := ⟨k_870, k_1397, k_1398, k_719, by decide, by decide, by decide +kernel⟩
theorem md_X11_see : MDv yX11_see cX11_see 6 (some .int) 5 := ⟨k_872, k_1401, k_1402, k_719, by decide, by decide, by decide +kernel⟩
theorem md_X11_hidden : MDv yX11_hidden cX11_hidden 2 (some .int) 1 := ⟨k_882, k_1405, k_1406, k_719, by decide, by decide, by decide +kernel⟩
theorem md_X11_next : MDv yX11_next cX11_next 2 (some .int) 1 := ⟨k_886, k_1409, k_1410, k_719, by decide, by decide, by decide +kernel⟩
theorem md_X11_game : MDv yX11_game cX11_game 5 (some .int) 4 := ⟨k_901, k_1413, k_1414, k_719, by decide, by decide, by decide +kernel⟩
theorem md_X11_drawn : MDv yX11_drawn cX11_drawn 4 (some .int) 3 := ⟨k_906, k_1417, k_1418, k_719, by decide, by decide, by decide +kernel⟩
theorem md_X11_feed : MDv yX11_feed cX11_feed 6 (some .int) 5 := ⟨k_715, k_1430, k_1431, k_719, by decide, by decide, by decide +kernel⟩
theorem md_X12_feed : MDv yX12_feed cX12_feed 8 (some .int) 5 := ⟨k_975, k_1433, k_1434, k_973, by decide, by decide, by decide +kernel⟩
theorem md_X12_dale : MDv yX12_dale cX12_dale 3 (some .int) 1 := ⟨k_1102, k_1439, k_1440, k_973, by decide, by decide, by decide +kernel⟩
theorem md_X12_thrown : MDv yX12_thrown cX12_thrown 1 (some .int) 0 := ⟨k_964, k_1442, k_1443, k_973, by decide, by decide, by decide +kernel⟩
theorem md_X11_fault : MDv yX11_fault cX11_fault 1 (some .int) 0 := ⟨k_745, k_1445, k_1446, k_719, by decide, by decide, by decide +kernel⟩
theorem md_X12_fault : MDv yX12_fault cX12_fault 1 (some .int) 0 := ⟨k_1103, k_1448, k_1449, k_973, by decide, by decide, by decide +kernel⟩
theorem md_X12_count : MDv yX12_count cX12_count 2 (some .int) 1 := ⟨k_1165, k_1453, k_1454, k_973, by decide, by decide, by decide +kernel⟩
theorem md_X12_person : MDv yX12_person cX12_person 3 (some .int) 2 := ⟨k_1166, k_1458, k_1459, k_973, by decide, by decide, by decide +kernel⟩
theorem md_X12_bride : MDv yX12_bride cX12_bride 3 (some .int) 2 := ⟨k_1173, k_1463, k_1464, k_973, by decide, by decide, by decide +kernel⟩
theorem md_X12_years : MDv yX12_years cX12_years 3 (some .int) 2 := ⟨k_1174, k_1468, k_1469, k_973, by decide, by decide, by decide +kernel⟩
theorem md_X12_weight : MDv yX12_weight cX12_weight 3 (some .int) 2 := ⟨k_1175, k_1473, k_1474, k_973, by decide, by decide, by decide +kernel⟩
theorem md_X11_days : MDv yX11_days cX11_days 3 (some .int) 1 := ⟨k_800, k_1476, k_1477, k_719, by decide, by decide, by decide +kernel⟩
theorem md_X12_days : MDv yX12_days cX12_days 2 (some .int) 1 := ⟨k_1191, k_1479, k_1480, k_973, by decide, by decide, by decide +kernel⟩
theorem md_X12_train : MDv yX12_train cX12_train 4 (some .int) 2 := ⟨k_1193, k_1484, k_1485, k_973, by decide, by decide, by decide +kernel⟩
theorem md_X12_onions : MDv yX12_onions cX12_onions 3 (some .int) 2 := ⟨k_1194, k_1489, k_1490, k_973, by decide, by decide, by decide +kernel⟩
theorem md_X12_putOff : MDv yX12_putOff cX12_putOff 4 (some .int) 2 := ⟨k_1196, k_1494, k_1495, k_973, by decide, by decide, by decide +kernel⟩
theorem md_X12_tie : MDv yX12_tie cX12_tie 5 (some .int) 3 := ⟨k_1198, k_1499, k_1500, k_973, by decide, by decide, by decide +kernel⟩
theorem md_X11_undo : MDv yX11_undo cX11_undo 1 (some .int) 0 := ⟨k_813, k_1502, k_1503, k_719, by decide, by decide, by decide +kernel⟩
theorem md_X12_undo : MDv yX12_undo cX12_undo 1 (some .int) 0 := ⟨k_1199, k_1505, k_1506, k_973, by decide, by decide, by decide +kernel⟩
theorem md_X12_leader : MDv yX12_leader cX12_leader 2 (some .int) 1 := ⟨k_1207, k_1510, k_1511, k_973, by decide, by decide, by decide +kernel⟩
theorem md_X12_then : MDv yX12_then cX12_then 4 (some .int) 2 := ⟨k_1209, k_1515, k_1516, k_973, by decide, by decide, by decide +kernel⟩
theorem md_X12_led : MDv yX12_led cX12_led 3 (some .int) 2 := ⟨k_1214, k_1520, k_1521, k_973, by decide, by decide, by decide +kernel⟩
theorem md_X11_dog : MDv yX11_dog cX11_dog 1 (some .int) 0 := ⟨k_830, k_1523, k_1524, k_719, by decide, by decide, by decide +kernel⟩
theorem md_X12_dog : MDv yX12_dog cX12_dog 3 (some .int) 0 := ⟨k_1215, k_1526, k_1527, k_973, by decide, by decide, by decide +kernel⟩
theorem md_X12_rank : MDv yX12_rank cX12_rank 7 (some .int) 2 := ⟨k_1216, k_1531, k_1532, k_973, by decide, by decide, by decide +kernel⟩
theorem md_X12_toTrain : MDv yX12_toTrain cX12_toTrain 6 (some .int) 2 := ⟨k_1217, k_1536, k_1537, k_973, by decide, by decide, by decide +kernel⟩
theorem md_X12_instead : MDv yX12_instead cX12_instead 5 (some .int) 1 := ⟨k_1224, k_1541, k_1542, k_973, by decide, by decide, by decide +kernel⟩
theorem md_X12_bestDay : MDv yX12_bestDay cX12_bestDay 7 (some .int) 2 := ⟨k_1229, k_1546, k_1547, k_973, by decide, by decide, by decide +kernel⟩
theorem md_X12_choice : MDv yX12_choice cX12_choice 6 (some .int) 1 := ⟨k_1243, k_1551, k_1552, k_973, by decide, by decide, by decide +kernel⟩
theorem md_X11_unloved : MDv yX11_unloved cX11_unloved 3 (some .int) 0 := ⟨k_852, k_1554, k_1555, k_719, by decide, by decide, by decide +kernel⟩
theorem md_X12_unloved : MDv yX12_unloved cX12_unloved 3 (some .int) 0 := ⟨k_1244, k_1557, k_1558, k_973, by decide, by decide, by decide +kernel⟩
theorem md_X12_tug : MDv yX12_tug cX12_tug 6 (some .int) 1 := ⟨k_1249, k_1562, k_1563, k_973, by decide, by decide, by decide +kernel⟩
theorem md_X12_decisive : MDv yX12_decisive cX12_decisive 7 (some .int) 2 := ⟨k_1250, k_1567, k_1568, k_973, by decide, by decide, by decide +kernel⟩
theorem md_X12_steps : MDv yX12_steps cX12_steps 8 (some .int) 2 := ⟨k_1251, k_1572, k_1573, k_973, by decide, by decide, by decide +kernel⟩
theorem md_X12_busiest : MDv yX12_busiest cX12_busiest 6 (some .int) 1 := ⟨k_1252, k_1577, k_1578, k_973, by decide, by decide, by decide +kernel⟩
theorem md_X12_crowd : MDv yX12_crowd cX12_crowd 7 (some .int) 1 := ⟨k_1253, k_1582, k_1583, k_973, by decide, by decide, by decide +kernel⟩
theorem md_X12_common : MDv yX12_common cX12_common 3 (some .int) 2 := ⟨k_1254, k_1587, k_1588, k_973, by decide, by decide, by decide +kernel⟩
theorem md_X12_see : MDv yX12_see cX12_see 6 (some .int) 5 := ⟨k_1255, k_1592, k_1593, k_973, by decide, by decide, by decide +kernel⟩
theorem md_X12_hidden : MDv yX12_hidden cX12_hidden 2 (some .int) 1 := ⟨k_1266, k_1597, k_1598, k_973, by decide, by decide, by decide +kernel⟩
theorem md_X12_next : MDv yX12_next cX12_next 6 (some .int) 1 := ⟨k_1271, k_1602, k_1603, k_973, by decide, by decide, by decide +kernel⟩
theorem md_X11_forget : MDv yX11_forget cX11_forget 1 none 0 := ⟨k_887, k_1605, k_1606, k_719, by decide, by decide, by decide +kernel⟩
theorem md_X12_forget : MDv yX12_forget cX12_forget 1 none 0 := ⟨k_1272, k_1608, k_1609, k_973, by decide, by decide, by decide +kernel⟩
theorem md_X12_game : MDv yX12_game cX12_game 8 (some .int) 4 := ⟨k_1281, k_1613, k_1614, k_973, by decide, by decide, by decide +kernel⟩
theorem md_X12_drawn : MDv yX12_drawn cX12_drawn 6 (some .int) 3 := ⟨k_1292, k_1618, k_1619, k_973, by decide, by decide, by decide +kernel⟩
theorem md_X11_image : MDv yX11_image cX11_image 1 none 0 := ⟨k_910, k_1621, k_1622, k_719, by decide, by decide, by decide +kernel⟩
theorem md_X12_image : MDv yX12_image cX12_image 2 none 0 := ⟨k_1298, k_1624, k_1625, k_973, by decide, by decide, by decide +kernel⟩
theorem md_X11_restore : MDv yX11_restore cX11_restore 1 (some .boolean) 0 := ⟨k_911, k_1627, k_1628, k_719, by decide, by decide, by decide +kernel⟩
theorem md_X12_restore : MDv yX12_restore cX12_restore 2 (some .boolean) 0 := ⟨k_1299, k_1630, k_1631, k_973, by decide, by decide, by decide +kernel⟩
def P_L_dale (a1 : Int32) (st : St) (post : Int32 → St → Prop) : Prop := P_X11_dale 0 a1 st (fun r st1 => post 0 (sL st1 106 0 r.toInt64)) (fun X st1 => X = IAE ∧ post 1 st1)
theorem mdh_L_dale : MDh yL_dale cL_dale 4 (some .int) [(0, 9, 12, 13)] 3 := ⟨k_1306, k_1436, k_1437, by decide, by decide, by decide +kernel⟩
set_option maxRecDepth 100000 in
set_option maxHeartbeats 4000000 in
theorem ct_L_dale {l : Launch} {E : En} (hl0 : l.stackTraces = false) {a1 : Int32} {st : St} {post : Int32 → St → Prop} (h : P_L_dale a1 st post) : CtH l E (CFc E) 84 1 6 yL_dale cL_dale 4 (some .int) [(0, 9, 12, 13)] [.ref 0, .int a1, .ref 106] st post := by
  refine ctH_of (by decide) (Nat.le_of_ble_eq_true rfl) ?_
  show Jg l E (CFc E) (Rm 84 1 6) cL_dale 4 RL (some .int) (fun c => c.exceptionTable.toList = tableOf [(0, 9, 12, 13)]) (QI E post 1 6) 0 0 0 [(0, .ref 0), (1, .int a1), (2, .ref 106)] [] st
  unfold P_L_dale at h
  refine J_aload_n 2 dL_dale_0 rfl rfl ?_
  refine J_iconst 0 dL_dale_1 (by decide) ?_
  refine J_aload_n 0 dL_dale_2 rfl rfl ?_
  refine J_iload_n 1 dL_dale_3 rfl rfl ?_
  refine J_hc (As := [_]) (hh := [(0, 9, 12, 13)]) (fun _ h => h) md_X11_dale k_1303 (rc_obj cl_11 tb_out) rfl rfl ⟨Nat.le_of_ble_eq_true rfl, Nat.le_of_ble_eq_true rfl⟩ ⟨Nat.le_of_ble_eq_true rfl, Nat.le_of_ble_eq_true rfl⟩ (Nat.le_of_ble_eq_true rfl) dL_dale_4 (ct_X11_dale hl0 h) (fun X st1 h => ?_) (fun r st1 h => ?_)
  · obtain ⟨rfl, h⟩ := h
    refine ⟨12, 13, Or.inl ⟨_, _, _, rfl, by decide, by decide, by decide, k_1302, Or.inl rfl⟩, Or.inl ⟨3, dL_dale_12, by decide, rfl⟩, ?_⟩
    refine J_iconst 1 dL_dale_13 (by decide) ?_
    exact J_reti rfl dL_dale_14 h
  · refine J_i2l dL_dale_7 ?_
    refine J_last dL_dale_8 vi_out ?_
    refine J_goto 15 dL_dale_9 (by decide) ?_
    refine J_iconst 0 dL_dale_15 (by decide) ?_
    exact J_reti rfl dL_dale_16 h
def P_L_count (a1 : Int32) (st : St) (post : Int32 → St → Prop) : Prop := P_X11_count 0 a1 st (fun r st1 => post 0 (sL st1 106 0 r.toInt64)) (fun X st1 => X = NSE ∧ post 1 st1)
theorem mdh_L_count : MDh yL_count cL_count 4 (some .int) [(0, 9, 12, 18)] 3 := ⟨k_1311, k_1451, k_1437, by decide, by decide, by decide +kernel⟩
set_option maxRecDepth 100000 in
set_option maxHeartbeats 4000000 in
theorem ct_L_count {l : Launch} {E : En} (hl0 : l.stackTraces = false) {a1 : Int32} {st : St} {post : Int32 → St → Prop} (h : P_L_count a1 st post) : CtH l E (CFc E) 8 1 6 yL_count cL_count 4 (some .int) [(0, 9, 12, 18)] [.ref 0, .int a1, .ref 106] st post := by
  refine ctH_of (by decide) (Nat.le_of_ble_eq_true rfl) ?_
  show Jg l E (CFc E) (Rm 8 1 6) cL_count 4 RL (some .int) (fun c => c.exceptionTable.toList = tableOf [(0, 9, 12, 18)]) (QI E post 1 6) 0 0 0 [(0, .ref 0), (1, .int a1), (2, .ref 106)] [] st
  unfold P_L_count at h
  refine J_aload_n 2 dL_count_0 rfl rfl ?_
  refine J_iconst 0 dL_count_1 (by decide) ?_
  refine J_aload_n 0 dL_count_2 rfl rfl ?_
  refine J_iload_n 1 dL_count_3 rfl rfl ?_
  refine J_hc (As := [_]) (hh := [(0, 9, 12, 18)]) (fun _ h => h) md_X11_count k_1308 (rc_obj cl_11 tb_out) rfl rfl ⟨Nat.le_of_ble_eq_true rfl, Nat.le_of_ble_eq_true rfl⟩ ⟨Nat.le_of_ble_eq_true rfl, Nat.le_of_ble_eq_true rfl⟩ (Nat.le_of_ble_eq_true rfl) dL_count_4 (ct_X11_count hl0 h) (fun X st1 h => ?_) (fun r st1 h => ?_)
  · obtain ⟨rfl, h⟩ := h
    refine ⟨12, 13, Or.inl ⟨_, _, _, rfl, by decide, by decide, by decide, k_1307, Or.inr rfl⟩, Or.inl ⟨3, dL_count_12, by decide, rfl⟩, ?_⟩
    refine J_iconst 1 dL_count_13 (by decide) ?_
    exact J_reti rfl dL_count_14 h
  · refine J_i2l dL_count_7 ?_
    refine J_last dL_count_8 vi_out ?_
    refine J_goto 15 dL_count_9 (by decide) ?_
    refine J_iconst 0 dL_count_15 (by decide) ?_
    exact J_reti rfl dL_count_16 h
def P_L_person (a1 : Int32) (a2 : Int32) (st : St) (post : Int32 → St → Prop) : Prop := P_X11_person 0 a1 a2 st (fun r st1 => post 0 (sL st1 106 0 r.toInt64)) (fun X st1 => X = NSE ∧ post 1 st1)
theorem mdh_L_person : MDh yL_person cL_person 5 (some .int) [(0, 10, 13, 18)] 4 := ⟨k_1315, k_1456, k_1437, by decide, by decide, by decide +kernel⟩
set_option maxRecDepth 100000 in
set_option maxHeartbeats 4000000 in
theorem ct_L_person {l : Launch} {E : En} (hl0 : l.stackTraces = false) {a1 : Int32} {a2 : Int32} {st : St} {post : Int32 → St → Prop} (h : P_L_person a1 a2 st post) : CtH l E (CFc E) 8 2 12 yL_person cL_person 5 (some .int) [(0, 10, 13, 18)] [.ref 0, .int a1, .int a2, .ref 106] st post := by
  refine ctH_of (by decide) (Nat.le_of_ble_eq_true rfl) ?_
  show Jg l E (CFc E) (Rm 8 2 12) cL_person 5 RL (some .int) (fun c => c.exceptionTable.toList = tableOf [(0, 10, 13, 18)]) (QI E post 2 12) 0 0 0 [(0, .ref 0), (1, .int a1), (2, .int a2), (3, .ref 106)] [] st
  unfold P_L_person at h
  refine J_aload_n 3 dL_person_0 rfl rfl ?_
  refine J_iconst 0 dL_person_1 (by decide) ?_
  refine J_aload_n 0 dL_person_2 rfl rfl ?_
  refine J_iload_n 1 dL_person_3 rfl rfl ?_
  refine J_iload_n 2 dL_person_4 rfl rfl ?_
  refine J_hc (As := [_, _]) (hh := [(0, 10, 13, 18)]) (fun _ h => h) md_X11_person k_1312 (rc_obj cl_11 tb_out) rfl rfl ⟨Nat.le_of_ble_eq_true rfl, Nat.le_of_ble_eq_true rfl⟩ ⟨Nat.le_of_ble_eq_true rfl, Nat.le_of_ble_eq_true rfl⟩ (Nat.le_of_ble_eq_true rfl) dL_person_5 (ct_X11_person hl0 h) (fun X st1 h => ?_) (fun r st1 h => ?_)
  · obtain ⟨rfl, h⟩ := h
    refine ⟨13, 15, Or.inl ⟨_, _, _, rfl, by decide, by decide, by decide, k_1307, Or.inr rfl⟩, Or.inr ⟨4, dL_person_13, by decide, rfl⟩, ?_⟩
    refine J_iconst 1 dL_person_15 (by decide) ?_
    exact J_reti rfl dL_person_16 h
  · refine J_i2l dL_person_8 ?_
    refine J_last dL_person_9 vi_out ?_
    refine J_goto 17 dL_person_10 (by decide) ?_
    refine J_iconst 0 dL_person_17 (by decide) ?_
    exact J_reti rfl dL_person_18 h
def P_L_bride (a1 : Int32) (a2 : Int32) (st : St) (post : Int32 → St → Prop) : Prop := P_X11_bride 0 a1 a2 st (fun r st1 => post 0 (sL st1 106 0 r.toInt64)) (fun X st1 => X = NSE ∧ post 1 st1)
theorem mdh_L_bride : MDh yL_bride cL_bride 5 (some .int) [(0, 10, 13, 18)] 4 := ⟨k_1319, k_1461, k_1437, by decide, by decide, by decide +kernel⟩
set_option maxRecDepth 100000 in
set_option maxHeartbeats 4000000 in
theorem ct_L_bride {l : Launch} {E : En} (hl0 : l.stackTraces = false) {a1 : Int32} {a2 : Int32} {st : St} {post : Int32 → St → Prop} (h : P_L_bride a1 a2 st post) : CtH l E (CFc E) 8 2 12 yL_bride cL_bride 5 (some .int) [(0, 10, 13, 18)] [.ref 0, .int a1, .int a2, .ref 106] st post := by
  refine ctH_of (by decide) (Nat.le_of_ble_eq_true rfl) ?_
  show Jg l E (CFc E) (Rm 8 2 12) cL_bride 5 RL (some .int) (fun c => c.exceptionTable.toList = tableOf [(0, 10, 13, 18)]) (QI E post 2 12) 0 0 0 [(0, .ref 0), (1, .int a1), (2, .int a2), (3, .ref 106)] [] st
  unfold P_L_bride at h
  refine J_aload_n 3 dL_bride_0 rfl rfl ?_
  refine J_iconst 0 dL_bride_1 (by decide) ?_
  refine J_aload_n 0 dL_bride_2 rfl rfl ?_
  refine J_iload_n 1 dL_bride_3 rfl rfl ?_
  refine J_iload_n 2 dL_bride_4 rfl rfl ?_
  refine J_hc (As := [_, _]) (hh := [(0, 10, 13, 18)]) (fun _ h => h) md_X11_bride k_1316 (rc_obj cl_11 tb_out) rfl rfl ⟨Nat.le_of_ble_eq_true rfl, Nat.le_of_ble_eq_true rfl⟩ ⟨Nat.le_of_ble_eq_true rfl, Nat.le_of_ble_eq_true rfl⟩ (Nat.le_of_ble_eq_true rfl) dL_bride_5 (ct_X11_bride hl0 h) (fun X st1 h => ?_) (fun r st1 h => ?_)
  · obtain ⟨rfl, h⟩ := h
    refine ⟨13, 15, Or.inl ⟨_, _, _, rfl, by decide, by decide, by decide, k_1307, Or.inr rfl⟩, Or.inr ⟨4, dL_bride_13, by decide, rfl⟩, ?_⟩
    refine J_iconst 1 dL_bride_15 (by decide) ?_
    exact J_reti rfl dL_bride_16 h
  · refine J_i2l dL_bride_8 ?_
    refine J_last dL_bride_9 vi_out ?_
    refine J_goto 17 dL_bride_10 (by decide) ?_
    refine J_iconst 0 dL_bride_17 (by decide) ?_
    exact J_reti rfl dL_bride_18 h
def P_L_years (a1 : Int32) (a2 : Int32) (st : St) (post : Int32 → St → Prop) : Prop := P_X11_years 0 a1 a2 st (fun r st1 => post 0 (sL st1 106 0 r.toInt64)) (fun X st1 => X = NSE ∧ post 1 st1)
theorem mdh_L_years : MDh yL_years cL_years 5 (some .int) [(0, 10, 13, 18)] 4 := ⟨k_1323, k_1466, k_1437, by decide, by decide, by decide +kernel⟩
set_option maxRecDepth 100000 in
set_option maxHeartbeats 4000000 in
theorem ct_L_years {l : Launch} {E : En} (hl0 : l.stackTraces = false) {a1 : Int32} {a2 : Int32} {st : St} {post : Int32 → St → Prop} (h : P_L_years a1 a2 st post) : CtH l E (CFc E) 8 2 12 yL_years cL_years 5 (some .int) [(0, 10, 13, 18)] [.ref 0, .int a1, .int a2, .ref 106] st post := by
  refine ctH_of (by decide) (Nat.le_of_ble_eq_true rfl) ?_
  show Jg l E (CFc E) (Rm 8 2 12) cL_years 5 RL (some .int) (fun c => c.exceptionTable.toList = tableOf [(0, 10, 13, 18)]) (QI E post 2 12) 0 0 0 [(0, .ref 0), (1, .int a1), (2, .int a2), (3, .ref 106)] [] st
  unfold P_L_years at h
  refine J_aload_n 3 dL_years_0 rfl rfl ?_
  refine J_iconst 0 dL_years_1 (by decide) ?_
  refine J_aload_n 0 dL_years_2 rfl rfl ?_
  refine J_iload_n 1 dL_years_3 rfl rfl ?_
  refine J_iload_n 2 dL_years_4 rfl rfl ?_
  refine J_hc (As := [_, _]) (hh := [(0, 10, 13, 18)]) (fun _ h => h) md_X11_years k_1320 (rc_obj cl_11 tb_out) rfl rfl ⟨Nat.le_of_ble_eq_true rfl, Nat.le_of_ble_eq_true rfl⟩ ⟨Nat.le_of_ble_eq_true rfl, Nat.le_of_ble_eq_true rfl⟩ (Nat.le_of_ble_eq_true rfl) dL_years_5 (ct_X11_years hl0 h) (fun X st1 h => ?_) (fun r st1 h => ?_)
  · obtain ⟨rfl, h⟩ := h
    refine ⟨13, 15, Or.inl ⟨_, _, _, rfl, by decide, by decide, by decide, k_1307, Or.inr rfl⟩, Or.inr ⟨4, dL_years_13, by decide, rfl⟩, ?_⟩
    refine J_iconst 1 dL_years_15 (by decide) ?_
    exact J_reti rfl dL_years_16 h
  · refine J_i2l dL_years_8 ?_
    refine J_last dL_years_9 vi_out ?_
    refine J_goto 17 dL_years_10 (by decide) ?_
    refine J_iconst 0 dL_years_17 (by decide) ?_
    exact J_reti rfl dL_years_18 h
def P_L_weight (a1 : Int32) (a2 : Int32) (st : St) (post : Int32 → St → Prop) : Prop := P_X11_weight 0 a1 a2 st (fun r st1 => post 0 (sL st1 106 0 r.toInt64)) (fun X st1 => X = NSE ∧ post 1 st1)
theorem mdh_L_weight : MDh yL_weight cL_weight 5 (some .int) [(0, 10, 13, 18)] 4 := ⟨k_1327, k_1471, k_1437, by decide, by decide, by decide +kernel⟩
set_option maxRecDepth 100000 in
set_option maxHeartbeats 4000000 in
theorem ct_L_weight {l : Launch} {E : En} (hl0 : l.stackTraces = false) {a1 : Int32} {a2 : Int32} {st : St} {post : Int32 → St → Prop} (h : P_L_weight a1 a2 st post) : CtH l E (CFc E) 8 2 12 yL_weight cL_weight 5 (some .int) [(0, 10, 13, 18)] [.ref 0, .int a1, .int a2, .ref 106] st post := by
  refine ctH_of (by decide) (Nat.le_of_ble_eq_true rfl) ?_
  show Jg l E (CFc E) (Rm 8 2 12) cL_weight 5 RL (some .int) (fun c => c.exceptionTable.toList = tableOf [(0, 10, 13, 18)]) (QI E post 2 12) 0 0 0 [(0, .ref 0), (1, .int a1), (2, .int a2), (3, .ref 106)] [] st
  unfold P_L_weight at h
  refine J_aload_n 3 dL_weight_0 rfl rfl ?_
  refine J_iconst 0 dL_weight_1 (by decide) ?_
  refine J_aload_n 0 dL_weight_2 rfl rfl ?_
  refine J_iload_n 1 dL_weight_3 rfl rfl ?_
  refine J_iload_n 2 dL_weight_4 rfl rfl ?_
  refine J_hc (As := [_, _]) (hh := [(0, 10, 13, 18)]) (fun _ h => h) md_X11_weight k_1324 (rc_obj cl_11 tb_out) rfl rfl ⟨Nat.le_of_ble_eq_true rfl, Nat.le_of_ble_eq_true rfl⟩ ⟨Nat.le_of_ble_eq_true rfl, Nat.le_of_ble_eq_true rfl⟩ (Nat.le_of_ble_eq_true rfl) dL_weight_5 (ct_X11_weight hl0 h) (fun X st1 h => ?_) (fun r st1 h => ?_)
  · obtain ⟨rfl, h⟩ := h
    refine ⟨13, 15, Or.inl ⟨_, _, _, rfl, by decide, by decide, by decide, k_1307, Or.inr rfl⟩, Or.inr ⟨4, dL_weight_13, by decide, rfl⟩, ?_⟩
    refine J_iconst 1 dL_weight_15 (by decide) ?_
    exact J_reti rfl dL_weight_16 h
  · refine J_i2l dL_weight_8 ?_
    refine J_last dL_weight_9 vi_out ?_
    refine J_goto 17 dL_weight_10 (by decide) ?_
    refine J_iconst 0 dL_weight_17 (by decide) ?_
    exact J_reti rfl dL_weight_18 h
def P_L_train (a1 : Int32) (a2 : Int32) (st : St) (post : Int32 → St → Prop) : Prop := P_X11_train 0 a1 a2 st (fun r st1 => post 0 (sL st1 106 0 r.toInt64)) (fun X st1 => X = NSE ∧ post 1 st1)
theorem mdh_L_train : MDh yL_train cL_train 5 (some .int) [(0, 10, 13, 18)] 4 := ⟨k_1331, k_1482, k_1437, by decide, by decide, by decide +kernel⟩
set_option maxRecDepth 100000 in
set_option maxHeartbeats 4000000 in
theorem ct_L_train {l : Launch} {E : En} (hl0 : l.stackTraces = false) {a1 : Int32} {a2 : Int32} {st : St} {post : Int32 → St → Prop} (h : P_L_train a1 a2 st post) : CtH l E (CFc E) 8 1 6 yL_train cL_train 5 (some .int) [(0, 10, 13, 18)] [.ref 0, .int a1, .int a2, .ref 106] st post := by
  refine ctH_of (by decide) (Nat.le_of_ble_eq_true rfl) ?_
  show Jg l E (CFc E) (Rm 8 1 6) cL_train 5 RL (some .int) (fun c => c.exceptionTable.toList = tableOf [(0, 10, 13, 18)]) (QI E post 1 6) 0 0 0 [(0, .ref 0), (1, .int a1), (2, .int a2), (3, .ref 106)] [] st
  unfold P_L_train at h
  refine J_aload_n 3 dL_train_0 rfl rfl ?_
  refine J_iconst 0 dL_train_1 (by decide) ?_
  refine J_aload_n 0 dL_train_2 rfl rfl ?_
  refine J_iload_n 1 dL_train_3 rfl rfl ?_
  refine J_iload_n 2 dL_train_4 rfl rfl ?_
  refine J_hc (As := [_, _]) (hh := [(0, 10, 13, 18)]) (fun _ h => h) md_X11_train k_1328 (rc_obj cl_11 tb_out) rfl rfl ⟨Nat.le_of_ble_eq_true rfl, Nat.le_of_ble_eq_true rfl⟩ ⟨Nat.le_of_ble_eq_true rfl, Nat.le_of_ble_eq_true rfl⟩ (Nat.le_of_ble_eq_true rfl) dL_train_5 (ct_X11_train hl0 h) (fun X st1 h => ?_) (fun r st1 h => ?_)
  · obtain ⟨rfl, h⟩ := h
    refine ⟨13, 15, Or.inl ⟨_, _, _, rfl, by decide, by decide, by decide, k_1307, Or.inr rfl⟩, Or.inr ⟨4, dL_train_13, by decide, rfl⟩, ?_⟩
    refine J_iconst 1 dL_train_15 (by decide) ?_
    exact J_reti rfl dL_train_16 h
  · refine J_i2l dL_train_8 ?_
    refine J_last dL_train_9 vi_out ?_
    refine J_goto 17 dL_train_10 (by decide) ?_
    refine J_iconst 0 dL_train_17 (by decide) ?_
    exact J_reti rfl dL_train_18 h
def P_L_onions (a1 : Int32) (a2 : Int32) (st : St) (post : Int32 → St → Prop) : Prop := P_X11_onions 0 a1 a2 st (fun r st1 => post 0 (sL st1 106 0 r.toInt64)) (fun X st1 => X = NSE ∧ post 1 st1)
theorem mdh_L_onions : MDh yL_onions cL_onions 5 (some .int) [(0, 10, 13, 18)] 4 := ⟨k_1335, k_1487, k_1437, by decide, by decide, by decide +kernel⟩
set_option maxRecDepth 100000 in
set_option maxHeartbeats 4000000 in
theorem ct_L_onions {l : Launch} {E : En} (hl0 : l.stackTraces = false) {a1 : Int32} {a2 : Int32} {st : St} {post : Int32 → St → Prop} (h : P_L_onions a1 a2 st post) : CtH l E (CFc E) 8 1 6 yL_onions cL_onions 5 (some .int) [(0, 10, 13, 18)] [.ref 0, .int a1, .int a2, .ref 106] st post := by
  refine ctH_of (by decide) (Nat.le_of_ble_eq_true rfl) ?_
  show Jg l E (CFc E) (Rm 8 1 6) cL_onions 5 RL (some .int) (fun c => c.exceptionTable.toList = tableOf [(0, 10, 13, 18)]) (QI E post 1 6) 0 0 0 [(0, .ref 0), (1, .int a1), (2, .int a2), (3, .ref 106)] [] st
  unfold P_L_onions at h
  refine J_aload_n 3 dL_onions_0 rfl rfl ?_
  refine J_iconst 0 dL_onions_1 (by decide) ?_
  refine J_aload_n 0 dL_onions_2 rfl rfl ?_
  refine J_iload_n 1 dL_onions_3 rfl rfl ?_
  refine J_iload_n 2 dL_onions_4 rfl rfl ?_
  refine J_hc (As := [_, _]) (hh := [(0, 10, 13, 18)]) (fun _ h => h) md_X11_onions k_1332 (rc_obj cl_11 tb_out) rfl rfl ⟨Nat.le_of_ble_eq_true rfl, Nat.le_of_ble_eq_true rfl⟩ ⟨Nat.le_of_ble_eq_true rfl, Nat.le_of_ble_eq_true rfl⟩ (Nat.le_of_ble_eq_true rfl) dL_onions_5 (ct_X11_onions hl0 h) (fun X st1 h => ?_) (fun r st1 h => ?_)
  · obtain ⟨rfl, h⟩ := h
    refine ⟨13, 15, Or.inl ⟨_, _, _, rfl, by decide, by decide, by decide, k_1307, Or.inr rfl⟩, Or.inr ⟨4, dL_onions_13, by decide, rfl⟩, ?_⟩
    refine J_iconst 1 dL_onions_15 (by decide) ?_
    exact J_reti rfl dL_onions_16 h
  · refine J_i2l dL_onions_8 ?_
    refine J_last dL_onions_9 vi_out ?_
    refine J_goto 17 dL_onions_10 (by decide) ?_
    refine J_iconst 0 dL_onions_17 (by decide) ?_
    exact J_reti rfl dL_onions_18 h
def P_L_putOff (a1 : Int32) (a2 : Int32) (st : St) (post : Int32 → St → Prop) : Prop := P_X11_putOff 0 a1 a2 st (fun r st1 => post 0 (sL st1 106 0 r.toInt64)) (fun X st1 => X = NSE ∧ post 1 st1)
theorem mdh_L_putOff : MDh yL_putOff cL_putOff 5 (some .int) [(0, 10, 13, 18)] 4 := ⟨k_1339, k_1492, k_1437, by decide, by decide, by decide +kernel⟩
set_option maxRecDepth 100000 in
set_option maxHeartbeats 4000000 in
theorem ct_L_putOff {l : Launch} {E : En} (hl0 : l.stackTraces = false) {a1 : Int32} {a2 : Int32} {st : St} {post : Int32 → St → Prop} (h : P_L_putOff a1 a2 st post) : CtH l E (CFc E) 8 1 6 yL_putOff cL_putOff 5 (some .int) [(0, 10, 13, 18)] [.ref 0, .int a1, .int a2, .ref 106] st post := by
  refine ctH_of (by decide) (Nat.le_of_ble_eq_true rfl) ?_
  show Jg l E (CFc E) (Rm 8 1 6) cL_putOff 5 RL (some .int) (fun c => c.exceptionTable.toList = tableOf [(0, 10, 13, 18)]) (QI E post 1 6) 0 0 0 [(0, .ref 0), (1, .int a1), (2, .int a2), (3, .ref 106)] [] st
  unfold P_L_putOff at h
  refine J_aload_n 3 dL_putOff_0 rfl rfl ?_
  refine J_iconst 0 dL_putOff_1 (by decide) ?_
  refine J_aload_n 0 dL_putOff_2 rfl rfl ?_
  refine J_iload_n 1 dL_putOff_3 rfl rfl ?_
  refine J_iload_n 2 dL_putOff_4 rfl rfl ?_
  refine J_hc (As := [_, _]) (hh := [(0, 10, 13, 18)]) (fun _ h => h) md_X11_putOff k_1336 (rc_obj cl_11 tb_out) rfl rfl ⟨Nat.le_of_ble_eq_true rfl, Nat.le_of_ble_eq_true rfl⟩ ⟨Nat.le_of_ble_eq_true rfl, Nat.le_of_ble_eq_true rfl⟩ (Nat.le_of_ble_eq_true rfl) dL_putOff_5 (ct_X11_putOff hl0 h) (fun X st1 h => ?_) (fun r st1 h => ?_)
  · obtain ⟨rfl, h⟩ := h
    refine ⟨13, 15, Or.inl ⟨_, _, _, rfl, by decide, by decide, by decide, k_1307, Or.inr rfl⟩, Or.inr ⟨4, dL_putOff_13, by decide, rfl⟩, ?_⟩
    refine J_iconst 1 dL_putOff_15 (by decide) ?_
    exact J_reti rfl dL_putOff_16 h
  · refine J_i2l dL_putOff_8 ?_
    refine J_last dL_putOff_9 vi_out ?_
    refine J_goto 17 dL_putOff_10 (by decide) ?_
    refine J_iconst 0 dL_putOff_17 (by decide) ?_
    exact J_reti rfl dL_putOff_18 h
def P_L_tie (a1 : Int32) (a2 : Int32) (a3 : Int32) (st : St) (post : Int32 → St → Prop) : Prop := P_X11_tie 0 a1 a2 a3 st (fun r st1 => post 0 (sL st1 106 0 r.toInt64)) (fun X st1 => X = NSE ∧ post 1 st1)
theorem mdh_L_tie : MDh yL_tie cL_tie 6 (some .int) [(0, 12, 15, 18)] 5 := ⟨k_1343, k_1497, k_1437, by decide, by decide, by decide +kernel⟩
set_option maxRecDepth 100000 in
set_option maxHeartbeats 4000000 in
theorem ct_L_tie {l : Launch} {E : En} (hl0 : l.stackTraces = false) {a1 : Int32} {a2 : Int32} {a3 : Int32} {st : St} {post : Int32 → St → Prop} (h : P_L_tie a1 a2 a3 st post) : CtH l E (CFc E) 8 2 12 yL_tie cL_tie 6 (some .int) [(0, 12, 15, 18)] [.ref 0, .int a1, .int a2, .int a3, .ref 106] st post := by
  refine ctH_of (by decide) (Nat.le_of_ble_eq_true rfl) ?_
  show Jg l E (CFc E) (Rm 8 2 12) cL_tie 6 RL (some .int) (fun c => c.exceptionTable.toList = tableOf [(0, 12, 15, 18)]) (QI E post 2 12) 0 0 0 [(0, .ref 0), (1, .int a1), (2, .int a2), (3, .int a3), (4, .ref 106)] [] st
  unfold P_L_tie at h
  refine J_aload 4 dL_tie_0 rfl ?_
  refine J_iconst 0 dL_tie_2 (by decide) ?_
  refine J_aload_n 0 dL_tie_3 rfl rfl ?_
  refine J_iload_n 1 dL_tie_4 rfl rfl ?_
  refine J_iload_n 2 dL_tie_5 rfl rfl ?_
  refine J_iload_n 3 dL_tie_6 rfl rfl ?_
  refine J_hc (As := [_, _, _]) (hh := [(0, 12, 15, 18)]) (fun _ h => h) md_X11_tie k_1340 (rc_obj cl_11 tb_out) rfl rfl ⟨Nat.le_of_ble_eq_true rfl, Nat.le_of_ble_eq_true rfl⟩ ⟨Nat.le_of_ble_eq_true rfl, Nat.le_of_ble_eq_true rfl⟩ (Nat.le_of_ble_eq_true rfl) dL_tie_7 (ct_X11_tie hl0 h) (fun X st1 h => ?_) (fun r st1 h => ?_)
  · obtain ⟨rfl, h⟩ := h
    refine ⟨15, 17, Or.inl ⟨_, _, _, rfl, by decide, by decide, by decide, k_1307, Or.inr rfl⟩, Or.inr ⟨5, dL_tie_15, by decide, rfl⟩, ?_⟩
    refine J_iconst 1 dL_tie_17 (by decide) ?_
    exact J_reti rfl dL_tie_18 h
  · refine J_i2l dL_tie_10 ?_
    refine J_last dL_tie_11 vi_out ?_
    refine J_goto 19 dL_tie_12 (by decide) ?_
    refine J_iconst 0 dL_tie_19 (by decide) ?_
    exact J_reti rfl dL_tie_20 h
def P_L_leader (a1 : Int32) (st : St) (post : Int32 → St → Prop) : Prop := P_X11_leader 0 a1 st (fun r st1 => post 0 (sL st1 106 0 r.toInt64)) (fun X st1 => X = NSE ∧ post 1 st1)
theorem mdh_L_leader : MDh yL_leader cL_leader 4 (some .int) [(0, 9, 12, 18)] 3 := ⟨k_1347, k_1508, k_1437, by decide, by decide, by decide +kernel⟩
set_option maxRecDepth 100000 in
set_option maxHeartbeats 4000000 in
theorem ct_L_leader {l : Launch} {E : En} (hl0 : l.stackTraces = false) {a1 : Int32} {st : St} {post : Int32 → St → Prop} (h : P_L_leader a1 st post) : CtH l E (CFc E) 9 1 6 yL_leader cL_leader 4 (some .int) [(0, 9, 12, 18)] [.ref 0, .int a1, .ref 106] st post := by
  refine ctH_of (by decide) (Nat.le_of_ble_eq_true rfl) ?_
  show Jg l E (CFc E) (Rm 9 1 6) cL_leader 4 RL (some .int) (fun c => c.exceptionTable.toList = tableOf [(0, 9, 12, 18)]) (QI E post 1 6) 0 0 0 [(0, .ref 0), (1, .int a1), (2, .ref 106)] [] st
  unfold P_L_leader at h
  refine J_aload_n 2 dL_leader_0 rfl rfl ?_
  refine J_iconst 0 dL_leader_1 (by decide) ?_
  refine J_aload_n 0 dL_leader_2 rfl rfl ?_
  refine J_iload_n 1 dL_leader_3 rfl rfl ?_
  refine J_hc (As := [_]) (hh := [(0, 9, 12, 18)]) (fun _ h => h) md_X11_leader k_1344 (rc_obj cl_11 tb_out) rfl rfl ⟨Nat.le_of_ble_eq_true rfl, Nat.le_of_ble_eq_true rfl⟩ ⟨Nat.le_of_ble_eq_true rfl, Nat.le_of_ble_eq_true rfl⟩ (Nat.le_of_ble_eq_true rfl) dL_leader_4 (ct_X11_leader hl0 h) (fun X st1 h => ?_) (fun r st1 h => ?_)
  · obtain ⟨rfl, h⟩ := h
    refine ⟨12, 13, Or.inl ⟨_, _, _, rfl, by decide, by decide, by decide, k_1307, Or.inr rfl⟩, Or.inl ⟨3, dL_leader_12, by decide, rfl⟩, ?_⟩
    refine J_iconst 1 dL_leader_13 (by decide) ?_
    exact J_reti rfl dL_leader_14 h
  · refine J_i2l dL_leader_7 ?_
    refine J_last dL_leader_8 vi_out ?_
    refine J_goto 15 dL_leader_9 (by decide) ?_
    refine J_iconst 0 dL_leader_15 (by decide) ?_
    exact J_reti rfl dL_leader_16 h
def P_L_then (a1 : Int32) (a2 : Int32) (st : St) (post : Int32 → St → Prop) : Prop := P_X11_then 0 a1 a2 st (fun r st1 => post 0 (sL st1 106 0 r.toInt64)) (fun X st1 => (X = NSE ∧ post 1 st1) ∨ (X = IAE ∧ post 2 st1))
theorem mdh_L_then : MDh yL_then cL_then 5 (some .int) [(0, 10, 13, 18), (0, 10, 17, 13)] 4 := ⟨k_1351, k_1513, k_1437, by decide, by decide, by decide +kernel⟩
set_option maxRecDepth 100000 in
set_option maxHeartbeats 4000000 in
theorem ct_L_then {l : Launch} {E : En} (hl0 : l.stackTraces = false) {a1 : Int32} {a2 : Int32} {st : St} {post : Int32 → St → Prop} (h : P_L_then a1 a2 st post) : CtH l E (CFc E) 8 2 12 yL_then cL_then 5 (some .int) [(0, 10, 13, 18), (0, 10, 17, 13)] [.ref 0, .int a1, .int a2, .ref 106] st post := by
  refine ctH_of (by decide) (Nat.le_of_ble_eq_true rfl) ?_
  show Jg l E (CFc E) (Rm 8 2 12) cL_then 5 RL (some .int) (fun c => c.exceptionTable.toList = tableOf [(0, 10, 13, 18), (0, 10, 17, 13)]) (QI E post 2 12) 0 0 0 [(0, .ref 0), (1, .int a1), (2, .int a2), (3, .ref 106)] [] st
  unfold P_L_then at h
  refine J_aload_n 3 dL_then_0 rfl rfl ?_
  refine J_iconst 0 dL_then_1 (by decide) ?_
  refine J_aload_n 0 dL_then_2 rfl rfl ?_
  refine J_iload_n 1 dL_then_3 rfl rfl ?_
  refine J_iload_n 2 dL_then_4 rfl rfl ?_
  refine J_hc (As := [_, _]) (hh := [(0, 10, 13, 18), (0, 10, 17, 13)]) (fun _ h => h) md_X11_then k_1348 (rc_obj cl_11 tb_out) rfl rfl ⟨Nat.le_of_ble_eq_true rfl, Nat.le_of_ble_eq_true rfl⟩ ⟨Nat.le_of_ble_eq_true rfl, Nat.le_of_ble_eq_true rfl⟩ (Nat.le_of_ble_eq_true rfl) dL_then_5 (ct_X11_then hl0 h) (fun X st1 h => ?_) (fun r st1 h => ?_)
  · rcases h with ⟨rfl, h⟩ | ⟨rfl, h⟩
    · refine ⟨13, 15, Or.inr (Or.inl ⟨_, _, _, _, rfl, by decide, by decide, by decide, k_1307, rfl⟩), Or.inr ⟨4, dL_then_13, by decide, rfl⟩, ?_⟩
      refine J_iconst 1 dL_then_15 (by decide) ?_
      exact J_reti rfl dL_then_16 h
    · refine ⟨17, 19, Or.inr (Or.inr ⟨_, _, _, _, _, _, _, rfl, by decide, by decide, by decide, by decide, k_1307, k_1302, rfl⟩), Or.inr ⟨4, dL_then_17, by decide, rfl⟩, ?_⟩
      refine J_iconst 2 dL_then_19 (by decide) ?_
      exact J_reti rfl dL_then_20 h
  · refine J_i2l dL_then_8 ?_
    refine J_last dL_then_9 vi_out ?_
    refine J_goto 21 dL_then_10 (by decide) ?_
    refine J_iconst 0 dL_then_21 (by decide) ?_
    exact J_reti rfl dL_then_22 h
def P_L_led (a1 : Int32) (a2 : Int32) (st : St) (post : Int32 → St → Prop) : Prop := P_X11_led 0 a1 a2 st (fun r st1 => post 0 (sL st1 106 0 r.toInt64)) (fun X st1 => (X = NSE ∧ post 1 st1) ∨ (X = IAE ∧ post 2 st1))
theorem mdh_L_led : MDh yL_led cL_led 5 (some .int) [(0, 10, 13, 18), (0, 10, 17, 13)] 4 := ⟨k_1355, k_1518, k_1437, by decide, by decide, by decide +kernel⟩
set_option maxRecDepth 100000 in
set_option maxHeartbeats 4000000 in
theorem ct_L_led {l : Launch} {E : En} (hl0 : l.stackTraces = false) {a1 : Int32} {a2 : Int32} {st : St} {post : Int32 → St → Prop} (h : P_L_led a1 a2 st post) : CtH l E (CFc E) 8 2 12 yL_led cL_led 5 (some .int) [(0, 10, 13, 18), (0, 10, 17, 13)] [.ref 0, .int a1, .int a2, .ref 106] st post := by
  refine ctH_of (by decide) (Nat.le_of_ble_eq_true rfl) ?_
  show Jg l E (CFc E) (Rm 8 2 12) cL_led 5 RL (some .int) (fun c => c.exceptionTable.toList = tableOf [(0, 10, 13, 18), (0, 10, 17, 13)]) (QI E post 2 12) 0 0 0 [(0, .ref 0), (1, .int a1), (2, .int a2), (3, .ref 106)] [] st
  unfold P_L_led at h
  refine J_aload_n 3 dL_led_0 rfl rfl ?_
  refine J_iconst 0 dL_led_1 (by decide) ?_
  refine J_aload_n 0 dL_led_2 rfl rfl ?_
  refine J_iload_n 1 dL_led_3 rfl rfl ?_
  refine J_iload_n 2 dL_led_4 rfl rfl ?_
  refine J_hc (As := [_, _]) (hh := [(0, 10, 13, 18), (0, 10, 17, 13)]) (fun _ h => h) md_X11_led k_1352 (rc_obj cl_11 tb_out) rfl rfl ⟨Nat.le_of_ble_eq_true rfl, Nat.le_of_ble_eq_true rfl⟩ ⟨Nat.le_of_ble_eq_true rfl, Nat.le_of_ble_eq_true rfl⟩ (Nat.le_of_ble_eq_true rfl) dL_led_5 (ct_X11_led hl0 h) (fun X st1 h => ?_) (fun r st1 h => ?_)
  · rcases h with ⟨rfl, h⟩ | ⟨rfl, h⟩
    · refine ⟨13, 15, Or.inr (Or.inl ⟨_, _, _, _, rfl, by decide, by decide, by decide, k_1307, rfl⟩), Or.inr ⟨4, dL_led_13, by decide, rfl⟩, ?_⟩
      refine J_iconst 1 dL_led_15 (by decide) ?_
      exact J_reti rfl dL_led_16 h
    · refine ⟨17, 19, Or.inr (Or.inr ⟨_, _, _, _, _, _, _, rfl, by decide, by decide, by decide, by decide, k_1307, k_1302, rfl⟩), Or.inr ⟨4, dL_led_17, by decide, rfl⟩, ?_⟩
      refine J_iconst 2 dL_led_19 (by decide) ?_
      exact J_reti rfl dL_led_20 h
  · refine J_i2l dL_led_8 ?_
    refine J_last dL_led_9 vi_out ?_
    refine J_goto 21 dL_led_10 (by decide) ?_
    refine J_iconst 0 dL_led_21 (by decide) ?_
    exact J_reti rfl dL_led_22 h
def P_L_rank (a1 : Int32) (a2 : Int32) (st : St) (post : Int32 → St → Prop) : Prop := P_X11_rank 0 a1 a2 st (fun r st1 => post 0 (sL st1 106 0 r.toInt64)) (fun X st1 => X = NSE ∧ post 1 st1)
theorem mdh_L_rank : MDh yL_rank cL_rank 5 (some .int) [(0, 10, 13, 18)] 4 := ⟨k_1359, k_1529, k_1437, by decide, by decide, by decide +kernel⟩
set_option maxRecDepth 100000 in
set_option maxHeartbeats 4000000 in
theorem ct_L_rank {l : Launch} {E : En} (hl0 : l.stackTraces = false) {a1 : Int32} {a2 : Int32} {st : St} {post : Int32 → St → Prop} (h : P_L_rank a1 a2 st post) : CtH l E (CFc E) 8 2 12 yL_rank cL_rank 5 (some .int) [(0, 10, 13, 18)] [.ref 0, .int a1, .int a2, .ref 106] st post := by
  refine ctH_of (by decide) (Nat.le_of_ble_eq_true rfl) ?_
  show Jg l E (CFc E) (Rm 8 2 12) cL_rank 5 RL (some .int) (fun c => c.exceptionTable.toList = tableOf [(0, 10, 13, 18)]) (QI E post 2 12) 0 0 0 [(0, .ref 0), (1, .int a1), (2, .int a2), (3, .ref 106)] [] st
  unfold P_L_rank at h
  refine J_aload_n 3 dL_rank_0 rfl rfl ?_
  refine J_iconst 0 dL_rank_1 (by decide) ?_
  refine J_aload_n 0 dL_rank_2 rfl rfl ?_
  refine J_iload_n 1 dL_rank_3 rfl rfl ?_
  refine J_iload_n 2 dL_rank_4 rfl rfl ?_
  refine J_hc (As := [_, _]) (hh := [(0, 10, 13, 18)]) (fun _ h => h) md_X11_rank k_1356 (rc_obj cl_11 tb_out) rfl rfl ⟨Nat.le_of_ble_eq_true rfl, Nat.le_of_ble_eq_true rfl⟩ ⟨Nat.le_of_ble_eq_true rfl, Nat.le_of_ble_eq_true rfl⟩ (Nat.le_of_ble_eq_true rfl) dL_rank_5 (ct_X11_rank hl0 h) (fun X st1 h => ?_) (fun r st1 h => ?_)
  · obtain ⟨rfl, h⟩ := h
    refine ⟨13, 15, Or.inl ⟨_, _, _, rfl, by decide, by decide, by decide, k_1307, Or.inr rfl⟩, Or.inr ⟨4, dL_rank_13, by decide, rfl⟩, ?_⟩
    refine J_iconst 1 dL_rank_15 (by decide) ?_
    exact J_reti rfl dL_rank_16 h
  · refine J_i2l dL_rank_8 ?_
    refine J_last dL_rank_9 vi_out ?_
    refine J_goto 17 dL_rank_10 (by decide) ?_
    refine J_iconst 0 dL_rank_17 (by decide) ?_
    exact J_reti rfl dL_rank_18 h
def P_L_toTrain (a1 : Int32) (a2 : Int32) (st : St) (post : Int32 → St → Prop) : Prop := P_X11_toTrain 0 a1 a2 st (fun r st1 => post 0 (sL st1 106 0 r.toInt64)) (fun X st1 => X = NSE ∧ post 1 st1)
theorem mdh_L_toTrain : MDh yL_toTrain cL_toTrain 5 (some .int) [(0, 10, 13, 18)] 4 := ⟨k_1363, k_1534, k_1437, by decide, by decide, by decide +kernel⟩
set_option maxRecDepth 100000 in
set_option maxHeartbeats 4000000 in
theorem ct_L_toTrain {l : Launch} {E : En} (hl0 : l.stackTraces = false) {a1 : Int32} {a2 : Int32} {st : St} {post : Int32 → St → Prop} (h : P_L_toTrain a1 a2 st post) : CtH l E (CFc E) 9 2 12 yL_toTrain cL_toTrain 5 (some .int) [(0, 10, 13, 18)] [.ref 0, .int a1, .int a2, .ref 106] st post := by
  refine ctH_of (by decide) (Nat.le_of_ble_eq_true rfl) ?_
  show Jg l E (CFc E) (Rm 9 2 12) cL_toTrain 5 RL (some .int) (fun c => c.exceptionTable.toList = tableOf [(0, 10, 13, 18)]) (QI E post 2 12) 0 0 0 [(0, .ref 0), (1, .int a1), (2, .int a2), (3, .ref 106)] [] st
  unfold P_L_toTrain at h
  refine J_aload_n 3 dL_toTrain_0 rfl rfl ?_
  refine J_iconst 0 dL_toTrain_1 (by decide) ?_
  refine J_aload_n 0 dL_toTrain_2 rfl rfl ?_
  refine J_iload_n 1 dL_toTrain_3 rfl rfl ?_
  refine J_iload_n 2 dL_toTrain_4 rfl rfl ?_
  refine J_hc (As := [_, _]) (hh := [(0, 10, 13, 18)]) (fun _ h => h) md_X11_toTrain k_1360 (rc_obj cl_11 tb_out) rfl rfl ⟨Nat.le_of_ble_eq_true rfl, Nat.le_of_ble_eq_true rfl⟩ ⟨Nat.le_of_ble_eq_true rfl, Nat.le_of_ble_eq_true rfl⟩ (Nat.le_of_ble_eq_true rfl) dL_toTrain_5 (ct_X11_toTrain hl0 h) (fun X st1 h => ?_) (fun r st1 h => ?_)
  · obtain ⟨rfl, h⟩ := h
    refine ⟨13, 15, Or.inl ⟨_, _, _, rfl, by decide, by decide, by decide, k_1307, Or.inr rfl⟩, Or.inr ⟨4, dL_toTrain_13, by decide, rfl⟩, ?_⟩
    refine J_iconst 1 dL_toTrain_15 (by decide) ?_
    exact J_reti rfl dL_toTrain_16 h
  · refine J_i2l dL_toTrain_8 ?_
    refine J_last dL_toTrain_9 vi_out ?_
    refine J_goto 17 dL_toTrain_10 (by decide) ?_
    refine J_iconst 0 dL_toTrain_17 (by decide) ?_
    exact J_reti rfl dL_toTrain_18 h
def P_L_instead (a1 : Int32) (st : St) (post : Int32 → St → Prop) : Prop := P_X11_instead 0 a1 st (fun r st1 => post 0 (sL st1 106 0 r.toInt64)) (fun X st1 => X = NSE ∧ post 1 st1)
theorem mdh_L_instead : MDh yL_instead cL_instead 4 (some .int) [(0, 9, 12, 18)] 3 := ⟨k_1367, k_1539, k_1437, by decide, by decide, by decide +kernel⟩
set_option maxRecDepth 100000 in
set_option maxHeartbeats 4000000 in
theorem ct_L_instead {l : Launch} {E : En} (hl0 : l.stackTraces = false) {a1 : Int32} {st : St} {post : Int32 → St → Prop} (h : P_L_instead a1 st post) : CtH l E (CFc E) 9 1 6 yL_instead cL_instead 4 (some .int) [(0, 9, 12, 18)] [.ref 0, .int a1, .ref 106] st post := by
  refine ctH_of (by decide) (Nat.le_of_ble_eq_true rfl) ?_
  show Jg l E (CFc E) (Rm 9 1 6) cL_instead 4 RL (some .int) (fun c => c.exceptionTable.toList = tableOf [(0, 9, 12, 18)]) (QI E post 1 6) 0 0 0 [(0, .ref 0), (1, .int a1), (2, .ref 106)] [] st
  unfold P_L_instead at h
  refine J_aload_n 2 dL_instead_0 rfl rfl ?_
  refine J_iconst 0 dL_instead_1 (by decide) ?_
  refine J_aload_n 0 dL_instead_2 rfl rfl ?_
  refine J_iload_n 1 dL_instead_3 rfl rfl ?_
  refine J_hc (As := [_]) (hh := [(0, 9, 12, 18)]) (fun _ h => h) md_X11_instead k_1364 (rc_obj cl_11 tb_out) rfl rfl ⟨Nat.le_of_ble_eq_true rfl, Nat.le_of_ble_eq_true rfl⟩ ⟨Nat.le_of_ble_eq_true rfl, Nat.le_of_ble_eq_true rfl⟩ (Nat.le_of_ble_eq_true rfl) dL_instead_4 (ct_X11_instead hl0 h) (fun X st1 h => ?_) (fun r st1 h => ?_)
  · obtain ⟨rfl, h⟩ := h
    refine ⟨12, 13, Or.inl ⟨_, _, _, rfl, by decide, by decide, by decide, k_1307, Or.inr rfl⟩, Or.inl ⟨3, dL_instead_12, by decide, rfl⟩, ?_⟩
    refine J_iconst 1 dL_instead_13 (by decide) ?_
    exact J_reti rfl dL_instead_14 h
  · refine J_i2l dL_instead_7 ?_
    refine J_last dL_instead_8 vi_out ?_
    refine J_goto 15 dL_instead_9 (by decide) ?_
    refine J_iconst 0 dL_instead_15 (by decide) ?_
    exact J_reti rfl dL_instead_16 h
def P_L_bestDay (a1 : Int32) (a2 : Int32) (st : St) (post : Int32 → St → Prop) : Prop := P_X11_bestDay 0 a1 a2 st (fun r st1 => post 0 (sL st1 106 0 r.toInt64)) (fun X st1 => X = NSE ∧ post 1 st1)
theorem mdh_L_bestDay : MDh yL_bestDay cL_bestDay 5 (some .int) [(0, 10, 13, 18)] 4 := ⟨k_1371, k_1544, k_1437, by decide, by decide, by decide +kernel⟩
set_option maxRecDepth 100000 in
set_option maxHeartbeats 4000000 in
theorem ct_L_bestDay {l : Launch} {E : En} (hl0 : l.stackTraces = false) {a1 : Int32} {a2 : Int32} {st : St} {post : Int32 → St → Prop} (h : P_L_bestDay a1 a2 st post) : CtH l E (CFc E) 9 2 12 yL_bestDay cL_bestDay 5 (some .int) [(0, 10, 13, 18)] [.ref 0, .int a1, .int a2, .ref 106] st post := by
  refine ctH_of (by decide) (Nat.le_of_ble_eq_true rfl) ?_
  show Jg l E (CFc E) (Rm 9 2 12) cL_bestDay 5 RL (some .int) (fun c => c.exceptionTable.toList = tableOf [(0, 10, 13, 18)]) (QI E post 2 12) 0 0 0 [(0, .ref 0), (1, .int a1), (2, .int a2), (3, .ref 106)] [] st
  unfold P_L_bestDay at h
  refine J_aload_n 3 dL_bestDay_0 rfl rfl ?_
  refine J_iconst 0 dL_bestDay_1 (by decide) ?_
  refine J_aload_n 0 dL_bestDay_2 rfl rfl ?_
  refine J_iload_n 1 dL_bestDay_3 rfl rfl ?_
  refine J_iload_n 2 dL_bestDay_4 rfl rfl ?_
  refine J_hc (As := [_, _]) (hh := [(0, 10, 13, 18)]) (fun _ h => h) md_X11_bestDay k_1368 (rc_obj cl_11 tb_out) rfl rfl ⟨Nat.le_of_ble_eq_true rfl, Nat.le_of_ble_eq_true rfl⟩ ⟨Nat.le_of_ble_eq_true rfl, Nat.le_of_ble_eq_true rfl⟩ (Nat.le_of_ble_eq_true rfl) dL_bestDay_5 (ct_X11_bestDay hl0 h) (fun X st1 h => ?_) (fun r st1 h => ?_)
  · obtain ⟨rfl, h⟩ := h
    refine ⟨13, 15, Or.inl ⟨_, _, _, rfl, by decide, by decide, by decide, k_1307, Or.inr rfl⟩, Or.inr ⟨4, dL_bestDay_13, by decide, rfl⟩, ?_⟩
    refine J_iconst 1 dL_bestDay_15 (by decide) ?_
    exact J_reti rfl dL_bestDay_16 h
  · refine J_i2l dL_bestDay_8 ?_
    refine J_last dL_bestDay_9 vi_out ?_
    refine J_goto 17 dL_bestDay_10 (by decide) ?_
    refine J_iconst 0 dL_bestDay_17 (by decide) ?_
    exact J_reti rfl dL_bestDay_18 h
def P_L_choice (a1 : Int32) (st : St) (post : Int32 → St → Prop) : Prop := P_X11_choice 0 a1 st (fun r st1 => post 0 (sL st1 106 0 r.toInt64)) (fun X st1 => X = NSE ∧ post 1 st1)
theorem mdh_L_choice : MDh yL_choice cL_choice 4 (some .int) [(0, 9, 12, 18)] 3 := ⟨k_1375, k_1549, k_1437, by decide, by decide, by decide +kernel⟩
set_option maxRecDepth 100000 in
set_option maxHeartbeats 4000000 in
theorem ct_L_choice {l : Launch} {E : En} (hl0 : l.stackTraces = false) {a1 : Int32} {st : St} {post : Int32 → St → Prop} (h : P_L_choice a1 st post) : CtH l E (CFc E) 9 1 6 yL_choice cL_choice 4 (some .int) [(0, 9, 12, 18)] [.ref 0, .int a1, .ref 106] st post := by
  refine ctH_of (by decide) (Nat.le_of_ble_eq_true rfl) ?_
  show Jg l E (CFc E) (Rm 9 1 6) cL_choice 4 RL (some .int) (fun c => c.exceptionTable.toList = tableOf [(0, 9, 12, 18)]) (QI E post 1 6) 0 0 0 [(0, .ref 0), (1, .int a1), (2, .ref 106)] [] st
  unfold P_L_choice at h
  refine J_aload_n 2 dL_choice_0 rfl rfl ?_
  refine J_iconst 0 dL_choice_1 (by decide) ?_
  refine J_aload_n 0 dL_choice_2 rfl rfl ?_
  refine J_iload_n 1 dL_choice_3 rfl rfl ?_
  refine J_hc (As := [_]) (hh := [(0, 9, 12, 18)]) (fun _ h => h) md_X11_choice k_1372 (rc_obj cl_11 tb_out) rfl rfl ⟨Nat.le_of_ble_eq_true rfl, Nat.le_of_ble_eq_true rfl⟩ ⟨Nat.le_of_ble_eq_true rfl, Nat.le_of_ble_eq_true rfl⟩ (Nat.le_of_ble_eq_true rfl) dL_choice_4 (ct_X11_choice hl0 h) (fun X st1 h => ?_) (fun r st1 h => ?_)
  · obtain ⟨rfl, h⟩ := h
    refine ⟨12, 13, Or.inl ⟨_, _, _, rfl, by decide, by decide, by decide, k_1307, Or.inr rfl⟩, Or.inl ⟨3, dL_choice_12, by decide, rfl⟩, ?_⟩
    refine J_iconst 1 dL_choice_13 (by decide) ?_
    exact J_reti rfl dL_choice_14 h
  · refine J_i2l dL_choice_7 ?_
    refine J_last dL_choice_8 vi_out ?_
    refine J_goto 15 dL_choice_9 (by decide) ?_
    refine J_iconst 0 dL_choice_15 (by decide) ?_
    exact J_reti rfl dL_choice_16 h
def P_L_tug (a1 : Int32) (st : St) (post : Int32 → St → Prop) : Prop := P_X11_tug 0 a1 st (fun r st1 => post 0 (sL st1 106 0 r.toInt64)) (fun X st1 => X = NSE ∧ post 1 st1)
theorem mdh_L_tug : MDh yL_tug cL_tug 4 (some .int) [(0, 9, 12, 18)] 3 := ⟨k_1379, k_1560, k_1437, by decide, by decide, by decide +kernel⟩
set_option maxRecDepth 100000 in
set_option maxHeartbeats 4000000 in
theorem ct_L_tug {l : Launch} {E : En} (hl0 : l.stackTraces = false) {a1 : Int32} {st : St} {post : Int32 → St → Prop} (h : P_L_tug a1 st post) : CtH l E (CFc E) 8 1 6 yL_tug cL_tug 4 (some .int) [(0, 9, 12, 18)] [.ref 0, .int a1, .ref 106] st post := by
  refine ctH_of (by decide) (Nat.le_of_ble_eq_true rfl) ?_
  show Jg l E (CFc E) (Rm 8 1 6) cL_tug 4 RL (some .int) (fun c => c.exceptionTable.toList = tableOf [(0, 9, 12, 18)]) (QI E post 1 6) 0 0 0 [(0, .ref 0), (1, .int a1), (2, .ref 106)] [] st
  unfold P_L_tug at h
  refine J_aload_n 2 dL_tug_0 rfl rfl ?_
  refine J_iconst 0 dL_tug_1 (by decide) ?_
  refine J_aload_n 0 dL_tug_2 rfl rfl ?_
  refine J_iload_n 1 dL_tug_3 rfl rfl ?_
  refine J_hc (As := [_]) (hh := [(0, 9, 12, 18)]) (fun _ h => h) md_X11_tug k_1376 (rc_obj cl_11 tb_out) rfl rfl ⟨Nat.le_of_ble_eq_true rfl, Nat.le_of_ble_eq_true rfl⟩ ⟨Nat.le_of_ble_eq_true rfl, Nat.le_of_ble_eq_true rfl⟩ (Nat.le_of_ble_eq_true rfl) dL_tug_4 (ct_X11_tug hl0 h) (fun X st1 h => ?_) (fun r st1 h => ?_)
  · obtain ⟨rfl, h⟩ := h
    refine ⟨12, 13, Or.inl ⟨_, _, _, rfl, by decide, by decide, by decide, k_1307, Or.inr rfl⟩, Or.inl ⟨3, dL_tug_12, by decide, rfl⟩, ?_⟩
    refine J_iconst 1 dL_tug_13 (by decide) ?_
    exact J_reti rfl dL_tug_14 h
  · refine J_i2l dL_tug_7 ?_
    refine J_last dL_tug_8 vi_out ?_
    refine J_goto 15 dL_tug_9 (by decide) ?_
    refine J_iconst 0 dL_tug_15 (by decide) ?_
    exact J_reti rfl dL_tug_16 h
def P_L_decisive (a1 : Int32) (a2 : Int32) (st : St) (post : Int32 → St → Prop) : Prop := P_X11_decisive 0 a1 a2 st (fun r st1 => post 0 (sL st1 106 0 r.toInt64)) (fun X st1 => X = NSE ∧ post 1 st1)
theorem mdh_L_decisive : MDh yL_decisive cL_decisive 5 (some .int) [(0, 10, 13, 18)] 4 := ⟨k_1383, k_1565, k_1437, by decide, by decide, by decide +kernel⟩
set_option maxRecDepth 100000 in
set_option maxHeartbeats 4000000 in
theorem ct_L_decisive {l : Launch} {E : En} (hl0 : l.stackTraces = false) {a1 : Int32} {a2 : Int32} {st : St} {post : Int32 → St → Prop} (h : P_L_decisive a1 a2 st post) : CtH l E (CFc E) 8 2 12 yL_decisive cL_decisive 5 (some .int) [(0, 10, 13, 18)] [.ref 0, .int a1, .int a2, .ref 106] st post := by
  refine ctH_of (by decide) (Nat.le_of_ble_eq_true rfl) ?_
  show Jg l E (CFc E) (Rm 8 2 12) cL_decisive 5 RL (some .int) (fun c => c.exceptionTable.toList = tableOf [(0, 10, 13, 18)]) (QI E post 2 12) 0 0 0 [(0, .ref 0), (1, .int a1), (2, .int a2), (3, .ref 106)] [] st
  unfold P_L_decisive at h
  refine J_aload_n 3 dL_decisive_0 rfl rfl ?_
  refine J_iconst 0 dL_decisive_1 (by decide) ?_
  refine J_aload_n 0 dL_decisive_2 rfl rfl ?_
  refine J_iload_n 1 dL_decisive_3 rfl rfl ?_
  refine J_iload_n 2 dL_decisive_4 rfl rfl ?_
  refine J_hc (As := [_, _]) (hh := [(0, 10, 13, 18)]) (fun _ h => h) md_X11_decisive k_1380 (rc_obj cl_11 tb_out) rfl rfl ⟨Nat.le_of_ble_eq_true rfl, Nat.le_of_ble_eq_true rfl⟩ ⟨Nat.le_of_ble_eq_true rfl, Nat.le_of_ble_eq_true rfl⟩ (Nat.le_of_ble_eq_true rfl) dL_decisive_5 (ct_X11_decisive hl0 h) (fun X st1 h => ?_) (fun r st1 h => ?_)
  · obtain ⟨rfl, h⟩ := h
    refine ⟨13, 15, Or.inl ⟨_, _, _, rfl, by decide, by decide, by decide, k_1307, Or.inr rfl⟩, Or.inr ⟨4, dL_decisive_13, by decide, rfl⟩, ?_⟩
    refine J_iconst 1 dL_decisive_15 (by decide) ?_
    exact J_reti rfl dL_decisive_16 h
  · refine J_i2l dL_decisive_8 ?_
    refine J_last dL_decisive_9 vi_out ?_
    refine J_goto 17 dL_decisive_10 (by decide) ?_
    refine J_iconst 0 dL_decisive_17 (by decide) ?_
    exact J_reti rfl dL_decisive_18 h
def P_L_steps (a1 : Int32) (a2 : Int32) (st : St) (post : Int32 → St → Prop) : Prop := P_X11_steps 0 a1 a2 st (fun r st1 => post 0 (sL st1 106 0 r.toInt64)) (fun X st1 => X = NSE ∧ post 1 st1)
theorem mdh_L_steps : MDh yL_steps cL_steps 5 (some .int) [(0, 10, 13, 18)] 4 := ⟨k_1387, k_1570, k_1437, by decide, by decide, by decide +kernel⟩
set_option maxRecDepth 100000 in
set_option maxHeartbeats 4000000 in
theorem ct_L_steps {l : Launch} {E : En} (hl0 : l.stackTraces = false) {a1 : Int32} {a2 : Int32} {st : St} {post : Int32 → St → Prop} (h : P_L_steps a1 a2 st post) : CtH l E (CFc E) 8 2 12 yL_steps cL_steps 5 (some .int) [(0, 10, 13, 18)] [.ref 0, .int a1, .int a2, .ref 106] st post := by
  refine ctH_of (by decide) (Nat.le_of_ble_eq_true rfl) ?_
  show Jg l E (CFc E) (Rm 8 2 12) cL_steps 5 RL (some .int) (fun c => c.exceptionTable.toList = tableOf [(0, 10, 13, 18)]) (QI E post 2 12) 0 0 0 [(0, .ref 0), (1, .int a1), (2, .int a2), (3, .ref 106)] [] st
  unfold P_L_steps at h
  refine J_aload_n 3 dL_steps_0 rfl rfl ?_
  refine J_iconst 0 dL_steps_1 (by decide) ?_
  refine J_aload_n 0 dL_steps_2 rfl rfl ?_
  refine J_iload_n 1 dL_steps_3 rfl rfl ?_
  refine J_iload_n 2 dL_steps_4 rfl rfl ?_
  refine J_hc (As := [_, _]) (hh := [(0, 10, 13, 18)]) (fun _ h => h) md_X11_steps k_1384 (rc_obj cl_11 tb_out) rfl rfl ⟨Nat.le_of_ble_eq_true rfl, Nat.le_of_ble_eq_true rfl⟩ ⟨Nat.le_of_ble_eq_true rfl, Nat.le_of_ble_eq_true rfl⟩ (Nat.le_of_ble_eq_true rfl) dL_steps_5 (ct_X11_steps hl0 h) (fun X st1 h => ?_) (fun r st1 h => ?_)
  · obtain ⟨rfl, h⟩ := h
    refine ⟨13, 15, Or.inl ⟨_, _, _, rfl, by decide, by decide, by decide, k_1307, Or.inr rfl⟩, Or.inr ⟨4, dL_steps_13, by decide, rfl⟩, ?_⟩
    refine J_iconst 1 dL_steps_15 (by decide) ?_
    exact J_reti rfl dL_steps_16 h
  · refine J_i2l dL_steps_8 ?_
    refine J_last dL_steps_9 vi_out ?_
    refine J_goto 17 dL_steps_10 (by decide) ?_
    refine J_iconst 0 dL_steps_17 (by decide) ?_
    exact J_reti rfl dL_steps_18 h
def P_L_busiest (a1 : Int32) (st : St) (post : Int32 → St → Prop) : Prop := P_X11_busiest 0 a1 st (fun r st1 => post 0 (sL st1 106 0 r.toInt64)) (fun X st1 => X = IAE ∧ post 1 st1)
theorem mdh_L_busiest : MDh yL_busiest cL_busiest 4 (some .int) [(0, 9, 12, 13)] 3 := ⟨k_1391, k_1575, k_1437, by decide, by decide, by decide +kernel⟩
set_option maxRecDepth 100000 in
set_option maxHeartbeats 4000000 in
theorem ct_L_busiest {l : Launch} {E : En} (hl0 : l.stackTraces = false) {a1 : Int32} {st : St} {post : Int32 → St → Prop} (h : P_L_busiest a1 st post) : CtH l E (CFc E) 8 1 6 yL_busiest cL_busiest 4 (some .int) [(0, 9, 12, 13)] [.ref 0, .int a1, .ref 106] st post := by
  refine ctH_of (by decide) (Nat.le_of_ble_eq_true rfl) ?_
  show Jg l E (CFc E) (Rm 8 1 6) cL_busiest 4 RL (some .int) (fun c => c.exceptionTable.toList = tableOf [(0, 9, 12, 13)]) (QI E post 1 6) 0 0 0 [(0, .ref 0), (1, .int a1), (2, .ref 106)] [] st
  unfold P_L_busiest at h
  refine J_aload_n 2 dL_busiest_0 rfl rfl ?_
  refine J_iconst 0 dL_busiest_1 (by decide) ?_
  refine J_aload_n 0 dL_busiest_2 rfl rfl ?_
  refine J_iload_n 1 dL_busiest_3 rfl rfl ?_
  refine J_hc (As := [_]) (hh := [(0, 9, 12, 13)]) (fun _ h => h) md_X11_busiest k_1388 (rc_obj cl_11 tb_out) rfl rfl ⟨Nat.le_of_ble_eq_true rfl, Nat.le_of_ble_eq_true rfl⟩ ⟨Nat.le_of_ble_eq_true rfl, Nat.le_of_ble_eq_true rfl⟩ (Nat.le_of_ble_eq_true rfl) dL_busiest_4 (ct_X11_busiest hl0 h) (fun X st1 h => ?_) (fun r st1 h => ?_)
  · obtain ⟨rfl, h⟩ := h
    refine ⟨12, 13, Or.inl ⟨_, _, _, rfl, by decide, by decide, by decide, k_1302, Or.inl rfl⟩, Or.inl ⟨3, dL_busiest_12, by decide, rfl⟩, ?_⟩
    refine J_iconst 1 dL_busiest_13 (by decide) ?_
    exact J_reti rfl dL_busiest_14 h
  · refine J_i2l dL_busiest_7 ?_
    refine J_last dL_busiest_8 vi_out ?_
    refine J_goto 15 dL_busiest_9 (by decide) ?_
    refine J_iconst 0 dL_busiest_15 (by decide) ?_
    exact J_reti rfl dL_busiest_16 h
def P_L_crowd (a1 : Int32) (st : St) (post : Int32 → St → Prop) : Prop := P_X11_crowd 0 a1 st (fun r st1 => post 0 (sL st1 106 0 r.toInt64)) (fun X st1 => X = NSE ∧ post 1 st1)
theorem mdh_L_crowd : MDh yL_crowd cL_crowd 4 (some .int) [(0, 9, 12, 18)] 3 := ⟨k_1395, k_1580, k_1437, by decide, by decide, by decide +kernel⟩
set_option maxRecDepth 100000 in
set_option maxHeartbeats 4000000 in
theorem ct_L_crowd {l : Launch} {E : En} (hl0 : l.stackTraces = false) {a1 : Int32} {st : St} {post : Int32 → St → Prop} (h : P_L_crowd a1 st post) : CtH l E (CFc E) 8 1 6 yL_crowd cL_crowd 4 (some .int) [(0, 9, 12, 18)] [.ref 0, .int a1, .ref 106] st post := by
  refine ctH_of (by decide) (Nat.le_of_ble_eq_true rfl) ?_
  show Jg l E (CFc E) (Rm 8 1 6) cL_crowd 4 RL (some .int) (fun c => c.exceptionTable.toList = tableOf [(0, 9, 12, 18)]) (QI E post 1 6) 0 0 0 [(0, .ref 0), (1, .int a1), (2, .ref 106)] [] st
  unfold P_L_crowd at h
  refine J_aload_n 2 dL_crowd_0 rfl rfl ?_
  refine J_iconst 0 dL_crowd_1 (by decide) ?_
  refine J_aload_n 0 dL_crowd_2 rfl rfl ?_
  refine J_iload_n 1 dL_crowd_3 rfl rfl ?_
  refine J_hc (As := [_]) (hh := [(0, 9, 12, 18)]) (fun _ h => h) md_X11_crowd k_1392 (rc_obj cl_11 tb_out) rfl rfl ⟨Nat.le_of_ble_eq_true rfl, Nat.le_of_ble_eq_true rfl⟩ ⟨Nat.le_of_ble_eq_true rfl, Nat.le_of_ble_eq_true rfl⟩ (Nat.le_of_ble_eq_true rfl) dL_crowd_4 (ct_X11_crowd hl0 h) (fun X st1 h => ?_) (fun r st1 h => ?_)
  · obtain ⟨rfl, h⟩ := h
    refine ⟨12, 13, Or.inl ⟨_, _, _, rfl, by decide, by decide, by decide, k_1307, Or.inr rfl⟩, Or.inl ⟨3, dL_crowd_12, by decide, rfl⟩, ?_⟩
    refine J_iconst 1 dL_crowd_13 (by decide) ?_
    exact J_reti rfl dL_crowd_14 h
  · refine J_i2l dL_crowd_7 ?_
    refine J_last dL_crowd_8 vi_out ?_
    refine J_goto 15 dL_crowd_9 (by decide) ?_
    refine J_iconst 0 dL_crowd_15 (by decide) ?_
    exact J_reti rfl dL_crowd_16 h
def P_L_common (a1 : Int32) (a2 : Int32) (st : St) (post : Int32 → St → Prop) : Prop := P_X11_common 0 a1 a2 st (fun r st1 => post 0 (sL st1 106 0 r.toInt64)) (fun X st1 => X = NSE ∧ post 1 st1)
theorem mdh_L_common : MDh yL_common cL_common 5 (some .int) [(0, 10, 13, 18)] 4 := ⟨k_1399, k_1585, k_1437, by decide, by decide, by decide +kernel⟩
set_option maxRecDepth 100000 in
set_option maxHeartbeats 4000000 in
theorem ct_L_common {l : Launch} {E : En} (hl0 : l.stackTraces = false) {a1 : Int32} {a2 : Int32} {st : St} {post : Int32 → St → Prop} (h : P_L_common a1 a2 st post) : CtH l E (CFc E) 8 2 12 yL_common cL_common 5 (some .int) [(0, 10, 13, 18)] [.ref 0, .int a1, .int a2, .ref 106] st post := by
  refine ctH_of (by decide) (Nat.le_of_ble_eq_true rfl) ?_
  show Jg l E (CFc E) (Rm 8 2 12) cL_common 5 RL (some .int) (fun c => c.exceptionTable.toList = tableOf [(0, 10, 13, 18)]) (QI E post 2 12) 0 0 0 [(0, .ref 0), (1, .int a1), (2, .int a2), (3, .ref 106)] [] st
  unfold P_L_common at h
  refine J_aload_n 3 dL_common_0 rfl rfl ?_
  refine J_iconst 0 dL_common_1 (by decide) ?_
  refine J_aload_n 0 dL_common_2 rfl rfl ?_
  refine J_iload_n 1 dL_common_3 rfl rfl ?_
  refine J_iload_n 2 dL_common_4 rfl rfl ?_
  refine J_hc (As := [_, _]) (hh := [(0, 10, 13, 18)]) (fun _ h => h) md_X11_common k_1396 (rc_obj cl_11 tb_out) rfl rfl ⟨Nat.le_of_ble_eq_true rfl, Nat.le_of_ble_eq_true rfl⟩ ⟨Nat.le_of_ble_eq_true rfl, Nat.le_of_ble_eq_true rfl⟩ (Nat.le_of_ble_eq_true rfl) dL_common_5 (ct_X11_common hl0 h) (fun X st1 h => ?_) (fun r st1 h => ?_)
  · obtain ⟨rfl, h⟩ := h
    refine ⟨13, 15, Or.inl ⟨_, _, _, rfl, by decide, by decide, by decide, k_1307, Or.inr rfl⟩, Or.inr ⟨4, dL_common_13, by decide, rfl⟩, ?_⟩
    refine J_iconst 1 dL_common_15 (by decide) ?_
    exact J_reti rfl dL_common_16 h
  · refine J_i2l dL_common_8 ?_
    refine J_last dL_common_9 vi_out ?_
    refine J_goto 17 dL_common_10 (by decide) ?_
    refine J_iconst 0 dL_common_17 (by decide) ?_
    exact J_reti rfl dL_common_18 h
def P_L_see (a1 : Int32) (a2 : Int32) (a3 : Int32) (a4 : Int32) (a5 : Int32) (st : St) (post : Int32 → St → Prop) : Prop := P_X11_see 0 a1 a2 a3 a4 a5 st (fun r st1 => post 0 (sL st1 106 0 r.toInt64)) (fun X st1 => X = NSE ∧ post 1 st1)
theorem mdh_L_see : MDh yL_see cL_see 8 (some .int) [(0, 16, 19, 18)] 7 := ⟨k_1403, k_1590, k_1437, by decide, by decide, by decide +kernel⟩
set_option maxRecDepth 100000 in
set_option maxHeartbeats 4000000 in
theorem ct_L_see {l : Launch} {E : En} (hl0 : l.stackTraces = false) {a1 : Int32} {a2 : Int32} {a3 : Int32} {a4 : Int32} {a5 : Int32} {st : St} {post : Int32 → St → Prop} (h : P_L_see a1 a2 a3 a4 a5 st post) : CtH l E (CFc E) 8 3 18 yL_see cL_see 8 (some .int) [(0, 16, 19, 18)] [.ref 0, .int a1, .int a2, .int a3, .int a4, .int a5, .ref 106] st post := by
  refine ctH_of (by decide) (Nat.le_of_ble_eq_true rfl) ?_
  show Jg l E (CFc E) (Rm 8 3 18) cL_see 8 RL (some .int) (fun c => c.exceptionTable.toList = tableOf [(0, 16, 19, 18)]) (QI E post 3 18) 0 0 0 [(0, .ref 0), (1, .int a1), (2, .int a2), (3, .int a3), (4, .int a4), (5, .int a5), (6, .ref 106)] [] st
  unfold P_L_see at h
  refine J_aload 6 dL_see_0 rfl ?_
  refine J_iconst 0 dL_see_2 (by decide) ?_
  refine J_aload_n 0 dL_see_3 rfl rfl ?_
  refine J_iload_n 1 dL_see_4 rfl rfl ?_
  refine J_iload_n 2 dL_see_5 rfl rfl ?_
  refine J_iload_n 3 dL_see_6 rfl rfl ?_
  refine J_iload 4 dL_see_7 rfl ?_
  refine J_iload 5 dL_see_9 rfl ?_
  refine J_hc (As := [_, _, _, _, _]) (hh := [(0, 16, 19, 18)]) (fun _ h => h) md_X11_see k_1400 (rc_obj cl_11 tb_out) rfl rfl ⟨Nat.le_of_ble_eq_true rfl, Nat.le_of_ble_eq_true rfl⟩ ⟨Nat.le_of_ble_eq_true rfl, Nat.le_of_ble_eq_true rfl⟩ (Nat.le_of_ble_eq_true rfl) dL_see_11 (ct_X11_see hl0 h) (fun X st1 h => ?_) (fun r st1 h => ?_)
  · obtain ⟨rfl, h⟩ := h
    refine ⟨19, 21, Or.inl ⟨_, _, _, rfl, by decide, by decide, by decide, k_1307, Or.inr rfl⟩, Or.inr ⟨7, dL_see_19, by decide, rfl⟩, ?_⟩
    refine J_iconst 1 dL_see_21 (by decide) ?_
    exact J_reti rfl dL_see_22 h
  · refine J_i2l dL_see_14 ?_
    refine J_last dL_see_15 vi_out ?_
    refine J_goto 23 dL_see_16 (by decide) ?_
    refine J_iconst 0 dL_see_23 (by decide) ?_
    exact J_reti rfl dL_see_24 h
def P_L_hidden (a1 : Int32) (st : St) (post : Int32 → St → Prop) : Prop := P_X11_hidden 0 a1 st (fun r st1 => post 0 (sL st1 106 0 r.toInt64)) (fun X st1 => X = NSE ∧ post 1 st1)
theorem mdh_L_hidden : MDh yL_hidden cL_hidden 4 (some .int) [(0, 9, 12, 18)] 3 := ⟨k_1407, k_1595, k_1437, by decide, by decide, by decide +kernel⟩
set_option maxRecDepth 100000 in
set_option maxHeartbeats 4000000 in
theorem ct_L_hidden {l : Launch} {E : En} (hl0 : l.stackTraces = false) {a1 : Int32} {st : St} {post : Int32 → St → Prop} (h : P_L_hidden a1 st post) : CtH l E (CFc E) 9 1 6 yL_hidden cL_hidden 4 (some .int) [(0, 9, 12, 18)] [.ref 0, .int a1, .ref 106] st post := by
  refine ctH_of (by decide) (Nat.le_of_ble_eq_true rfl) ?_
  show Jg l E (CFc E) (Rm 9 1 6) cL_hidden 4 RL (some .int) (fun c => c.exceptionTable.toList = tableOf [(0, 9, 12, 18)]) (QI E post 1 6) 0 0 0 [(0, .ref 0), (1, .int a1), (2, .ref 106)] [] st
  unfold P_L_hidden at h
  refine J_aload_n 2 dL_hidden_0 rfl rfl ?_
  refine J_iconst 0 dL_hidden_1 (by decide) ?_
  refine J_aload_n 0 dL_hidden_2 rfl rfl ?_
  refine J_iload_n 1 dL_hidden_3 rfl rfl ?_
  refine J_hc (As := [_]) (hh := [(0, 9, 12, 18)]) (fun _ h => h) md_X11_hidden k_1404 (rc_obj cl_11 tb_out) rfl rfl ⟨Nat.le_of_ble_eq_true rfl, Nat.le_of_ble_eq_true rfl⟩ ⟨Nat.le_of_ble_eq_true rfl, Nat.le_of_ble_eq_true rfl⟩ (Nat.le_of_ble_eq_true rfl) dL_hidden_4 (ct_X11_hidden hl0 h) (fun X st1 h => ?_) (fun r st1 h => ?_)
  · obtain ⟨rfl, h⟩ := h
    refine ⟨12, 13, Or.inl ⟨_, _, _, rfl, by decide, by decide, by decide, k_1307, Or.inr rfl⟩, Or.inl ⟨3, dL_hidden_12, by decide, rfl⟩, ?_⟩
    refine J_iconst 1 dL_hidden_13 (by decide) ?_
    exact J_reti rfl dL_hidden_14 h
  · refine J_i2l dL_hidden_7 ?_
    refine J_last dL_hidden_8 vi_out ?_
    refine J_goto 15 dL_hidden_9 (by decide) ?_
    refine J_iconst 0 dL_hidden_15 (by decide) ?_
    exact J_reti rfl dL_hidden_16 h
def P_L_next (a1 : Int32) (st : St) (post : Int32 → St → Prop) : Prop := P_X11_next 0 a1 st (fun r st1 => post 0 (sL st1 106 0 r.toInt64)) (fun X st1 => X = NSE ∧ post 1 st1)
theorem mdh_L_next : MDh yL_next cL_next 4 (some .int) [(0, 9, 12, 18)] 3 := ⟨k_1411, k_1600, k_1437, by decide, by decide, by decide +kernel⟩
set_option maxRecDepth 100000 in
set_option maxHeartbeats 4000000 in
theorem ct_L_next {l : Launch} {E : En} (hl0 : l.stackTraces = false) {a1 : Int32} {st : St} {post : Int32 → St → Prop} (h : P_L_next a1 st post) : CtH l E (CFc E) 9 1 6 yL_next cL_next 4 (some .int) [(0, 9, 12, 18)] [.ref 0, .int a1, .ref 106] st post := by
  refine ctH_of (by decide) (Nat.le_of_ble_eq_true rfl) ?_
  show Jg l E (CFc E) (Rm 9 1 6) cL_next 4 RL (some .int) (fun c => c.exceptionTable.toList = tableOf [(0, 9, 12, 18)]) (QI E post 1 6) 0 0 0 [(0, .ref 0), (1, .int a1), (2, .ref 106)] [] st
  unfold P_L_next at h
  refine J_aload_n 2 dL_next_0 rfl rfl ?_
  refine J_iconst 0 dL_next_1 (by decide) ?_
  refine J_aload_n 0 dL_next_2 rfl rfl ?_
  refine J_iload_n 1 dL_next_3 rfl rfl ?_
  refine J_hc (As := [_]) (hh := [(0, 9, 12, 18)]) (fun _ h => h) md_X11_next k_1408 (rc_obj cl_11 tb_out) rfl rfl ⟨Nat.le_of_ble_eq_true rfl, Nat.le_of_ble_eq_true rfl⟩ ⟨Nat.le_of_ble_eq_true rfl, Nat.le_of_ble_eq_true rfl⟩ (Nat.le_of_ble_eq_true rfl) dL_next_4 (ct_X11_next hl0 h) (fun X st1 h => ?_) (fun r st1 h => ?_)
  · obtain ⟨rfl, h⟩ := h
    refine ⟨12, 13, Or.inl ⟨_, _, _, rfl, by decide, by decide, by decide, k_1307, Or.inr rfl⟩, Or.inl ⟨3, dL_next_12, by decide, rfl⟩, ?_⟩
    refine J_iconst 1 dL_next_13 (by decide) ?_
    exact J_reti rfl dL_next_14 h
  · refine J_i2l dL_next_7 ?_
    refine J_last dL_next_8 vi_out ?_
    refine J_goto 15 dL_next_9 (by decide) ?_
    refine J_iconst 0 dL_next_15 (by decide) ?_
    exact J_reti rfl dL_next_16 h
def P_L_game (a1 : Int32) (a2 : Int32) (a3 : Int32) (a4 : Int32) (st : St) (post : Int32 → St → Prop) : Prop := P_X11_game 0 a1 a2 a3 a4 st (fun r st1 => post 0 (sL st1 106 0 r.toInt64)) (fun X st1 => (X = NSE ∧ post 1 st1) ∨ (X = IAE ∧ post 2 st1))
theorem mdh_L_game : MDh yL_game cL_game 7 (some .int) [(0, 14, 17, 18), (0, 14, 21, 13)] 6 := ⟨k_1415, k_1611, k_1437, by decide, by decide, by decide +kernel⟩
set_option maxRecDepth 100000 in
set_option maxHeartbeats 4000000 in
theorem ct_L_game {l : Launch} {E : En} (hl0 : l.stackTraces = false) {a1 : Int32} {a2 : Int32} {a3 : Int32} {a4 : Int32} {st : St} {post : Int32 → St → Prop} (h : P_L_game a1 a2 a3 a4 st post) : CtH l E (CFc E) 9 5 30 yL_game cL_game 7 (some .int) [(0, 14, 17, 18), (0, 14, 21, 13)] [.ref 0, .int a1, .int a2, .int a3, .int a4, .ref 106] st post := by
  refine ctH_of (by decide) (Nat.le_of_ble_eq_true rfl) ?_
  show Jg l E (CFc E) (Rm 9 5 30) cL_game 7 RL (some .int) (fun c => c.exceptionTable.toList = tableOf [(0, 14, 17, 18), (0, 14, 21, 13)]) (QI E post 5 30) 0 0 0 [(0, .ref 0), (1, .int a1), (2, .int a2), (3, .int a3), (4, .int a4), (5, .ref 106)] [] st
  unfold P_L_game at h
  refine J_aload 5 dL_game_0 rfl ?_
  refine J_iconst 0 dL_game_2 (by decide) ?_
  refine J_aload_n 0 dL_game_3 rfl rfl ?_
  refine J_iload_n 1 dL_game_4 rfl rfl ?_
  refine J_iload_n 2 dL_game_5 rfl rfl ?_
  refine J_iload_n 3 dL_game_6 rfl rfl ?_
  refine J_iload 4 dL_game_7 rfl ?_
  refine J_hc (As := [_, _, _, _]) (hh := [(0, 14, 17, 18), (0, 14, 21, 13)]) (fun _ h => h) md_X11_game k_1412 (rc_obj cl_11 tb_out) rfl rfl ⟨Nat.le_of_ble_eq_true rfl, Nat.le_of_ble_eq_true rfl⟩ ⟨Nat.le_of_ble_eq_true rfl, Nat.le_of_ble_eq_true rfl⟩ (Nat.le_of_ble_eq_true rfl) dL_game_9 (ct_X11_game hl0 h) (fun X st1 h => ?_) (fun r st1 h => ?_)
  · rcases h with ⟨rfl, h⟩ | ⟨rfl, h⟩
    · refine ⟨17, 19, Or.inr (Or.inl ⟨_, _, _, _, rfl, by decide, by decide, by decide, k_1307, rfl⟩), Or.inr ⟨6, dL_game_17, by decide, rfl⟩, ?_⟩
      refine J_iconst 1 dL_game_19 (by decide) ?_
      exact J_reti rfl dL_game_20 h
    · refine ⟨21, 23, Or.inr (Or.inr ⟨_, _, _, _, _, _, _, rfl, by decide, by decide, by decide, by decide, k_1307, k_1302, rfl⟩), Or.inr ⟨6, dL_game_21, by decide, rfl⟩, ?_⟩
      refine J_iconst 2 dL_game_23 (by decide) ?_
      exact J_reti rfl dL_game_24 h
  · refine J_i2l dL_game_12 ?_
    refine J_last dL_game_13 vi_out ?_
    refine J_goto 25 dL_game_14 (by decide) ?_
    refine J_iconst 0 dL_game_25 (by decide) ?_
    exact J_reti rfl dL_game_26 h
def P_L_drawn (a1 : Int32) (a2 : Int32) (a3 : Int32) (st : St) (post : Int32 → St → Prop) : Prop := P_X11_drawn 0 a1 a2 a3 st (fun r st1 => post 0 (sL st1 106 0 r.toInt64)) (fun X st1 => (X = NSE ∧ post 1 st1) ∨ (X = IAE ∧ post 2 st1))
theorem mdh_L_drawn : MDh yL_drawn cL_drawn 6 (some .int) [(0, 12, 15, 18), (0, 12, 19, 13)] 5 := ⟨k_1419, k_1616, k_1437, by decide, by decide, by decide +kernel⟩
set_option maxRecDepth 100000 in
set_option maxHeartbeats 4000000 in
theorem ct_L_drawn {l : Launch} {E : En} (hl0 : l.stackTraces = false) {a1 : Int32} {a2 : Int32} {a3 : Int32} {st : St} {post : Int32 → St → Prop} (h : P_L_drawn a1 a2 a3 st post) : CtH l E (CFc E) 8 2 12 yL_drawn cL_drawn 6 (some .int) [(0, 12, 15, 18), (0, 12, 19, 13)] [.ref 0, .int a1, .int a2, .int a3, .ref 106] st post := by
  refine ctH_of (by decide) (Nat.le_of_ble_eq_true rfl) ?_
  show Jg l E (CFc E) (Rm 8 2 12) cL_drawn 6 RL (some .int) (fun c => c.exceptionTable.toList = tableOf [(0, 12, 15, 18), (0, 12, 19, 13)]) (QI E post 2 12) 0 0 0 [(0, .ref 0), (1, .int a1), (2, .int a2), (3, .int a3), (4, .ref 106)] [] st
  unfold P_L_drawn at h
  refine J_aload 4 dL_drawn_0 rfl ?_
  refine J_iconst 0 dL_drawn_2 (by decide) ?_
  refine J_aload_n 0 dL_drawn_3 rfl rfl ?_
  refine J_iload_n 1 dL_drawn_4 rfl rfl ?_
  refine J_iload_n 2 dL_drawn_5 rfl rfl ?_
  refine J_iload_n 3 dL_drawn_6 rfl rfl ?_
  refine J_hc (As := [_, _, _]) (hh := [(0, 12, 15, 18), (0, 12, 19, 13)]) (fun _ h => h) md_X11_drawn k_1416 (rc_obj cl_11 tb_out) rfl rfl ⟨Nat.le_of_ble_eq_true rfl, Nat.le_of_ble_eq_true rfl⟩ ⟨Nat.le_of_ble_eq_true rfl, Nat.le_of_ble_eq_true rfl⟩ (Nat.le_of_ble_eq_true rfl) dL_drawn_7 (ct_X11_drawn hl0 h) (fun X st1 h => ?_) (fun r st1 h => ?_)
  · rcases h with ⟨rfl, h⟩ | ⟨rfl, h⟩
    · refine ⟨15, 17, Or.inr (Or.inl ⟨_, _, _, _, rfl, by decide, by decide, by decide, k_1307, rfl⟩), Or.inr ⟨5, dL_drawn_15, by decide, rfl⟩, ?_⟩
      refine J_iconst 1 dL_drawn_17 (by decide) ?_
      exact J_reti rfl dL_drawn_18 h
    · refine ⟨19, 21, Or.inr (Or.inr ⟨_, _, _, _, _, _, _, rfl, by decide, by decide, by decide, by decide, k_1307, k_1302, rfl⟩), Or.inr ⟨5, dL_drawn_19, by decide, rfl⟩, ?_⟩
      refine J_iconst 2 dL_drawn_21 (by decide) ?_
      exact J_reti rfl dL_drawn_22 h
  · refine J_i2l dL_drawn_10 ?_
    refine J_last dL_drawn_11 vi_out ?_
    refine J_goto 23 dL_drawn_12 (by decide) ?_
    refine J_iconst 0 dL_drawn_23 (by decide) ?_
    exact J_reti rfl dL_drawn_24 h
