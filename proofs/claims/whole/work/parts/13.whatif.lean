/-! X9_suppose -/
def P_X9_suppose_47  (a0 : Nat) (a1 : Int32)  (post : Int32 → St → Prop) (s0 : Int32) (st : St) : Prop := (s0 = 0 ∨ s0 = 1) ∧ post s0 st
def P_X9_suppose  (a0 : Nat) (a1 : Int32) (st : St) (post : Int32 → St → Prop) : Prop := ∃ r_1, rv st a0 9 1 = some r_1 ∧ ∃ r_2, rv st a0 9 0 = some r_2 ∧ oC r_1 2 ∧ P_X2_copyFrom  r_1 r_2 st (fun st_4 => ∃ r_5, rv st_4 a0 9 1 = some r_5 ∧ oC r_5 2 ∧ P_X2_setOnions  r_5 (a1 / 10) (a1 - a1 / 10 * 10) st_4 (fun st_7 => ∃ r_8, rv st_7 a0 9 0 = some r_8 ∧ oC r_8 2 ∧ P_X2_onionsOf  r_8 (a1 / 10) st_7 (fun z_9 st_10 => ((z_9 = (a1 - a1 / 10 * 10) → P_X9_suppose_47  a0 a1  post 0 st_10) ∧ (¬ z_9 = (a1 - a1 / 10 * 10) → P_X9_suppose_47  a0 a1  post 1 st_10)))))
set_option maxRecDepth 100000 in
set_option maxHeartbeats 4000000 in
theorem K_X9_suppose_47 {l : Launch} {E : En}   (a0 : Nat) (a1 : Int32)  {post : Int32 → St → Prop}   (s0 : Int32) (st : St) (h : P_X9_suppose_47  a0 a1  post s0 st) : Jg l E (CFc E) (Rm 3 0 0) cX9_suppose 4 RX9 (some .boolean) (fun _ => True) (QI E post 0 0) 0 0 47 [(0, .ref a0), (1, .int a1)] [.int s0] st := by
  unfold P_X9_suppose_47 at h
  exact J_retz rfl h.1 dX9_suppose_47 h.2
set_option maxRecDepth 100000 in
set_option maxHeartbeats 4000000 in
theorem ct_X9_suppose {l : Launch} {E : En}  {a0 : Nat} {a1 : Int32} {st : St} {post : Int32 → St → Prop} (h : P_X9_suppose  a0 a1 st post) : CtI l E (CFc E) 3 0 0 yX9_suppose cX9_suppose 4 (some .boolean) [.ref a0, .int a1] st post := by
  refine ctI_of (by decide) (Nat.le_of_ble_eq_true rfl) ?_
  show Jg l E (CFc E) (Rm 3 0 0) cX9_suppose 4 RX9 (some .boolean) (fun _ => True) (QI E post 0 0) 0 0 0 [(0, .ref a0), (1, .int a1)] [] st
  unfold P_X9_suppose at h
  refine J_iload_n 1 dX9_suppose_0 rfl rfl ?_
  refine J_bipush 10 dX9_suppose_1 (by decide) ?_
  refine J_idiv dX9_suppose_3 (by decide) ?_
  refine J_istore_n _ dX9_suppose_4 rfl (by decide) rfl ?_
  refine J_iload_n 2 dX9_suppose_5 rfl rfl ?_
  refine J_bipush 10 dX9_suppose_6 (by decide) ?_
  refine J_irem dX9_suppose_8 (by decide) ?_
  refine J_istore_n _ dX9_suppose_9 rfl (by decide) rfl ?_
  refine J_aload_n 2 dX9_suppose_10 rfl rfl ?_
  obtain ⟨r_1, hf, h⟩ := h
  refine J_getR fl_RX9_22 dX9_suppose_11 hf ?_
  refine J_aload_n 2 dX9_suppose_14 rfl rfl ?_
  obtain ⟨r_2, hf, h⟩ := h
  refine J_getR fl_RX9_18 dX9_suppose_15 hf ?_
  obtain ⟨ho, h⟩ := h
  refine J_cvv (As := [_]) md_X2_copyFrom k_583 (rc_obj cl_2 ho) rfl rfl ⟨Nat.le_of_ble_eq_true rfl, Nat.le_of_ble_eq_true rfl⟩ ⟨Nat.le_of_ble_eq_true rfl, Nat.le_of_ble_eq_true rfl⟩ (Nat.le_of_ble_eq_true rfl) dX9_suppose_18 (ct_X2_copyFrom  h) (fun st_4 h => ?_)
  refine J_aload_n 2 dX9_suppose_21 rfl rfl ?_
  obtain ⟨r_5, hf, h⟩ := h
  refine J_getR fl_RX9_22 dX9_suppose_22 hf ?_
  refine J_iload_n 1 dX9_suppose_25 rfl rfl ?_
  refine J_iload_n 0 dX9_suppose_26 rfl rfl ?_
  obtain ⟨ho, h⟩ := h
  refine J_cvv (As := [_, _]) md_X2_setOnions k_635 (rc_obj cl_2 ho) rfl rfl ⟨Nat.le_of_ble_eq_true rfl, Nat.le_of_ble_eq_true rfl⟩ ⟨Nat.le_of_ble_eq_true rfl, Nat.le_of_ble_eq_true rfl⟩ (Nat.le_of_ble_eq_true rfl) dX9_suppose_27 (ct_X2_setOnions  h) (fun st_7 h => ?_)
  refine J_aload_n 2 dX9_suppose_30 rfl rfl ?_
  obtain ⟨r_8, hf, h⟩ := h
  refine J_getR fl_RX9_18 dX9_suppose_31 hf ?_
  refine J_iload_n 1 dX9_suppose_34 rfl rfl ?_
  obtain ⟨ho, h⟩ := h
  refine J_cvi (As := [_]) md_X2_onionsOf k_636 (rc_obj cl_2 ho) rfl rfl ⟨Nat.le_of_ble_eq_true rfl, Nat.le_of_ble_eq_true rfl⟩ ⟨Nat.le_of_ble_eq_true rfl, Nat.le_of_ble_eq_true rfl⟩ (Nat.le_of_ble_eq_true rfl) dX9_suppose_35 (ct_X2_onionsOf  h) (fun z_9 st_10 h => ?_)
  refine J_iload_n 0 dX9_suppose_38 rfl rfl ?_
  refine J_icmp_eq 46 dX9_suppose_39 (by decide) (fun hc => ?_) (fun hc => ?_)
  · have h := h.1 hc
    refine J_iconst 0 dX9_suppose_46 (by decide) ?_
    exact J_lv [2, 3] rfl (K_X9_suppose_47   a0 a1  0 st_10 h)
  · have h := h.2 hc
    refine J_iconst 1 dX9_suppose_42 (by decide) ?_
    refine J_goto 47 dX9_suppose_43 (by decide) ?_
    exact J_lv [2, 3] rfl (K_X9_suppose_47   a0 a1  1 st_10 h)
/-! X9_noteLeaders -/
def P_X9_noteLeaders_2  (a0 : Nat)  (post : St → Prop) : Nat → Int32 → St → Prop
  | 0, _, _ => False
  | n9 + 1, x1, st => ∃ r_1, rv st a0 9 0 = some r_1 ∧ ∃ r_2, rv st r_1 2 0 = some r_2 ∧ fk r_2 3 1 = some 0 ∧ (((gI st r_2 1) ≤ x1 → post st) ∧ (¬ (gI st r_2 1) ≤ x1 → ∃ r_3, rv st a0 9 3 = some r_3 ∧ vp_in x1 (al 0 r_3) ∧ ∃ r_4, rv st a0 9 1 = some r_4 ∧ oC r_4 2 ∧ P_X2_whoLed  r_4 x1 st (fun z_5 st_6 => vp_in x1 (al 0 r_3) ∧ P_X9_noteLeaders_2  a0  post n9 (x1 + 1) (sA st_6 r_3 (x1 : Int32).toNatClampNeg ((gA st r_3 (x1 : Int32).toNatClampNeg) ||| ((1 : Int32) <<< ((z_5 + 1 : Int32) &&& 31)))))))
def P_X9_noteLeaders  (a0 : Nat) (st : St) (post : St → Prop) : Prop := ∃ n8, P_X9_noteLeaders_2  a0  post n8 0 st
set_option maxRecDepth 100000 in
set_option maxHeartbeats 4000000 in
theorem K_X9_noteLeaders_2 {l : Launch} {E : En}   (a0 : Nat)  {post : St → Prop}   : ∀ (n9 : Nat) (x1 : Int32) (st : St), P_X9_noteLeaders_2  a0  post n9 x1 st → Jg l E (CFc E) (Rm 2 0 0) cX9_noteLeaders 2 RX9 none (fun _ => True) (QV E post 0 0) 0 0 2 [(0, .ref a0), (1, .int x1)] [] st := by
  intro n9
  induction n9 with
  | zero => intro x1 st h; exact h.elim
  | succ n9 ih =>
    intro x1 st h
    unfold P_X9_noteLeaders_2 at h
    refine J_iload_n 1 dX9_noteLeaders_2 rfl rfl ?_
    refine J_aload_n 0 dX9_noteLeaders_3 rfl rfl ?_
    obtain ⟨r_1, hf, h⟩ := h
    refine J_getR fl_RX9_18 dX9_noteLeaders_4 hf ?_
    obtain ⟨r_2, hf, h⟩ := h
    refine J_getR fl_RX9_68 dX9_noteLeaders_7 hf ?_
    obtain ⟨hf, h⟩ := h
    refine J_getI fl_RX9_72 dX9_noteLeaders_10 hf ?_
    refine J_icmp_ge 43 dX9_noteLeaders_13 (by decide) (fun hc => ?_) (fun hc => ?_)
    · have h := h.1 hc
      exact J_retv rfl dX9_noteLeaders_43 h
    · have h := h.2 hc
      refine J_aload_n 0 dX9_noteLeaders_16 rfl rfl ?_
      obtain ⟨r_3, hf, h⟩ := h
      refine J_getR fl_RX9_9 dX9_noteLeaders_17 hf ?_
      refine J_iload_n 1 dX9_noteLeaders_20 rfl rfl ?_
      refine J_dup2 dX9_noteLeaders_21 rfl rfl ?_
      obtain ⟨hi, h⟩ := h
      refine J_iald dX9_noteLeaders_22 hi ?_
      refine J_iconst 1 dX9_noteLeaders_23 (by decide) ?_
      refine J_aload_n 0 dX9_noteLeaders_24 rfl rfl ?_
      obtain ⟨r_4, hf, h⟩ := h
      refine J_getR fl_RX9_22 dX9_noteLeaders_25 hf ?_
      refine J_iload_n 1 dX9_noteLeaders_28 rfl rfl ?_
      obtain ⟨ho, h⟩ := h
      refine J_cvi (As := [_]) md_X2_whoLed k_597 (rc_obj cl_2 ho) rfl rfl ⟨Nat.le_of_ble_eq_true rfl, Nat.le_of_ble_eq_true rfl⟩ ⟨Nat.le_of_ble_eq_true rfl, Nat.le_of_ble_eq_true rfl⟩ (Nat.le_of_ble_eq_true rfl) dX9_noteLeaders_29 (ct_X2_whoLed  h) (fun z_5 st_6 h => ?_)
      refine J_iconst 1 dX9_noteLeaders_32 (by decide) ?_
      refine J_iadd dX9_noteLeaders_33 ?_
      refine J_ishl dX9_noteLeaders_34 ?_
      refine J_ior dX9_noteLeaders_35 ?_
      obtain ⟨hi, h⟩ := h
      refine J_iast dX9_noteLeaders_36 hi ?_
      refine J_iinc 1 (x1 + 1) _ dX9_noteLeaders_37 rfl (by rfl) (by decide) rfl ?_
      refine J_goto 2 dX9_noteLeaders_40 (by decide) ?_
      exact J_lv [1, 0] rfl (ih (x1 + 1) (sA st_6 r_3 (x1 : Int32).toNatClampNeg ((gA st r_3 (x1 : Int32).toNatClampNeg) ||| ((1 : Int32) <<< ((z_5 + 1 : Int32) &&& 31)))) h)
set_option maxRecDepth 100000 in
set_option maxHeartbeats 4000000 in
theorem ct_X9_noteLeaders {l : Launch} {E : En}  {a0 : Nat} {st : St} {post : St → Prop} (h : P_X9_noteLeaders  a0 st post) : CtV l E (CFc E) 2 0 0 yX9_noteLeaders cX9_noteLeaders 2 none [.ref a0] st post := by
  refine ctV_of (by decide) (Nat.le_of_ble_eq_true rfl) ?_
  show Jg l E (CFc E) (Rm 2 0 0) cX9_noteLeaders 2 RX9 none (fun _ => True) (QV E post 0 0) 0 0 0 [(0, .ref a0)] [] st
  unfold P_X9_noteLeaders at h
  refine J_iconst 0 dX9_noteLeaders_0 (by decide) ?_
  refine J_istore_n _ dX9_noteLeaders_1 rfl (by decide) rfl ?_
  obtain ⟨n8, h⟩ := h
  exact J_lv [1, 0] rfl (K_X9_noteLeaders_2   a0  n8 0 st h)
/-! X9_choose -/
def P_X9_choose_53  (a0 : Nat) (a1 : Int32) (a2 : Int32)  (post : St → Prop)  (st : St) : Prop := post st
def P_X9_choose  (a0 : Nat) (a1 : Int32) (a2 : Int32) (st : St) (post : St → Prop) : Prop := ((¬ a2 = 0 → ∃ r_1, rv st a0 9 1 = some r_1 ∧ ∃ r_2, rv st a0 9 1 = some r_2 ∧ oC r_2 2 ∧ P_X2_trainsOf  r_2 a1 st (fun z_3 st_4 => oC r_1 2 ∧ P_X2_setTrains  r_1 a1 (if ((z_3 + 3) : Int32) < 9 then (z_3 + 3) else 9) st_4 (fun st_6 => P_X9_choose_53  a0 a1 a2  post st_6))) ∧ (a2 = 0 → ∃ r_7, rv st a0 9 1 = some r_7 ∧ ∃ r_8, rv st a0 9 1 = some r_8 ∧ oC r_8 2 ∧ P_X2_onionsOf  r_8 a1 st (fun z_9 st_10 => oC r_7 2 ∧ P_X2_setOnions  r_7 a1 (if ((z_9 + 3) : Int32) < 9 then (z_9 + 3) else 9) st_10 (fun st_12 => P_X9_choose_53  a0 a1 a2  post st_12))))
set_option maxRecDepth 100000 in
set_option maxHeartbeats 4000000 in
theorem K_X9_choose_53 {l : Launch} {E : En}   (a0 : Nat) (a1 : Int32) (a2 : Int32)  {post : St → Prop}    (st : St) (h : P_X9_choose_53  a0 a1 a2  post  st) : Jg l E (CFc E) (Rm 2 0 0) cX9_choose 3 RX9 none (fun _ => True) (QV E post 0 0) 0 0 53 [(0, .ref a0), (1, .int a1), (2, .int a2)] [] st := by
  unfold P_X9_choose_53 at h
  exact J_retv rfl dX9_choose_53 h
set_option maxRecDepth 100000 in
set_option maxHeartbeats 4000000 in
theorem ct_X9_choose {l : Launch} {E : En}  {a0 : Nat} {a1 : Int32} {a2 : Int32} {st : St} {post : St → Prop} (h : P_X9_choose  a0 a1 a2 st post) : CtV l E (CFc E) 2 0 0 yX9_choose cX9_choose 3 none [.ref a0, .int a1, .int a2] st post := by
  refine ctV_of (by decide) (Nat.le_of_ble_eq_true rfl) ?_
  show Jg l E (CFc E) (Rm 2 0 0) cX9_choose 3 RX9 none (fun _ => True) (QV E post 0 0) 0 0 0 [(0, .ref a0), (1, .int a1), (2, .int a2)] [] st
  unfold P_X9_choose at h
  refine J_iload_n 2 dX9_choose_0 rfl rfl ?_
  refine J_if_ne 30 dX9_choose_1 (by decide) (fun hc => ?_) (fun hc => ?_)
  · have h := h.1 hc
    refine J_aload_n 0 dX9_choose_30 rfl rfl ?_
    obtain ⟨r_1, hf, h⟩ := h
    refine J_getR fl_RX9_22 dX9_choose_31 hf ?_
    refine J_iload_n 1 dX9_choose_34 rfl rfl ?_
    refine J_bipush 9 dX9_choose_35 (by decide) ?_
    refine J_aload_n 0 dX9_choose_37 rfl rfl ?_
    obtain ⟨r_2, hf, h⟩ := h
    refine J_getR fl_RX9_22 dX9_choose_38 hf ?_
    refine J_iload_n 1 dX9_choose_41 rfl rfl ?_
    obtain ⟨ho, h⟩ := h
    refine J_cvi (As := [_]) md_X2_trainsOf k_649 (rc_obj cl_2 ho) rfl rfl ⟨Nat.le_of_ble_eq_true rfl, Nat.le_of_ble_eq_true rfl⟩ ⟨Nat.le_of_ble_eq_true rfl, Nat.le_of_ble_eq_true rfl⟩ (Nat.le_of_ble_eq_true rfl) dX9_choose_42 (ct_X2_trainsOf  h) (fun z_3 st_4 h => ?_)
    refine J_iconst 3 dX9_choose_45 (by decide) ?_
    refine J_iadd dX9_choose_46 ?_
    refine J_mmin k_618 k_162 k_158 k_163 ⟨Nat.le_of_ble_eq_true rfl, Nat.le_of_ble_eq_true rfl, Nat.le_of_ble_eq_true rfl, Nat.le_of_ble_eq_true rfl⟩ dX9_choose_47 ?_
    obtain ⟨ho, h⟩ := h
    refine J_cvv (As := [_, _]) md_X2_setTrains k_605 (rc_obj cl_2 ho) rfl rfl ⟨Nat.le_of_ble_eq_true rfl, Nat.le_of_ble_eq_true rfl⟩ ⟨Nat.le_of_ble_eq_true rfl, Nat.le_of_ble_eq_true rfl⟩ (Nat.le_of_ble_eq_true rfl) dX9_choose_50 (ct_X2_setTrains  h) (fun st_6 h => ?_)
    exact J_lv [0, 1, 2] rfl (K_X9_choose_53   a0 a1 a2  st_6 h)
  · have h := h.2 hc
    refine J_aload_n 0 dX9_choose_4 rfl rfl ?_
    obtain ⟨r_7, hf, h⟩ := h
    refine J_getR fl_RX9_22 dX9_choose_5 hf ?_
    refine J_iload_n 1 dX9_choose_8 rfl rfl ?_
    refine J_bipush 9 dX9_choose_9 (by decide) ?_
    refine J_aload_n 0 dX9_choose_11 rfl rfl ?_
    obtain ⟨r_8, hf, h⟩ := h
    refine J_getR fl_RX9_22 dX9_choose_12 hf ?_
    refine J_iload_n 1 dX9_choose_15 rfl rfl ?_
    obtain ⟨ho, h⟩ := h
    refine J_cvi (As := [_]) md_X2_onionsOf k_636 (rc_obj cl_2 ho) rfl rfl ⟨Nat.le_of_ble_eq_true rfl, Nat.le_of_ble_eq_true rfl⟩ ⟨Nat.le_of_ble_eq_true rfl, Nat.le_of_ble_eq_true rfl⟩ (Nat.le_of_ble_eq_true rfl) dX9_choose_16 (ct_X2_onionsOf  h) (fun z_9 st_10 h => ?_)
    refine J_iconst 3 dX9_choose_19 (by decide) ?_
    refine J_iadd dX9_choose_20 ?_
    refine J_mmin k_618 k_162 k_158 k_163 ⟨Nat.le_of_ble_eq_true rfl, Nat.le_of_ble_eq_true rfl, Nat.le_of_ble_eq_true rfl, Nat.le_of_ble_eq_true rfl⟩ dX9_choose_21 ?_
    obtain ⟨ho, h⟩ := h
    refine J_cvv (As := [_, _]) md_X2_setOnions k_635 (rc_obj cl_2 ho) rfl rfl ⟨Nat.le_of_ble_eq_true rfl, Nat.le_of_ble_eq_true rfl⟩ ⟨Nat.le_of_ble_eq_true rfl, Nat.le_of_ble_eq_true rfl⟩ (Nat.le_of_ble_eq_true rfl) dX9_choose_24 (ct_X2_setOnions  h) (fun st_12 h => ?_)
    refine J_goto 53 dX9_choose_27 (by decide) ?_
    exact J_lv [0, 1, 2] rfl (K_X9_choose_53   a0 a1 a2  st_12 h)
/-! X9_gainOf -/
def P_X9_gainOf_21  (a0 : Int32) (a1 : Int32) (a2 : Int32)  (post : Int32 → St → Prop) (s0 : Int32) (s1 : Int32) (st : St) : Prop := post (s1 + s0) st
def P_X9_gainOf_11  (a0 : Int32) (a1 : Int32) (a2 : Int32)  (post : Int32 → St → Prop) (s0 : Int32) (st : St) : Prop := ((¬ a1 = 0 → P_X9_gainOf_21  a0 a1 a2  post (-2) s0 st) ∧ (a1 = 0 → P_X9_gainOf_21  a0 a1 a2  post 1 s0 st))
def P_X9_gainOf  (a0 : Int32) (a1 : Int32) (a2 : Int32) (st : St) (post : Int32 → St → Prop) : Prop := ((¬ a2 = a0 → P_X9_gainOf_11  a0 a1 a2  post 0 st) ∧ (a2 = a0 → P_X9_gainOf_11  a0 a1 a2  post 10 st))
set_option maxRecDepth 100000 in
set_option maxHeartbeats 4000000 in
theorem K_X9_gainOf_21 {l : Launch} {E : En}   (a0 : Int32) (a1 : Int32) (a2 : Int32)  {post : Int32 → St → Prop}   (s0 : Int32) (s1 : Int32) (st : St) (h : P_X9_gainOf_21  a0 a1 a2  post s0 s1 st) : Jg l E (CFc E) (Rm 1 0 0) cX9_gainOf 3 RX9 (some .int) (fun _ => True) (QI E post 0 0) 0 0 21 [(0, .int a0), (1, .int a1), (2, .int a2)] [.int s0, .int s1] st := by
  unfold P_X9_gainOf_21 at h
  refine J_iadd dX9_gainOf_21 ?_
  exact J_reti rfl dX9_gainOf_22 h
set_option maxRecDepth 100000 in
set_option maxHeartbeats 4000000 in
theorem K_X9_gainOf_11 {l : Launch} {E : En}   (a0 : Int32) (a1 : Int32) (a2 : Int32)  {post : Int32 → St → Prop}   (s0 : Int32) (st : St) (h : P_X9_gainOf_11  a0 a1 a2  post s0 st) : Jg l E (CFc E) (Rm 1 0 0) cX9_gainOf 3 RX9 (some .int) (fun _ => True) (QI E post 0 0) 0 0 11 [(0, .int a0), (1, .int a1), (2, .int a2)] [.int s0] st := by
  unfold P_X9_gainOf_11 at h
  refine J_iload_n 1 dX9_gainOf_11 rfl rfl ?_
  refine J_if_ne 19 dX9_gainOf_12 (by decide) (fun hc => ?_) (fun hc => ?_)
  · have h := h.1 hc
    refine J_bipush (-2) dX9_gainOf_19 (by decide) ?_
    exact J_lv [0, 1, 2] rfl (K_X9_gainOf_21   a0 a1 a2  (-2) s0 st h)
  · have h := h.2 hc
    refine J_iconst 1 dX9_gainOf_15 (by decide) ?_
    refine J_goto 21 dX9_gainOf_16 (by decide) ?_
    exact J_lv [0, 1, 2] rfl (K_X9_gainOf_21   a0 a1 a2  1 s0 st h)
set_option maxRecDepth 100000 in
set_option maxHeartbeats 4000000 in
theorem ct_X9_gainOf {l : Launch} {E : En}  {a0 : Int32} {a1 : Int32} {a2 : Int32} {st : St} {post : Int32 → St → Prop} (h : P_X9_gainOf  a0 a1 a2 st post) : CtI l E (CFc E) 1 0 0 yX9_gainOf cX9_gainOf 3 (some .int) [.int a0, .int a1, .int a2] st post := by
  refine ctI_of (by decide) (Nat.le_of_ble_eq_true rfl) ?_
  show Jg l E (CFc E) (Rm 1 0 0) cX9_gainOf 3 RX9 (some .int) (fun _ => True) (QI E post 0 0) 0 0 0 [(0, .int a0), (1, .int a1), (2, .int a2)] [] st
  unfold P_X9_gainOf at h
  refine J_iload_n 2 dX9_gainOf_0 rfl rfl ?_
  refine J_iload_n 0 dX9_gainOf_1 rfl rfl ?_
  refine J_icmp_ne 10 dX9_gainOf_2 (by decide) (fun hc => ?_) (fun hc => ?_)
  · have h := h.1 hc
    refine J_iconst 0 dX9_gainOf_10 (by decide) ?_
    exact J_lv [0, 1, 2] rfl (K_X9_gainOf_11   a0 a1 a2  0 st h)
  · have h := h.2 hc
    refine J_bipush 10 dX9_gainOf_5 (by decide) ?_
    refine J_goto 11 dX9_gainOf_7 (by decide) ?_
    exact J_lv [0, 1, 2] rfl (K_X9_gainOf_11   a0 a1 a2  10 st h)
/-! X9_rests -/
def P_X9_rests_88  (a0 : Nat) (a1 : Int32) (a2 : Int32) (a3 : Int32) (a4 : Int32)  (post : Int32 → St → Prop) (s0 : Int32) (st : St) : Prop := (s0 = 0 ∨ s0 = 1) ∧ post s0 st
def P_X9_rests_87  (a0 : Nat) (a1 : Int32) (a2 : Int32) (a3 : Int32) (a4 : Int32)  (post : Int32 → St → Prop)  (st : St) : Prop := P_X9_rests_88  a0 a1 a2 a3 a4  post 0 st
def P_X9_rests  (a0 : Nat) (a1 : Int32) (a2 : Int32) (a3 : Int32) (a4 : Int32) (st : St) (post : Int32 → St → Prop) : Prop := ∃ r_1, rv st a0 9 4 = some r_1 ∧ vp_in ((2 * a3) + a4) (al 0 r_1) ∧ ∃ r_2, rv st a0 9 4 = some r_2 ∧ vp_in ((2 * (1 - a3)) + a4) (al 0 r_2) ∧ P_X9_gainOf  a1 (1 - a3) (gA st r_2 ((2 * (1 - a3)) + a4 : Int32).toNatClampNeg) st (fun z_3 st_4 => ∃ r_5, rv st_4 a0 9 4 = some r_5 ∧ vp_in (((2 * a3) + 1) - a4) (al 0 r_5) ∧ P_X9_gainOf  a2 (1 - a4) (gA st_4 r_5 (((2 * a3) + 1) - a4 : Int32).toNatClampNeg) st_4 (fun z_6 st_7 => P_X9_gainOf  a1 a3 (gA st r_1 ((2 * a3) + a4 : Int32).toNatClampNeg) st_7 (fun z_8 st_9 => ((z_8 < z_3 → P_X9_rests_87  a0 a1 a2 a3 a4  post st_9) ∧ (¬ z_8 < z_3 → P_X9_gainOf  a2 a4 (gA st r_1 ((2 * a3) + a4 : Int32).toNatClampNeg) st_9 (fun z_10 st_11 => ((z_10 < z_6 → P_X9_rests_87  a0 a1 a2 a3 a4  post st_11) ∧ (¬ z_10 < z_6 → P_X9_rests_88  a0 a1 a2 a3 a4  post 1 st_11))))))))
set_option maxRecDepth 100000 in
set_option maxHeartbeats 4000000 in
theorem K_X9_rests_88 {l : Launch} {E : En}   (a0 : Nat) (a1 : Int32) (a2 : Int32) (a3 : Int32) (a4 : Int32)  {post : Int32 → St → Prop}   (s0 : Int32) (st : St) (h : P_X9_rests_88  a0 a1 a2 a3 a4  post s0 st) : Jg l E (CFc E) (Rm 2 0 0) cX9_rests 8 RX9 (some .boolean) (fun _ => True) (QI E post 0 0) 0 0 88 [(0, .ref a0), (1, .int a1), (2, .int a2), (3, .int a3), (4, .int a4)] [.int s0] st := by
  unfold P_X9_rests_88 at h
  exact J_retz rfl h.1 dX9_rests_88 h.2
set_option maxRecDepth 100000 in
set_option maxHeartbeats 4000000 in
theorem K_X9_rests_87 {l : Launch} {E : En}   (a0 : Nat) (a1 : Int32) (a2 : Int32) (a3 : Int32) (a4 : Int32)  {post : Int32 → St → Prop}    (st : St) (h : P_X9_rests_87  a0 a1 a2 a3 a4  post  st) : Jg l E (CFc E) (Rm 2 0 0) cX9_rests 8 RX9 (some .boolean) (fun _ => True) (QI E post 0 0) 0 0 87 [(0, .ref a0), (1, .int a1), (2, .int a2), (3, .int a3), (4, .int a4)] [] st := by
  unfold P_X9_rests_87 at h
  refine J_iconst 0 dX9_rests_87 (by decide) ?_
  exact J_lv [0, 1, 2, 3, 4] rfl (K_X9_rests_88   a0 a1 a2 a3 a4  0 st h)
set_option maxRecDepth 100000 in
set_option maxHeartbeats 4000000 in
theorem ct_X9_rests {l : Launch} {E : En}  {a0 : Nat} {a1 : Int32} {a2 : Int32} {a3 : Int32} {a4 : Int32} {st : St} {post : Int32 → St → Prop} (h : P_X9_rests  a0 a1 a2 a3 a4 st post) : CtI l E (CFc E) 2 0 0 yX9_rests cX9_rests 8 (some .boolean) [.ref a0, .int a1, .int a2, .int a3, .int a4] st post := by
  refine ctI_of (by decide) (Nat.le_of_ble_eq_true rfl) ?_
  show Jg l E (CFc E) (Rm 2 0 0) cX9_rests 8 RX9 (some .boolean) (fun _ => True) (QI E post 0 0) 0 0 0 [(0, .ref a0), (1, .int a1), (2, .int a2), (3, .int a3), (4, .int a4)] [] st
  unfold P_X9_rests at h
  refine J_aload_n 0 dX9_rests_0 rfl rfl ?_
  obtain ⟨r_1, hf, h⟩ := h
  refine J_getR fl_RX9_15 dX9_rests_1 hf ?_
  refine J_iconst 2 dX9_rests_4 (by decide) ?_
  refine J_iload_n 3 dX9_rests_5 rfl rfl ?_
  refine J_imul dX9_rests_6 ?_
  refine J_iload 4 dX9_rests_7 rfl ?_
  refine J_iadd dX9_rests_9 ?_
  obtain ⟨hi, h⟩ := h
  refine J_iald dX9_rests_10 hi ?_
  refine J_istore _ dX9_rests_11 (by decide) rfl ?_
  refine J_iload_n 2 dX9_rests_13 rfl rfl ?_
  refine J_iconst 1 dX9_rests_14 (by decide) ?_
  refine J_iload_n 4 dX9_rests_15 rfl rfl ?_
  refine J_isub dX9_rests_16 ?_
  refine J_aload_n 1 dX9_rests_17 rfl rfl ?_
  obtain ⟨r_2, hf, h⟩ := h
  refine J_getR fl_RX9_15 dX9_rests_18 hf ?_
  refine J_iconst 2 dX9_rests_21 (by decide) ?_
  refine J_iconst 1 dX9_rests_22 (by decide) ?_
  refine J_iload_n 4 dX9_rests_23 rfl rfl ?_
  refine J_isub dX9_rests_24 ?_
  refine J_imul dX9_rests_25 ?_
  refine J_iload 5 dX9_rests_26 rfl ?_
  refine J_iadd dX9_rests_28 ?_
  obtain ⟨hi, h⟩ := h
  refine J_iald dX9_rests_29 hi ?_
  refine J_csi (As := [_, _, _]) md_X9_gainOf k_656 rfl rfl ⟨Nat.le_of_ble_eq_true rfl, Nat.le_of_ble_eq_true rfl⟩ ⟨Nat.le_of_ble_eq_true rfl, Nat.le_of_ble_eq_true rfl⟩ (Nat.le_of_ble_eq_true rfl) dX9_rests_30 (ct_X9_gainOf  h) (fun z_3 st_4 h => ?_)
  refine J_istore _ dX9_rests_33 (by decide) rfl ?_
  refine J_iload_n 4 dX9_rests_35 rfl rfl ?_
  refine J_iconst 1 dX9_rests_36 (by decide) ?_
  refine J_iload 6 dX9_rests_37 rfl ?_
  refine J_isub dX9_rests_39 ?_
  refine J_aload_n 2 dX9_rests_40 rfl rfl ?_
  obtain ⟨r_5, hf, h⟩ := h
  refine J_getR fl_RX9_15 dX9_rests_41 hf ?_
  refine J_iconst 2 dX9_rests_44 (by decide) ?_
  refine J_iload_n 5 dX9_rests_45 rfl rfl ?_
  refine J_imul dX9_rests_46 ?_
  refine J_iconst 1 dX9_rests_47 (by decide) ?_
  refine J_iadd dX9_rests_48 ?_
  refine J_iload 6 dX9_rests_49 rfl ?_
  refine J_isub dX9_rests_51 ?_
  obtain ⟨hi, h⟩ := h
  refine J_iald dX9_rests_52 hi ?_
  refine J_csi (As := [_, _, _]) md_X9_gainOf k_656 rfl rfl ⟨Nat.le_of_ble_eq_true rfl, Nat.le_of_ble_eq_true rfl⟩ ⟨Nat.le_of_ble_eq_true rfl, Nat.le_of_ble_eq_true rfl⟩ (Nat.le_of_ble_eq_true rfl) dX9_rests_53 (ct_X9_gainOf  h) (fun z_6 st_7 h => ?_)
  refine J_istore _ dX9_rests_56 (by decide) rfl ?_
  refine J_iload 1 dX9_rests_58 rfl ?_
  refine J_iload_n 4 dX9_rests_60 rfl rfl ?_
  refine J_iload_n 6 dX9_rests_61 rfl rfl ?_
  refine J_iload 2 dX9_rests_62 rfl ?_
  refine J_csi (As := [_, _, _]) md_X9_gainOf k_656 rfl rfl ⟨Nat.le_of_ble_eq_true rfl, Nat.le_of_ble_eq_true rfl⟩ ⟨Nat.le_of_ble_eq_true rfl, Nat.le_of_ble_eq_true rfl⟩ (Nat.le_of_ble_eq_true rfl) dX9_rests_64 (ct_X9_gainOf  h) (fun z_8 st_9 h => ?_)
  refine J_icmp_gt 87 dX9_rests_67 (by decide) (fun hc => ?_) (fun hc => ?_)
  · have h := h.1 hc
    exact J_lv [3, 4, 5, 6, 7] rfl (K_X9_rests_87   a0 a1 a2 a3 a4  st_9 h)
  · have h := h.2 hc
    refine J_iload 0 dX9_rests_70 rfl ?_
    refine J_iload_n 5 dX9_rests_72 rfl rfl ?_
    refine J_iload 7 dX9_rests_73 rfl ?_
    refine J_iload 2 dX9_rests_75 rfl ?_
    refine J_csi (As := [_, _, _]) md_X9_gainOf k_656 rfl rfl ⟨Nat.le_of_ble_eq_true rfl, Nat.le_of_ble_eq_true rfl⟩ ⟨Nat.le_of_ble_eq_true rfl, Nat.le_of_ble_eq_true rfl⟩ (Nat.le_of_ble_eq_true rfl) dX9_rests_77 (ct_X9_gainOf  h) (fun z_10 st_11 h => ?_)
    refine J_icmp_gt 87 dX9_rests_80 (by decide) (fun hc => ?_) (fun hc => ?_)
    · have h := h.1 hc
      exact J_lv [3, 4, 5, 6, 7] rfl (K_X9_rests_87   a0 a1 a2 a3 a4  st_11 h)
    · have h := h.2 hc
      refine J_iconst 1 dX9_rests_83 (by decide) ?_
      refine J_goto 88 dX9_rests_84 (by decide) ?_
      exact J_lv [3, 4, 5, 6, 7] rfl (K_X9_rests_88   a0 a1 a2 a3 a4  1 st_11 h)
/-! X9_restingCount -/
def P_X9_restingCount_31  (a0 : Nat) (a1 : Int32) (a2 : Int32) (k5 : Int32 → Int32 → St → Prop) (post : Int32 → St → Prop) (x3 : Int32) (x4 : Int32) (st : St) : Prop := k5 x3 (x4 + 1) st
def P_X9_restingCount_5  (a0 : Nat) (a1 : Int32) (a2 : Int32)  (post : Int32 → St → Prop) : Nat → Int32 → Int32 → St → Prop
  | 0, _, _, _ => False
  | n9 + 1, x3, x4, st => ((4 ≤ x4 → post x3 st) ∧ (¬ 4 ≤ x4 → oC a0 9 ∧ P_X9_rests  a0 a1 a2 (x4 / 2) (x4 - x4 / 2 * 2) st (fun z_1 st_2 => ((z_1 = 0 → P_X9_restingCount_31  a0 a1 a2 (fun x3 x4 st => P_X9_restingCount_5  a0 a1 a2  post n9 x3 x4 st) post x3 x4 st_2) ∧ (¬ z_1 = 0 → P_X9_restingCount_31  a0 a1 a2 (fun x3 x4 st => P_X9_restingCount_5  a0 a1 a2  post n9 x3 x4 st) post (x3 + 1) x4 st_2)))))
def P_X9_restingCount  (a0 : Nat) (a1 : Int32) (a2 : Int32) (st : St) (post : Int32 → St → Prop) : Prop := ∃ n8, P_X9_restingCount_5  a0 a1 a2  post n8 0 0 st
set_option maxRecDepth 100000 in
set_option maxHeartbeats 4000000 in
theorem K_X9_restingCount_31 {l : Launch} {E : En}   (a0 : Nat) (a1 : Int32) (a2 : Int32) {k5 : Int32 → Int32 → St → Prop} {post : Int32 → St → Prop}  (hk5 : ∀ (x3 : Int32) (x4 : Int32) (st : St), k5 x3 x4 st → Jg l E (CFc E) (Rm 3 0 0) cX9_restingCount 5 RX9 (some .int) (fun _ => True) (QI E post 0 0) 0 0 5 [(0, .ref a0), (1, .int a1), (2, .int a2), (3, .int x3), (4, .int x4)] [] st) (x3 : Int32) (x4 : Int32) (st : St) (h : P_X9_restingCount_31  a0 a1 a2 k5 post x3 x4 st) : Jg l E (CFc E) (Rm 3 0 0) cX9_restingCount 5 RX9 (some .int) (fun _ => True) (QI E post 0 0) 0 0 31 [(0, .ref a0), (1, .int a1), (2, .int a2), (3, .int x3), (4, .int x4)] [] st := by
  unfold P_X9_restingCount_31 at h
  refine J_iinc 4 (x4 + 1) _ dX9_restingCount_31 rfl (by rfl) (by decide) rfl ?_
  refine J_goto 5 dX9_restingCount_34 (by decide) ?_
  exact J_lv [1, 2, 3, 4, 0] rfl (hk5 x3 (x4 + 1) st h)
set_option maxRecDepth 100000 in
set_option maxHeartbeats 4000000 in
theorem K_X9_restingCount_5 {l : Launch} {E : En}   (a0 : Nat) (a1 : Int32) (a2 : Int32)  {post : Int32 → St → Prop}   : ∀ (n9 : Nat) (x3 : Int32) (x4 : Int32) (st : St), P_X9_restingCount_5  a0 a1 a2  post n9 x3 x4 st → Jg l E (CFc E) (Rm 3 0 0) cX9_restingCount 5 RX9 (some .int) (fun _ => True) (QI E post 0 0) 0 0 5 [(0, .ref a0), (1, .int a1), (2, .int a2), (3, .int x3), (4, .int x4)] [] st := by
  intro n9
  induction n9 with
  | zero => intro x3 x4 st h; exact h.elim
  | succ n9 ih =>
    intro x3 x4 st h
    unfold P_X9_restingCount_5 at h
    refine J_iload 4 dX9_restingCount_5 rfl ?_
    refine J_iconst 4 dX9_restingCount_7 (by decide) ?_
    refine J_icmp_ge 37 dX9_restingCount_8 (by decide) (fun hc => ?_) (fun hc => ?_)
    · have h := h.1 hc
      refine J_iload_n 3 dX9_restingCount_37 rfl rfl ?_
      exact J_reti rfl dX9_restingCount_38 h
    · have h := h.2 hc
      refine J_aload_n 0 dX9_restingCount_11 rfl rfl ?_
      refine J_iload_n 1 dX9_restingCount_12 rfl rfl ?_
      refine J_iload_n 2 dX9_restingCount_13 rfl rfl ?_
      refine J_iload 4 dX9_restingCount_14 rfl ?_
      refine J_iconst 2 dX9_restingCount_16 (by decide) ?_
      refine J_idiv dX9_restingCount_17 (by decide) ?_
      refine J_iload 4 dX9_restingCount_18 rfl ?_
      refine J_iconst 2 dX9_restingCount_20 (by decide) ?_
      refine J_irem dX9_restingCount_21 (by decide) ?_
      obtain ⟨ho, h⟩ := h
      refine J_cvi (As := [_, _, _, _]) md_X9_rests k_659 (rc_obj cl_9 ho) rfl rfl ⟨Nat.le_of_ble_eq_true rfl, Nat.le_of_ble_eq_true rfl⟩ ⟨Nat.le_of_ble_eq_true rfl, Nat.le_of_ble_eq_true rfl⟩ (Nat.le_of_ble_eq_true rfl) dX9_restingCount_22 (ct_X9_rests  h) (fun z_1 st_2 h => ?_)
      refine J_if_eq 31 dX9_restingCount_25 (by decide) (fun hc => ?_) (fun hc => ?_)
      · have h := h.1 hc
        exact J_lv [0, 1, 2, 3, 4] rfl (K_X9_restingCount_31   a0 a1 a2 (fun x3 x4 st h => ih x3 x4 st h) x3 x4 st_2 h)
      · have h := h.2 hc
        refine J_iinc 3 (x3 + 1) _ dX9_restingCount_28 rfl (by rfl) (by decide) rfl ?_
        exact J_lv [1, 2, 3, 0, 4] rfl (K_X9_restingCount_31   a0 a1 a2 (fun x3 x4 st h => ih x3 x4 st h) (x3 + 1) x4 st_2 h)
set_option maxRecDepth 100000 in
set_option maxHeartbeats 4000000 in
theorem ct_X9_restingCount {l : Launch} {E : En}  {a0 : Nat} {a1 : Int32} {a2 : Int32} {st : St} {post : Int32 → St → Prop} (h : P_X9_restingCount  a0 a1 a2 st post) : CtI l E (CFc E) 3 0 0 yX9_restingCount cX9_restingCount 5 (some .int) [.ref a0, .int a1, .int a2] st post := by
  refine ctI_of (by decide) (Nat.le_of_ble_eq_true rfl) ?_
  show Jg l E (CFc E) (Rm 3 0 0) cX9_restingCount 5 RX9 (some .int) (fun _ => True) (QI E post 0 0) 0 0 0 [(0, .ref a0), (1, .int a1), (2, .int a2)] [] st
  unfold P_X9_restingCount at h
  refine J_iconst 0 dX9_restingCount_0 (by decide) ?_
  refine J_istore_n _ dX9_restingCount_1 rfl (by decide) rfl ?_
  refine J_iconst 0 dX9_restingCount_2 (by decide) ?_
  refine J_istore _ dX9_restingCount_3 (by decide) rfl ?_
  obtain ⟨n8, h⟩ := h
  exact J_lv [2, 3, 4, 1, 0] rfl (K_X9_restingCount_5   a0 a1 a2  n8 0 0 st h)
/-! X9_firstResting -/
def P_X9_firstResting_2  (a0 : Nat) (a1 : Int32) (a2 : Int32)  (post : Int32 → St → Prop) : Nat → Int32 → St → Prop
  | 0, _, _ => False
  | n9 + 1, x3, st => ((4 ≤ x3 → post (-1) st) ∧ (¬ 4 ≤ x3 → oC a0 9 ∧ P_X9_rests  a0 a1 a2 (x3 / 2) (x3 - x3 / 2 * 2) st (fun z_1 st_2 => ((z_1 = 0 → P_X9_firstResting_2  a0 a1 a2  post n9 (x3 + 1) st_2) ∧ (¬ z_1 = 0 → post ((10 * (x3 / 2)) + (x3 - x3 / 2 * 2)) st_2)))))
def P_X9_firstResting  (a0 : Nat) (a1 : Int32) (a2 : Int32) (st : St) (post : Int32 → St → Prop) : Prop := ∃ n8, P_X9_firstResting_2  a0 a1 a2  post n8 0 st
set_option maxRecDepth 100000 in
set_option maxHeartbeats 4000000 in
theorem K_X9_firstResting_2 {l : Launch} {E : En}   (a0 : Nat) (a1 : Int32) (a2 : Int32)  {post : Int32 → St → Prop}   : ∀ (n9 : Nat) (x3 : Int32) (st : St), P_X9_firstResting_2  a0 a1 a2  post n9 x3 st → Jg l E (CFc E) (Rm 3 0 0) cX9_firstResting 4 RX9 (some .int) (fun _ => True) (QI E post 0 0) 0 0 2 [(0, .ref a0), (1, .int a1), (2, .int a2), (3, .int x3)] [] st := by
  intro n9
  induction n9 with
  | zero => intro x3 st h; exact h.elim
  | succ n9 ih =>
    intro x3 st h
    unfold P_X9_firstResting_2 at h
    refine J_iload_n 3 dX9_firstResting_2 rfl rfl ?_
    refine J_iconst 4 dX9_firstResting_3 (by decide) ?_
    refine J_icmp_ge 39 dX9_firstResting_4 (by decide) (fun hc => ?_) (fun hc => ?_)
    · have h := h.1 hc
      refine J_iconst (-1) dX9_firstResting_39 (by decide) ?_
      exact J_reti rfl dX9_firstResting_40 h
    · have h := h.2 hc
      refine J_aload_n 0 dX9_firstResting_7 rfl rfl ?_
      refine J_iload_n 1 dX9_firstResting_8 rfl rfl ?_
      refine J_iload_n 2 dX9_firstResting_9 rfl rfl ?_
      refine J_iload_n 3 dX9_firstResting_10 rfl rfl ?_
      refine J_iconst 2 dX9_firstResting_11 (by decide) ?_
      refine J_idiv dX9_firstResting_12 (by decide) ?_
      refine J_iload_n 3 dX9_firstResting_13 rfl rfl ?_
      refine J_iconst 2 dX9_firstResting_14 (by decide) ?_
      refine J_irem dX9_firstResting_15 (by decide) ?_
      obtain ⟨ho, h⟩ := h
      refine J_cvi (As := [_, _, _, _]) md_X9_rests k_659 (rc_obj cl_9 ho) rfl rfl ⟨Nat.le_of_ble_eq_true rfl, Nat.le_of_ble_eq_true rfl⟩ ⟨Nat.le_of_ble_eq_true rfl, Nat.le_of_ble_eq_true rfl⟩ (Nat.le_of_ble_eq_true rfl) dX9_firstResting_16 (ct_X9_rests  h) (fun z_1 st_2 h => ?_)
      refine J_if_eq 33 dX9_firstResting_19 (by decide) (fun hc => ?_) (fun hc => ?_)
      · have h := h.1 hc
        refine J_iinc 3 (x3 + 1) _ dX9_firstResting_33 rfl (by rfl) (by decide) rfl ?_
        refine J_goto 2 dX9_firstResting_36 (by decide) ?_
        exact J_lv [1, 2, 3, 0] rfl (ih (x3 + 1) st_2 h)
      · have h := h.2 hc
        refine J_bipush 10 dX9_firstResting_22 (by decide) ?_
        refine J_iload_n 3 dX9_firstResting_24 rfl rfl ?_
        refine J_iconst 2 dX9_firstResting_25 (by decide) ?_
        refine J_idiv dX9_firstResting_26 (by decide) ?_
        refine J_imul dX9_firstResting_27 ?_
        refine J_iload_n 3 dX9_firstResting_28 rfl rfl ?_
        refine J_iconst 2 dX9_firstResting_29 (by decide) ?_
        refine J_irem dX9_firstResting_30 (by decide) ?_
        refine J_iadd dX9_firstResting_31 ?_
        exact J_reti rfl dX9_firstResting_32 h
set_option maxRecDepth 100000 in
set_option maxHeartbeats 4000000 in
theorem ct_X9_firstResting {l : Launch} {E : En}  {a0 : Nat} {a1 : Int32} {a2 : Int32} {st : St} {post : Int32 → St → Prop} (h : P_X9_firstResting  a0 a1 a2 st post) : CtI l E (CFc E) 3 0 0 yX9_firstResting cX9_firstResting 4 (some .int) [.ref a0, .int a1, .int a2] st post := by
  refine ctI_of (by decide) (Nat.le_of_ble_eq_true rfl) ?_
  show Jg l E (CFc E) (Rm 3 0 0) cX9_firstResting 4 RX9 (some .int) (fun _ => True) (QI E post 0 0) 0 0 0 [(0, .ref a0), (1, .int a1), (2, .int a2)] [] st
  unfold P_X9_firstResting at h
  refine J_iconst 0 dX9_firstResting_0 (by decide) ?_
  refine J_istore_n _ dX9_firstResting_1 rfl (by decide) rfl ?_
  obtain ⟨n8, h⟩ := h
  exact J_lv [1, 2, 3, 0] rfl (K_X9_firstResting_2   a0 a1 a2  n8 0 st h)
/-! X9_draw -/
def P_X9_draw_36  (a0 : Nat) (a1 : Int32)  (post : Int32 → St → Prop) (s0 : Int32) (st : St) : Prop := post s0 st
def P_X9_draw  (a0 : Nat) (a1 : Int32) (st : St) (post : Int32 → St → Prop) : Prop := fk a0 9 5 = some 0 ∧ fk a0 9 5 = some 0 ∧ ((0 < a1 → fk a0 9 5 = some 0 ∧ (¬ a1 = 0) ∧ P_X9_draw_36  a0 a1  post (((((gI (sI st a0 5 (((gI st a0 5) * 1103515245) + 12345)) a0 5 : Int32).toUInt32 >>> ((16 : Int32).toUInt32 &&& Int32.toUInt32 31)).toInt32) &&& 32767) - ((((gI (sI st a0 5 (((gI st a0 5) * 1103515245) + 12345)) a0 5 : Int32).toUInt32 >>> ((16 : Int32).toUInt32 &&& Int32.toUInt32 31)).toInt32) &&& 32767) / a1 * a1) (sI st a0 5 (((gI st a0 5) * 1103515245) + 12345))) ∧ (¬ 0 < a1 → P_X9_draw_36  a0 a1  post 0 (sI st a0 5 (((gI st a0 5) * 1103515245) + 12345))))
set_option maxRecDepth 100000 in
set_option maxHeartbeats 4000000 in
theorem K_X9_draw_36 {l : Launch} {E : En}   (a0 : Nat) (a1 : Int32)  {post : Int32 → St → Prop}   (s0 : Int32) (st : St) (h : P_X9_draw_36  a0 a1  post s0 st) : Jg l E (CFc E) (Rm 1 0 0) cX9_draw 2 RX9 (some .int) (fun _ => True) (QI E post 0 0) 0 0 36 [(0, .ref a0), (1, .int a1)] [.int s0] st := by
  unfold P_X9_draw_36 at h
  exact J_reti rfl dX9_draw_36 h
set_option maxRecDepth 100000 in
set_option maxHeartbeats 4000000 in
theorem ct_X9_draw {l : Launch} {E : En}  {a0 : Nat} {a1 : Int32} {st : St} {post : Int32 → St → Prop} (h : P_X9_draw  a0 a1 st post) : CtI l E (CFc E) 1 0 0 yX9_draw cX9_draw 2 (some .int) [.ref a0, .int a1] st post := by
  refine ctI_of (by decide) (Nat.le_of_ble_eq_true rfl) ?_
  show Jg l E (CFc E) (Rm 1 0 0) cX9_draw 2 RX9 (some .int) (fun _ => True) (QI E post 0 0) 0 0 0 [(0, .ref a0), (1, .int a1)] [] st
  unfold P_X9_draw at h
  refine J_aload_n 0 dX9_draw_0 rfl rfl ?_
  refine J_aload_n 0 dX9_draw_1 rfl rfl ?_
  obtain ⟨hf, h⟩ := h
  refine J_getI fl_RX9_139 dX9_draw_2 hf ?_
  refine J_ldc k_665 dX9_draw_5 ?_
  refine J_imul dX9_draw_7 ?_
  refine J_sipush 12345 dX9_draw_8 (by decide) ?_
  refine J_iadd dX9_draw_11 ?_
  obtain ⟨hf, h⟩ := h
  refine J_putI fp_RX9_139 dX9_draw_12 rfl hf ?_
  refine J_iload_n 1 dX9_draw_15 rfl rfl ?_
  refine J_if_gt 23 dX9_draw_16 (by decide) (fun hc => ?_) (fun hc => ?_)
  · have h := h.1 hc
    refine J_aload_n 0 dX9_draw_23 rfl rfl ?_
    obtain ⟨hf, h⟩ := h
    refine J_getI fl_RX9_139 dX9_draw_24 hf ?_
    refine J_bipush 16 dX9_draw_27 (by decide) ?_
    refine J_iushr dX9_draw_29 ?_
    refine J_sipush 32767 dX9_draw_30 (by decide) ?_
    refine J_iand dX9_draw_33 ?_
    refine J_iload_n 1 dX9_draw_34 rfl rfl ?_
    obtain ⟨hz, h⟩ := h
    refine J_irem dX9_draw_35 hz ?_
    exact J_lv [0, 1] rfl (K_X9_draw_36   a0 a1  (((((gI (sI st a0 5 (((gI st a0 5) * 1103515245) + 12345)) a0 5 : Int32).toUInt32 >>> ((16 : Int32).toUInt32 &&& Int32.toUInt32 31)).toInt32) &&& 32767) - ((((gI (sI st a0 5 (((gI st a0 5) * 1103515245) + 12345)) a0 5 : Int32).toUInt32 >>> ((16 : Int32).toUInt32 &&& Int32.toUInt32 31)).toInt32) &&& 32767) / a1 * a1) (sI st a0 5 (((gI st a0 5) * 1103515245) + 12345)) h)
  · have h := h.2 hc
    refine J_iconst 0 dX9_draw_19 (by decide) ?_
    refine J_goto 36 dX9_draw_20 (by decide) ?_
    exact J_lv [0, 1] rfl (K_X9_draw_36   a0 a1  0 (sI st a0 5 (((gI st a0 5) * 1103515245) + 12345)) h)
/-! X9_newlyLed -/
def P_X9_newlyLed  (a0 : Nat) (a1 : Int32) (st : St) (post : Int32 → St → Prop) : Prop := ∃ r_1, rv st a0 9 1 = some r_1 ∧ oC r_1 2 ∧ P_X2_ledBits  r_1 a1 st (fun z_2 st_3 => P_J6_bitCount_0f7a4  z_2 st_3 (fun z_4 st_5 => ∃ r_6, rv st_5 a0 9 0 = some r_6 ∧ oC r_6 2 ∧ P_X2_ledBits  r_6 a1 st_5 (fun z_7 st_8 => P_J6_bitCount_0f7a4  z_7 st_8 (fun z_9 st_10 => post (z_4 - z_9) st_10))))
set_option maxRecDepth 100000 in
set_option maxHeartbeats 4000000 in
theorem ct_X9_newlyLed {l : Launch} {E : En}  {a0 : Nat} {a1 : Int32} {st : St} {post : Int32 → St → Prop} (h : P_X9_newlyLed  a0 a1 st post) : CtI l E (CFc E) 2 0 0 yX9_newlyLed cX9_newlyLed 2 (some .int) [.ref a0, .int a1] st post := by
  refine ctI_of (by decide) (Nat.le_of_ble_eq_true rfl) ?_
  show Jg l E (CFc E) (Rm 2 0 0) cX9_newlyLed 2 RX9 (some .int) (fun _ => True) (QI E post 0 0) 0 0 0 [(0, .ref a0), (1, .int a1)] [] st
  unfold P_X9_newlyLed at h
  refine J_aload_n 0 dX9_newlyLed_0 rfl rfl ?_
  obtain ⟨r_1, hf, h⟩ := h
  refine J_getR fl_RX9_22 dX9_newlyLed_1 hf ?_
  refine J_iload_n 1 dX9_newlyLed_4 rfl rfl ?_
  obtain ⟨ho, h⟩ := h
  refine J_cvi (As := [_]) md_X2_ledBits k_602 (rc_obj cl_2 ho) rfl rfl ⟨Nat.le_of_ble_eq_true rfl, Nat.le_of_ble_eq_true rfl⟩ ⟨Nat.le_of_ble_eq_true rfl, Nat.le_of_ble_eq_true rfl⟩ (Nat.le_of_ble_eq_true rfl) dX9_newlyLed_5 (ct_X2_ledBits  h) (fun z_2 st_3 h => ?_)
  refine J_csi (As := [_]) md_J6_bitCount_0f7a4 k_603 rfl rfl ⟨Nat.le_of_ble_eq_true rfl, Nat.le_of_ble_eq_true rfl⟩ ⟨Nat.le_of_ble_eq_true rfl, Nat.le_of_ble_eq_true rfl⟩ (Nat.le_of_ble_eq_true rfl) dX9_newlyLed_8 (ct_J6_bitCount_0f7a4  h) (fun z_4 st_5 h => ?_)
  refine J_aload_n 0 dX9_newlyLed_11 rfl rfl ?_
  obtain ⟨r_6, hf, h⟩ := h
  refine J_getR fl_RX9_18 dX9_newlyLed_12 hf ?_
  refine J_iload_n 1 dX9_newlyLed_15 rfl rfl ?_
  obtain ⟨ho, h⟩ := h
  refine J_cvi (As := [_]) md_X2_ledBits k_602 (rc_obj cl_2 ho) rfl rfl ⟨Nat.le_of_ble_eq_true rfl, Nat.le_of_ble_eq_true rfl⟩ ⟨Nat.le_of_ble_eq_true rfl, Nat.le_of_ble_eq_true rfl⟩ (Nat.le_of_ble_eq_true rfl) dX9_newlyLed_16 (ct_X2_ledBits  h) (fun z_7 st_8 h => ?_)
  refine J_csi (As := [_]) md_J6_bitCount_0f7a4 k_603 rfl rfl ⟨Nat.le_of_ble_eq_true rfl, Nat.le_of_ble_eq_true rfl⟩ ⟨Nat.le_of_ble_eq_true rfl, Nat.le_of_ble_eq_true rfl⟩ (Nat.le_of_ble_eq_true rfl) dX9_newlyLed_19 (ct_J6_bitCount_0f7a4  h) (fun z_9 st_10 h => ?_)
  refine J_isub dX9_newlyLed_22 ?_
  exact J_reti rfl dX9_newlyLed_23 h
/-! X9_takeChance -/
def P_X9_takeChance_146  (a0 : Nat)  (post : St → Prop)  (st : St) : Prop := post st
def P_X9_takeChance_66  (a0 : Nat)  (post : St → Prop) (x1 : Int32) (st : St) : Prop := ((¬ x1 = 1 → P_X9_takeChance_146  a0  post st) ∧ (x1 = 1 → ∃ r_1, rv st a0 9 0 = some r_1 ∧ ∃ r_2, rv st r_1 2 0 = some r_2 ∧ fk r_2 3 1 = some 0 ∧ (((gI st r_2 1) ≤ 0 → P_X9_takeChance_146  a0  post st) ∧ (¬ (gI st r_2 1) ≤ 0 → ∃ r_3, rv st a0 9 0 = some r_3 ∧ ∃ r_4, rv st r_3 2 0 = some r_4 ∧ fk r_4 3 1 = some 0 ∧ oC a0 9 ∧ P_X9_draw  a0 (gI st r_4 1) st (fun z_5 st_6 => ∃ r_7, rv st_6 a0 9 1 = some r_7 ∧ oC r_7 2 ∧ P_X2_isHome  r_7 z_5 st_6 (fun z_8 st_9 => ((z_8 = 0 → P_X9_takeChance_146  a0  post st_9) ∧ (¬ z_8 = 0 → ∃ r_10, rv st_9 a0 9 1 = some r_10 ∧ oC r_10 2 ∧ P_X2_weddingOf  r_10 z_5 st_9 (fun z_11 st_12 => ∃ r_13, rv st_12 a0 9 1 = some r_13 ∧ oC r_13 2 ∧ P_X2_today  r_13 st_12 (fun z_14 st_15 => ((z_11 < z_14 → P_X9_takeChance_146  a0  post st_15) ∧ (¬ z_11 < z_14 → ∃ r_16, rv st_15 a0 9 1 = some r_16 ∧ ∃ r_17, rv st_15 a0 9 1 = some r_17 ∧ oC r_17 2 ∧ P_X2_weddingOf  r_17 z_5 st_15 (fun z_18 st_19 => oC r_16 2 ∧ P_X2_setWedding  r_16 z_5 (z_18 + 2) st_19 (fun st_21 => P_X9_takeChance_146  a0  post st_21))))))))))))))
def P_X9_takeChance  (a0 : Nat) (st : St) (post : St → Prop) : Prop := oC a0 9 ∧ P_X9_draw  a0 6 st (fun z_1 st_2 => ((¬ z_1 = 0 → P_X9_takeChance_66  a0  post z_1 st_2) ∧ (z_1 = 0 → ∃ r_3, rv st_2 a0 9 0 = some r_3 ∧ ∃ r_4, rv st_2 r_3 2 0 = some r_4 ∧ fk r_4 3 0 = some 0 ∧ (((gI st_2 r_4 0) ≤ 0 → P_X9_takeChance_66  a0  post z_1 st_2) ∧ (¬ (gI st_2 r_4 0) ≤ 0 → ∃ r_5, rv st_2 a0 9 0 = some r_5 ∧ ∃ r_6, rv st_2 r_5 2 0 = some r_6 ∧ fk r_6 3 0 = some 0 ∧ oC a0 9 ∧ P_X9_draw  a0 (gI st_2 r_6 0) st_2 (fun z_7 st_8 => ∃ r_9, rv st_8 a0 9 1 = some r_9 ∧ ∃ r_10, rv st_8 a0 9 1 = some r_10 ∧ oC r_10 2 ∧ P_X2_griefOf  r_10 z_7 st_8 (fun z_11 st_12 => oC r_9 2 ∧ P_X2_setGrief  r_9 z_7 (if ((z_11 + 15) : Int32) < 99 then (z_11 + 15) else 99) st_12 (fun st_14 => P_X9_takeChance_146  a0  post st_14))))))))
set_option maxRecDepth 100000 in
set_option maxHeartbeats 4000000 in
theorem K_X9_takeChance_146 {l : Launch} {E : En}   (a0 : Nat)  {post : St → Prop}    (st : St) (h : P_X9_takeChance_146  a0  post  st) : Jg l E (CFc E) (Rm 2 0 0) cX9_takeChance 3 RX9 none (fun _ => True) (QV E post 0 0) 0 0 146 [(0, .ref a0)] [] st := by
  unfold P_X9_takeChance_146 at h
  exact J_retv rfl dX9_takeChance_146 h
set_option maxRecDepth 100000 in
set_option maxHeartbeats 4000000 in
theorem K_X9_takeChance_66 {l : Launch} {E : En}   (a0 : Nat)  {post : St → Prop}   (x1 : Int32) (st : St) (h : P_X9_takeChance_66  a0  post x1 st) : Jg l E (CFc E) (Rm 2 0 0) cX9_takeChance 3 RX9 none (fun _ => True) (QV E post 0 0) 0 0 66 [(0, .ref a0), (1, .int x1)] [] st := by
  unfold P_X9_takeChance_66 at h
  refine J_iload_n 1 dX9_takeChance_66 rfl rfl ?_
  refine J_iconst 1 dX9_takeChance_67 (by decide) ?_
  refine J_icmp_ne 146 dX9_takeChance_68 (by decide) (fun hc => ?_) (fun hc => ?_)
  · have h := h.1 hc
    exact J_lv [0] rfl (K_X9_takeChance_146   a0  st h)
  · have h := h.2 hc
    refine J_aload_n 0 dX9_takeChance_71 rfl rfl ?_
    obtain ⟨r_1, hf, h⟩ := h
    refine J_getR fl_RX9_18 dX9_takeChance_72 hf ?_
    obtain ⟨r_2, hf, h⟩ := h
    refine J_getR fl_RX9_68 dX9_takeChance_75 hf ?_
    obtain ⟨hf, h⟩ := h
    refine J_getI fl_RX9_72 dX9_takeChance_78 hf ?_
    refine J_if_le 146 dX9_takeChance_81 (by decide) (fun hc => ?_) (fun hc => ?_)
    · have h := h.1 hc
      exact J_lv [0] rfl (K_X9_takeChance_146   a0  st h)
    · have h := h.2 hc
      refine J_aload_n 0 dX9_takeChance_84 rfl rfl ?_
      refine J_aload_n 0 dX9_takeChance_85 rfl rfl ?_
      obtain ⟨r_3, hf, h⟩ := h
      refine J_getR fl_RX9_18 dX9_takeChance_86 hf ?_
      obtain ⟨r_4, hf, h⟩ := h
      refine J_getR fl_RX9_68 dX9_takeChance_89 hf ?_
      obtain ⟨hf, h⟩ := h
      refine J_getI fl_RX9_72 dX9_takeChance_92 hf ?_
      obtain ⟨ho, h⟩ := h
      refine J_cvi (As := [_]) md_X9_draw k_666 (rc_obj cl_9 ho) rfl rfl ⟨Nat.le_of_ble_eq_true rfl, Nat.le_of_ble_eq_true rfl⟩ ⟨Nat.le_of_ble_eq_true rfl, Nat.le_of_ble_eq_true rfl⟩ (Nat.le_of_ble_eq_true rfl) dX9_takeChance_95 (ct_X9_draw  h) (fun z_5 st_6 h => ?_)
      refine J_istore_n _ dX9_takeChance_98 rfl (by decide) rfl ?_
      refine J_aload_n 1 dX9_takeChance_99 rfl rfl ?_
      obtain ⟨r_7, hf, h⟩ := h
      refine J_getR fl_RX9_22 dX9_takeChance_100 hf ?_
      refine J_iload_n 0 dX9_takeChance_103 rfl rfl ?_
      obtain ⟨ho, h⟩ := h
      refine J_cvi (As := [_]) md_X2_isHome k_604 (rc_obj cl_2 ho) rfl rfl ⟨Nat.le_of_ble_eq_true rfl, Nat.le_of_ble_eq_true rfl⟩ ⟨Nat.le_of_ble_eq_true rfl, Nat.le_of_ble_eq_true rfl⟩ (Nat.le_of_ble_eq_true rfl) dX9_takeChance_104 (ct_X2_isHome  h) (fun z_8 st_9 h => ?_)
      refine J_if_eq 146 dX9_takeChance_107 (by decide) (fun hc => ?_) (fun hc => ?_)
      · have h := h.1 hc
        exact J_lv [1] rfl (K_X9_takeChance_146   a0  st_9 h)
      · have h := h.2 hc
        refine J_aload_n 1 dX9_takeChance_110 rfl rfl ?_
        obtain ⟨r_10, hf, h⟩ := h
        refine J_getR fl_RX9_22 dX9_takeChance_111 hf ?_
        refine J_iload_n 0 dX9_takeChance_114 rfl rfl ?_
        obtain ⟨ho, h⟩ := h
        refine J_cvi (As := [_]) md_X2_weddingOf k_671 (rc_obj cl_2 ho) rfl rfl ⟨Nat.le_of_ble_eq_true rfl, Nat.le_of_ble_eq_true rfl⟩ ⟨Nat.le_of_ble_eq_true rfl, Nat.le_of_ble_eq_true rfl⟩ (Nat.le_of_ble_eq_true rfl) dX9_takeChance_115 (ct_X2_weddingOf  h) (fun z_11 st_12 h => ?_)
        refine J_aload_n 1 dX9_takeChance_118 rfl rfl ?_
        obtain ⟨r_13, hf, h⟩ := h
        refine J_getR fl_RX9_22 dX9_takeChance_119 hf ?_
        obtain ⟨ho, h⟩ := h
        refine J_cvi (As := []) md_X2_today k_588 (rc_obj cl_2 ho) rfl rfl ⟨Nat.le_of_ble_eq_true rfl, Nat.le_of_ble_eq_true rfl⟩ ⟨Nat.le_of_ble_eq_true rfl, Nat.le_of_ble_eq_true rfl⟩ (Nat.le_of_ble_eq_true rfl) dX9_takeChance_122 (ct_X2_today  h) (fun z_14 st_15 h => ?_)
        refine J_icmp_lt 146 dX9_takeChance_125 (by decide) (fun hc => ?_) (fun hc => ?_)
        · have h := h.1 hc
          exact J_lv [1] rfl (K_X9_takeChance_146   a0  st_15 h)
        · have h := h.2 hc
          refine J_aload_n 1 dX9_takeChance_128 rfl rfl ?_
          obtain ⟨r_16, hf, h⟩ := h
          refine J_getR fl_RX9_22 dX9_takeChance_129 hf ?_
          refine J_iload_n 0 dX9_takeChance_132 rfl rfl ?_
          refine J_aload_n 1 dX9_takeChance_133 rfl rfl ?_
          obtain ⟨r_17, hf, h⟩ := h
          refine J_getR fl_RX9_22 dX9_takeChance_134 hf ?_
          refine J_iload_n 0 dX9_takeChance_137 rfl rfl ?_
          obtain ⟨ho, h⟩ := h
          refine J_cvi (As := [_]) md_X2_weddingOf k_671 (rc_obj cl_2 ho) rfl rfl ⟨Nat.le_of_ble_eq_true rfl, Nat.le_of_ble_eq_true rfl⟩ ⟨Nat.le_of_ble_eq_true rfl, Nat.le_of_ble_eq_true rfl⟩ (Nat.le_of_ble_eq_true rfl) dX9_takeChance_138 (ct_X2_weddingOf  h) (fun z_18 st_19 h => ?_)
          refine J_iconst 2 dX9_takeChance_141 (by decide) ?_
          refine J_iadd dX9_takeChance_142 ?_
          obtain ⟨ho, h⟩ := h
          refine J_cvv (As := [_, _]) md_X2_setWedding k_611 (rc_obj cl_2 ho) rfl rfl ⟨Nat.le_of_ble_eq_true rfl, Nat.le_of_ble_eq_true rfl⟩ ⟨Nat.le_of_ble_eq_true rfl, Nat.le_of_ble_eq_true rfl⟩ (Nat.le_of_ble_eq_true rfl) dX9_takeChance_143 (ct_X2_setWedding  h) (fun st_21 h => ?_)
          exact J_lv [1] rfl (K_X9_takeChance_146   a0  st_21 h)
set_option maxRecDepth 100000 in
set_option maxHeartbeats 4000000 in
theorem ct_X9_takeChance {l : Launch} {E : En}  {a0 : Nat} {st : St} {post : St → Prop} (h : P_X9_takeChance  a0 st post) : CtV l E (CFc E) 2 0 0 yX9_takeChance cX9_takeChance 3 none [.ref a0] st post := by
  refine ctV_of (by decide) (Nat.le_of_ble_eq_true rfl) ?_
  show Jg l E (CFc E) (Rm 2 0 0) cX9_takeChance 3 RX9 none (fun _ => True) (QV E post 0 0) 0 0 0 [(0, .ref a0)] [] st
  unfold P_X9_takeChance at h
  refine J_aload_n 0 dX9_takeChance_0 rfl rfl ?_
  refine J_bipush 6 dX9_takeChance_1 (by decide) ?_
  obtain ⟨ho, h⟩ := h
  refine J_cvi (As := [_]) md_X9_draw k_666 (rc_obj cl_9 ho) rfl rfl ⟨Nat.le_of_ble_eq_true rfl, Nat.le_of_ble_eq_true rfl⟩ ⟨Nat.le_of_ble_eq_true rfl, Nat.le_of_ble_eq_true rfl⟩ (Nat.le_of_ble_eq_true rfl) dX9_takeChance_3 (ct_X9_draw  h) (fun z_1 st_2 h => ?_)
  refine J_istore_n _ dX9_takeChance_6 rfl (by decide) rfl ?_
  refine J_iload_n 0 dX9_takeChance_7 rfl rfl ?_
  refine J_if_ne 66 dX9_takeChance_8 (by decide) (fun hc => ?_) (fun hc => ?_)
  · have h := h.1 hc
    exact J_lv [1, 0] rfl (K_X9_takeChance_66   a0  z_1 st_2 h)
  · have h := h.2 hc
    refine J_aload_n 1 dX9_takeChance_11 rfl rfl ?_
    obtain ⟨r_3, hf, h⟩ := h
    refine J_getR fl_RX9_18 dX9_takeChance_12 hf ?_
    obtain ⟨r_4, hf, h⟩ := h
    refine J_getR fl_RX9_68 dX9_takeChance_15 hf ?_
    obtain ⟨hf, h⟩ := h
    refine J_getI fl_RX9_116 dX9_takeChance_18 hf ?_
    refine J_if_le 66 dX9_takeChance_21 (by decide) (fun hc => ?_) (fun hc => ?_)
    · have h := h.1 hc
      exact J_lv [1, 0] rfl (K_X9_takeChance_66   a0  z_1 st_2 h)
    · have h := h.2 hc
      refine J_aload_n 1 dX9_takeChance_24 rfl rfl ?_
      refine J_aload_n 1 dX9_takeChance_25 rfl rfl ?_
      obtain ⟨r_5, hf, h⟩ := h
      refine J_getR fl_RX9_18 dX9_takeChance_26 hf ?_
      obtain ⟨r_6, hf, h⟩ := h
      refine J_getR fl_RX9_68 dX9_takeChance_29 hf ?_
      obtain ⟨hf, h⟩ := h
      refine J_getI fl_RX9_116 dX9_takeChance_32 hf ?_
      obtain ⟨ho, h⟩ := h
      refine J_cvi (As := [_]) md_X9_draw k_666 (rc_obj cl_9 ho) rfl rfl ⟨Nat.le_of_ble_eq_true rfl, Nat.le_of_ble_eq_true rfl⟩ ⟨Nat.le_of_ble_eq_true rfl, Nat.le_of_ble_eq_true rfl⟩ (Nat.le_of_ble_eq_true rfl) dX9_takeChance_35 (ct_X9_draw  h) (fun z_7 st_8 h => ?_)
      refine J_istore_n _ dX9_takeChance_38 rfl (by decide) rfl ?_
      refine J_aload_n 2 dX9_takeChance_39 rfl rfl ?_
      obtain ⟨r_9, hf, h⟩ := h
      refine J_getR fl_RX9_22 dX9_takeChance_40 hf ?_
      refine J_iload_n 0 dX9_takeChance_43 rfl rfl ?_
      refine J_bipush 99 dX9_takeChance_44 (by decide) ?_
      refine J_aload_n 2 dX9_takeChance_46 rfl rfl ?_
      obtain ⟨r_10, hf, h⟩ := h
      refine J_getR fl_RX9_22 dX9_takeChance_47 hf ?_
      refine J_iload_n 0 dX9_takeChance_50 rfl rfl ?_
      obtain ⟨ho, h⟩ := h
      refine J_cvi (As := [_]) md_X2_griefOf k_669 (rc_obj cl_2 ho) rfl rfl ⟨Nat.le_of_ble_eq_true rfl, Nat.le_of_ble_eq_true rfl⟩ ⟨Nat.le_of_ble_eq_true rfl, Nat.le_of_ble_eq_true rfl⟩ (Nat.le_of_ble_eq_true rfl) dX9_takeChance_51 (ct_X2_griefOf  h) (fun z_11 st_12 h => ?_)
      refine J_bipush 15 dX9_takeChance_54 (by decide) ?_
      refine J_iadd dX9_takeChance_56 ?_
      refine J_mmin k_618 k_162 k_158 k_163 ⟨Nat.le_of_ble_eq_true rfl, Nat.le_of_ble_eq_true rfl, Nat.le_of_ble_eq_true rfl, Nat.le_of_ble_eq_true rfl⟩ dX9_takeChance_57 ?_
      obtain ⟨ho, h⟩ := h
      refine J_cvv (As := [_, _]) md_X2_setGrief k_670 (rc_obj cl_2 ho) rfl rfl ⟨Nat.le_of_ble_eq_true rfl, Nat.le_of_ble_eq_true rfl⟩ ⟨Nat.le_of_ble_eq_true rfl, Nat.le_of_ble_eq_true rfl⟩ (Nat.le_of_ble_eq_true rfl) dX9_takeChance_60 (ct_X2_setGrief  h) (fun st_14 h => ?_)
      refine J_goto 146 dX9_takeChance_63 (by decide) ?_
      exact J_lv [2] rfl (K_X9_takeChance_146   a0  st_14 h)
/-! X9_letPass -/
def P_X9_letPass_13  (a0 : Nat) (a1 : Int32)  (post : St → Prop) : Nat → Int32 → St → Prop
  | 0, _, _ => False
  | n9 + 1, x2, st => ((a1 ≤ x2 → post st) ∧ (¬ a1 ≤ x2 → ∃ r_1, rv st a0 9 1 = some r_1 ∧ oC r_1 2 ∧ P_X2_passDay  r_1 st (fun st_3 => P_X9_letPass_13  a0 a1  post n9 (x2 + 1) st_3)))
def P_X9_letPass  (a0 : Nat) (a1 : Int32) (st : St) (post : St → Prop) : Prop := ∃ r_1, rv st a0 9 1 = some r_1 ∧ ∃ r_2, rv st a0 9 0 = some r_2 ∧ oC r_1 2 ∧ P_X2_copyFrom  r_1 r_2 st (fun st_4 => ∃ n8, P_X9_letPass_13  a0 a1  post n8 0 st_4)
set_option maxRecDepth 100000 in
set_option maxHeartbeats 4000000 in
theorem K_X9_letPass_13 {l : Launch} {E : En}   (a0 : Nat) (a1 : Int32)  {post : St → Prop}   : ∀ (n9 : Nat) (x2 : Int32) (st : St), P_X9_letPass_13  a0 a1  post n9 x2 st → Jg l E (CFc E) (Rm 6 0 0) cX9_letPass 3 RX9 none (fun _ => True) (QV E post 0 0) 0 0 13 [(0, .ref a0), (1, .int a1), (2, .int x2)] [] st := by
  intro n9
  induction n9 with
  | zero => intro x2 st h; exact h.elim
  | succ n9 ih =>
    intro x2 st h
    unfold P_X9_letPass_13 at h
    refine J_iload_n 2 dX9_letPass_13 rfl rfl ?_
    refine J_iload_n 1 dX9_letPass_14 rfl rfl ?_
    refine J_icmp_ge 31 dX9_letPass_15 (by decide) (fun hc => ?_) (fun hc => ?_)
    · have h := h.1 hc
      exact J_retv rfl dX9_letPass_31 h
    · have h := h.2 hc
      refine J_aload_n 0 dX9_letPass_18 rfl rfl ?_
      obtain ⟨r_1, hf, h⟩ := h
      refine J_getR fl_RX9_22 dX9_letPass_19 hf ?_
      obtain ⟨ho, h⟩ := h
      refine J_cvv (As := []) md_X2_passDay k_584 (rc_obj cl_2 ho) rfl rfl ⟨Nat.le_of_ble_eq_true rfl, Nat.le_of_ble_eq_true rfl⟩ ⟨Nat.le_of_ble_eq_true rfl, Nat.le_of_ble_eq_true rfl⟩ (Nat.le_of_ble_eq_true rfl) dX9_letPass_22 (ct_X2_passDay  h) (fun st_3 h => ?_)
      refine J_iinc 2 (x2 + 1) _ dX9_letPass_25 rfl (by rfl) (by decide) rfl ?_
      refine J_goto 13 dX9_letPass_28 (by decide) ?_
      exact J_lv [1, 2, 0] rfl (ih (x2 + 1) st_3 h)
set_option maxRecDepth 100000 in
set_option maxHeartbeats 4000000 in
theorem ct_X9_letPass {l : Launch} {E : En}  {a0 : Nat} {a1 : Int32} {st : St} {post : St → Prop} (h : P_X9_letPass  a0 a1 st post) : CtV l E (CFc E) 6 0 0 yX9_letPass cX9_letPass 3 none [.ref a0, .int a1] st post := by
  refine ctV_of (by decide) (Nat.le_of_ble_eq_true rfl) ?_
  show Jg l E (CFc E) (Rm 6 0 0) cX9_letPass 3 RX9 none (fun _ => True) (QV E post 0 0) 0 0 0 [(0, .ref a0), (1, .int a1)] [] st
  unfold P_X9_letPass at h
  refine J_aload_n 0 dX9_letPass_0 rfl rfl ?_
  obtain ⟨r_1, hf, h⟩ := h
  refine J_getR fl_RX9_22 dX9_letPass_1 hf ?_
  refine J_aload_n 0 dX9_letPass_4 rfl rfl ?_
  obtain ⟨r_2, hf, h⟩ := h
  refine J_getR fl_RX9_18 dX9_letPass_5 hf ?_
  obtain ⟨ho, h⟩ := h
  refine J_cvv (As := [_]) md_X2_copyFrom k_583 (rc_obj cl_2 ho) rfl rfl ⟨Nat.le_of_ble_eq_true rfl, Nat.le_of_ble_eq_true rfl⟩ ⟨Nat.le_of_ble_eq_true rfl, Nat.le_of_ble_eq_true rfl⟩ (Nat.le_of_ble_eq_true rfl) dX9_letPass_8 (ct_X2_copyFrom  h) (fun st_4 h => ?_)
  refine J_iconst 0 dX9_letPass_11 (by decide) ?_
  refine J_istore_n _ dX9_letPass_12 rfl (by decide) rfl ?_
  obtain ⟨n8, h⟩ := h
  exact J_lv [1, 2, 0] rfl (K_X9_letPass_13   a0 a1  n8 0 st_4 h)
/-! X9_foresee -/
def P_X9_foresee_43  (a0 : Nat)  (post : St → Prop)  (st : St) : Prop := post st
def P_X9_foresee_13  (a0 : Nat)  (post : St → Prop) : Nat → Int32 → Int32 → St → Prop
  | 0, _, _, _ => False
  | n9 + 1, x1, x2, st => ((60 ≤ x2 → P_X9_foresee_43  a0  post st) ∧ (¬ 60 ≤ x2 → ∃ r_1, rv st a0 9 1 = some r_1 ∧ oC r_1 2 ∧ P_X2_hasWeddingBefore  r_1 x1 st (fun z_2 st_3 => ((z_2 = 0 → P_X9_foresee_43  a0  post st_3) ∧ (¬ z_2 = 0 → ∃ r_4, rv st_3 a0 9 1 = some r_4 ∧ oC r_4 2 ∧ P_X2_passDay  r_4 st_3 (fun st_6 => P_X9_foresee_13  a0  post n9 x1 (x2 + 1) st_6))))))
def P_X9_foresee  (a0 : Nat) (st : St) (post : St → Prop) : Prop := ∃ r_1, rv st a0 9 0 = some r_1 ∧ oC r_1 2 ∧ P_X2_today  r_1 st (fun z_2 st_3 => ∃ n8, P_X9_foresee_13  a0  post n8 (z_2 + 60) 0 st_3)
set_option maxRecDepth 100000 in
set_option maxHeartbeats 4000000 in
theorem K_X9_foresee_43 {l : Launch} {E : En}   (a0 : Nat)  {post : St → Prop}    (st : St) (h : P_X9_foresee_43  a0  post  st) : Jg l E (CFc E) (Rm 6 0 0) cX9_foresee 3 RX9 none (fun _ => True) (QV E post 0 0) 0 0 43 [(0, .ref a0)] [] st := by
  unfold P_X9_foresee_43 at h
  exact J_retv rfl dX9_foresee_43 h
set_option maxRecDepth 100000 in
set_option maxHeartbeats 4000000 in
theorem K_X9_foresee_13 {l : Launch} {E : En}   (a0 : Nat)  {post : St → Prop}   : ∀ (n9 : Nat) (x1 : Int32) (x2 : Int32) (st : St), P_X9_foresee_13  a0  post n9 x1 x2 st → Jg l E (CFc E) (Rm 6 0 0) cX9_foresee 3 RX9 none (fun _ => True) (QV E post 0 0) 0 0 13 [(0, .ref a0), (1, .int x1), (2, .int x2)] [] st := by
  intro n9
  induction n9 with
  | zero => intro x1 x2 st h; exact h.elim
  | succ n9 ih =>
    intro x1 x2 st h
    unfold P_X9_foresee_13 at h
    refine J_iload_n 2 dX9_foresee_13 rfl rfl ?_
    refine J_bipush 60 dX9_foresee_14 (by decide) ?_
    refine J_icmp_ge 43 dX9_foresee_16 (by decide) (fun hc => ?_) (fun hc => ?_)
    · have h := h.1 hc
      exact J_lv [0] rfl (K_X9_foresee_43   a0  st h)
    · have h := h.2 hc
      refine J_aload_n 0 dX9_foresee_19 rfl rfl ?_
      obtain ⟨r_1, hf, h⟩ := h
      refine J_getR fl_RX9_22 dX9_foresee_20 hf ?_
      refine J_iload_n 1 dX9_foresee_23 rfl rfl ?_
      obtain ⟨ho, h⟩ := h
      refine J_cvi (As := [_]) md_X2_hasWeddingBefore k_589 (rc_obj cl_2 ho) rfl rfl ⟨Nat.le_of_ble_eq_true rfl, Nat.le_of_ble_eq_true rfl⟩ ⟨Nat.le_of_ble_eq_true rfl, Nat.le_of_ble_eq_true rfl⟩ (Nat.le_of_ble_eq_true rfl) dX9_foresee_24 (ct_X2_hasWeddingBefore  h) (fun z_2 st_3 h => ?_)
      refine J_if_eq 43 dX9_foresee_27 (by decide) (fun hc => ?_) (fun hc => ?_)
      · have h := h.1 hc
        exact J_lv [0] rfl (K_X9_foresee_43   a0  st_3 h)
      · have h := h.2 hc
        refine J_aload_n 0 dX9_foresee_30 rfl rfl ?_
        obtain ⟨r_4, hf, h⟩ := h
        refine J_getR fl_RX9_22 dX9_foresee_31 hf ?_
        obtain ⟨ho, h⟩ := h
        refine J_cvv (As := []) md_X2_passDay k_584 (rc_obj cl_2 ho) rfl rfl ⟨Nat.le_of_ble_eq_true rfl, Nat.le_of_ble_eq_true rfl⟩ ⟨Nat.le_of_ble_eq_true rfl, Nat.le_of_ble_eq_true rfl⟩ (Nat.le_of_ble_eq_true rfl) dX9_foresee_34 (ct_X2_passDay  h) (fun st_6 h => ?_)
        refine J_iinc 2 (x2 + 1) _ dX9_foresee_37 rfl (by rfl) (by decide) rfl ?_
        refine J_goto 13 dX9_foresee_40 (by decide) ?_
        exact J_lv [1, 2, 0] rfl (ih x1 (x2 + 1) st_6 h)
set_option maxRecDepth 100000 in
set_option maxHeartbeats 4000000 in
theorem ct_X9_foresee {l : Launch} {E : En}  {a0 : Nat} {st : St} {post : St → Prop} (h : P_X9_foresee  a0 st post) : CtV l E (CFc E) 6 0 0 yX9_foresee cX9_foresee 3 none [.ref a0] st post := by
  refine ctV_of (by decide) (Nat.le_of_ble_eq_true rfl) ?_
  show Jg l E (CFc E) (Rm 6 0 0) cX9_foresee 3 RX9 none (fun _ => True) (QV E post 0 0) 0 0 0 [(0, .ref a0)] [] st
  unfold P_X9_foresee at h
  refine J_aload_n 0 dX9_foresee_0 rfl rfl ?_
  obtain ⟨r_1, hf, h⟩ := h
  refine J_getR fl_RX9_18 dX9_foresee_1 hf ?_
  obtain ⟨ho, h⟩ := h
  refine J_cvi (As := []) md_X2_today k_588 (rc_obj cl_2 ho) rfl rfl ⟨Nat.le_of_ble_eq_true rfl, Nat.le_of_ble_eq_true rfl⟩ ⟨Nat.le_of_ble_eq_true rfl, Nat.le_of_ble_eq_true rfl⟩ (Nat.le_of_ble_eq_true rfl) dX9_foresee_4 (ct_X2_today  h) (fun z_2 st_3 h => ?_)
  refine J_bipush 60 dX9_foresee_7 (by decide) ?_
  refine J_iadd dX9_foresee_9 ?_
  refine J_istore_n _ dX9_foresee_10 rfl (by decide) rfl ?_
  refine J_iconst 0 dX9_foresee_11 (by decide) ?_
  refine J_istore_n _ dX9_foresee_12 rfl (by decide) rfl ?_
  obtain ⟨n8, h⟩ := h
  exact J_lv [2, 1, 0] rfl (K_X9_foresee_13   a0  n8 (z_2 + 60) 0 st_3 h)
/-! X9_leaderNow -/
def P_X9_leaderNow  (a0 : Nat) (a1 : Int32) (st : St) (post : Int32 → St → Prop) : Prop := ∃ r_1, rv st a0 9 1 = some r_1 ∧ ∃ r_2, rv st a0 9 0 = some r_2 ∧ oC r_1 2 ∧ P_X2_copyFrom  r_1 r_2 st (fun st_4 => oC a0 9 ∧ P_X9_foresee  a0 st_4 (fun st_6 => ∃ r_7, rv st_6 a0 9 1 = some r_7 ∧ oC r_7 2 ∧ P_X2_whoLed  r_7 a1 st_6 (fun z_8 st_9 => post z_8 st_9)))
set_option maxRecDepth 100000 in
set_option maxHeartbeats 4000000 in
theorem ct_X9_leaderNow {l : Launch} {E : En}  {a0 : Nat} {a1 : Int32} {st : St} {post : Int32 → St → Prop} (h : P_X9_leaderNow  a0 a1 st post) : CtI l E (CFc E) 7 0 0 yX9_leaderNow cX9_leaderNow 2 (some .int) [.ref a0, .int a1] st post := by
  refine ctI_of (by decide) (Nat.le_of_ble_eq_true rfl) ?_
  show Jg l E (CFc E) (Rm 7 0 0) cX9_leaderNow 2 RX9 (some .int) (fun _ => True) (QI E post 0 0) 0 0 0 [(0, .ref a0), (1, .int a1)] [] st
  unfold P_X9_leaderNow at h
  refine J_aload_n 0 dX9_leaderNow_0 rfl rfl ?_
  obtain ⟨r_1, hf, h⟩ := h
  refine J_getR fl_RX9_22 dX9_leaderNow_1 hf ?_
  refine J_aload_n 0 dX9_leaderNow_4 rfl rfl ?_
  obtain ⟨r_2, hf, h⟩ := h
  refine J_getR fl_RX9_18 dX9_leaderNow_5 hf ?_
  obtain ⟨ho, h⟩ := h
  refine J_cvv (As := [_]) md_X2_copyFrom k_583 (rc_obj cl_2 ho) rfl rfl ⟨Nat.le_of_ble_eq_true rfl, Nat.le_of_ble_eq_true rfl⟩ ⟨Nat.le_of_ble_eq_true rfl, Nat.le_of_ble_eq_true rfl⟩ (Nat.le_of_ble_eq_true rfl) dX9_leaderNow_8 (ct_X2_copyFrom  h) (fun st_4 h => ?_)
  refine J_aload_n 0 dX9_leaderNow_11 rfl rfl ?_
  obtain ⟨ho, h⟩ := h
  refine J_cvv (As := []) md_X9_foresee k_593 (rc_obj cl_9 ho) rfl rfl ⟨Nat.le_of_ble_eq_true rfl, Nat.le_of_ble_eq_true rfl⟩ ⟨Nat.le_of_ble_eq_true rfl, Nat.le_of_ble_eq_true rfl⟩ (Nat.le_of_ble_eq_true rfl) dX9_leaderNow_12 (ct_X9_foresee  h) (fun st_6 h => ?_)
  refine J_aload_n 0 dX9_leaderNow_15 rfl rfl ?_
  obtain ⟨r_7, hf, h⟩ := h
  refine J_getR fl_RX9_22 dX9_leaderNow_16 hf ?_
  refine J_iload_n 1 dX9_leaderNow_19 rfl rfl ?_
  obtain ⟨ho, h⟩ := h
  refine J_cvi (As := [_]) md_X2_whoLed k_597 (rc_obj cl_2 ho) rfl rfl ⟨Nat.le_of_ble_eq_true rfl, Nat.le_of_ble_eq_true rfl⟩ ⟨Nat.le_of_ble_eq_true rfl, Nat.le_of_ble_eq_true rfl⟩ (Nat.le_of_ble_eq_true rfl) dX9_leaderNow_20 (ct_X2_whoLed  h) (fun z_8 st_9 h => ?_)
  exact J_reti rfl dX9_leaderNow_23 h
/-! X9_leastTrains -/
def P_X9_leastTrains_15  (a0 : Nat) (a1 : Int32) (a2 : Int32)  (post : Int32 → St → Prop) : Nat → Int32 → St → Prop
  | 0, _, _ => False
  | n9 + 1, x3, st => ((9 < x3 → post (-1) st) ∧ (¬ 9 < x3 → ∃ r_1, rv st a0 9 1 = some r_1 ∧ ∃ r_2, rv st a0 9 0 = some r_2 ∧ oC r_1 2 ∧ P_X2_copyFrom  r_1 r_2 st (fun st_4 => ∃ r_5, rv st_4 a0 9 1 = some r_5 ∧ oC r_5 2 ∧ P_X2_setTrains  r_5 a1 x3 st_4 (fun st_7 => oC a0 9 ∧ P_X9_foresee  a0 st_7 (fun st_9 => ∃ r_10, rv st_9 a0 9 1 = some r_10 ∧ oC r_10 2 ∧ P_X2_whoLed  r_10 a2 st_9 (fun z_11 st_12 => ((¬ z_11 = a1 → P_X9_leastTrains_15  a0 a1 a2  post n9 (x3 + 1) st_12) ∧ (z_11 = a1 → post x3 st_12))))))))
def P_X9_leastTrains  (a0 : Nat) (a1 : Int32) (a2 : Int32) (st : St) (post : Int32 → St → Prop) : Prop := ∃ r_1, rv st a0 9 0 = some r_1 ∧ oC r_1 2 ∧ P_X2_isHome  r_1 a2 st (fun z_2 st_3 => ((¬ z_2 = 0 → ∃ n8, P_X9_leastTrains_15  a0 a1 a2  post n8 0 st_3) ∧ (z_2 = 0 → post (-1) st_3)))
set_option maxRecDepth 100000 in
set_option maxHeartbeats 4000000 in
theorem K_X9_leastTrains_15 {l : Launch} {E : En}   (a0 : Nat) (a1 : Int32) (a2 : Int32)  {post : Int32 → St → Prop}   : ∀ (n9 : Nat) (x3 : Int32) (st : St), P_X9_leastTrains_15  a0 a1 a2  post n9 x3 st → Jg l E (CFc E) (Rm 7 0 0) cX9_leastTrains 4 RX9 (some .int) (fun _ => True) (QI E post 0 0) 0 0 15 [(0, .ref a0), (1, .int a1), (2, .int a2), (3, .int x3)] [] st := by
  intro n9
  induction n9 with
  | zero => intro x3 st h; exact h.elim
  | succ n9 ih =>
    intro x3 st h
    unfold P_X9_leastTrains_15 at h
    refine J_iload_n 3 dX9_leastTrains_15 rfl rfl ?_
    refine J_bipush 9 dX9_leastTrains_16 (by decide) ?_
    refine J_icmp_gt 65 dX9_leastTrains_18 (by decide) (fun hc => ?_) (fun hc => ?_)
    · have h := h.1 hc
      refine J_iconst (-1) dX9_leastTrains_65 (by decide) ?_
      exact J_reti rfl dX9_leastTrains_66 h
    · have h := h.2 hc
      refine J_aload_n 0 dX9_leastTrains_21 rfl rfl ?_
      obtain ⟨r_1, hf, h⟩ := h
      refine J_getR fl_RX9_22 dX9_leastTrains_22 hf ?_
      refine J_aload_n 0 dX9_leastTrains_25 rfl rfl ?_
      obtain ⟨r_2, hf, h⟩ := h
      refine J_getR fl_RX9_18 dX9_leastTrains_26 hf ?_
      obtain ⟨ho, h⟩ := h
      refine J_cvv (As := [_]) md_X2_copyFrom k_583 (rc_obj cl_2 ho) rfl rfl ⟨Nat.le_of_ble_eq_true rfl, Nat.le_of_ble_eq_true rfl⟩ ⟨Nat.le_of_ble_eq_true rfl, Nat.le_of_ble_eq_true rfl⟩ (Nat.le_of_ble_eq_true rfl) dX9_leastTrains_29 (ct_X2_copyFrom  h) (fun st_4 h => ?_)
      refine J_aload_n 0 dX9_leastTrains_32 rfl rfl ?_
      obtain ⟨r_5, hf, h⟩ := h
      refine J_getR fl_RX9_22 dX9_leastTrains_33 hf ?_
      refine J_iload_n 1 dX9_leastTrains_36 rfl rfl ?_
      refine J_iload_n 3 dX9_leastTrains_37 rfl rfl ?_
      obtain ⟨ho, h⟩ := h
      refine J_cvv (As := [_, _]) md_X2_setTrains k_605 (rc_obj cl_2 ho) rfl rfl ⟨Nat.le_of_ble_eq_true rfl, Nat.le_of_ble_eq_true rfl⟩ ⟨Nat.le_of_ble_eq_true rfl, Nat.le_of_ble_eq_true rfl⟩ (Nat.le_of_ble_eq_true rfl) dX9_leastTrains_38 (ct_X2_setTrains  h) (fun st_7 h => ?_)
      refine J_aload_n 0 dX9_leastTrains_41 rfl rfl ?_
      obtain ⟨ho, h⟩ := h
      refine J_cvv (As := []) md_X9_foresee k_593 (rc_obj cl_9 ho) rfl rfl ⟨Nat.le_of_ble_eq_true rfl, Nat.le_of_ble_eq_true rfl⟩ ⟨Nat.le_of_ble_eq_true rfl, Nat.le_of_ble_eq_true rfl⟩ (Nat.le_of_ble_eq_true rfl) dX9_leastTrains_42 (ct_X9_foresee  h) (fun st_9 h => ?_)
      refine J_aload_n 0 dX9_leastTrains_45 rfl rfl ?_
      obtain ⟨r_10, hf, h⟩ := h
      refine J_getR fl_RX9_22 dX9_leastTrains_46 hf ?_
      refine J_iload_n 2 dX9_leastTrains_49 rfl rfl ?_
      obtain ⟨ho, h⟩ := h
      refine J_cvi (As := [_]) md_X2_whoLed k_597 (rc_obj cl_2 ho) rfl rfl ⟨Nat.le_of_ble_eq_true rfl, Nat.le_of_ble_eq_true rfl⟩ ⟨Nat.le_of_ble_eq_true rfl, Nat.le_of_ble_eq_true rfl⟩ (Nat.le_of_ble_eq_true rfl) dX9_leastTrains_50 (ct_X2_whoLed  h) (fun z_11 st_12 h => ?_)
      refine J_iload_n 1 dX9_leastTrains_53 rfl rfl ?_
      refine J_icmp_ne 59 dX9_leastTrains_54 (by decide) (fun hc => ?_) (fun hc => ?_)
      · have h := h.1 hc
        refine J_iinc 3 (x3 + 1) _ dX9_leastTrains_59 rfl (by rfl) (by decide) rfl ?_
        refine J_goto 15 dX9_leastTrains_62 (by decide) ?_
        exact J_lv [1, 2, 3, 0] rfl (ih (x3 + 1) st_12 h)
      · have h := h.2 hc
        refine J_iload_n 3 dX9_leastTrains_57 rfl rfl ?_
        exact J_reti rfl dX9_leastTrains_58 h
set_option maxRecDepth 100000 in
set_option maxHeartbeats 4000000 in
theorem ct_X9_leastTrains {l : Launch} {E : En}  {a0 : Nat} {a1 : Int32} {a2 : Int32} {st : St} {post : Int32 → St → Prop} (h : P_X9_leastTrains  a0 a1 a2 st post) : CtI l E (CFc E) 7 0 0 yX9_leastTrains cX9_leastTrains 4 (some .int) [.ref a0, .int a1, .int a2] st post := by
  refine ctI_of (by decide) (Nat.le_of_ble_eq_true rfl) ?_
  show Jg l E (CFc E) (Rm 7 0 0) cX9_leastTrains 4 RX9 (some .int) (fun _ => True) (QI E post 0 0) 0 0 0 [(0, .ref a0), (1, .int a1), (2, .int a2)] [] st
  unfold P_X9_leastTrains at h
  refine J_aload_n 0 dX9_leastTrains_0 rfl rfl ?_
  obtain ⟨r_1, hf, h⟩ := h
  refine J_getR fl_RX9_18 dX9_leastTrains_1 hf ?_
  refine J_iload_n 2 dX9_leastTrains_4 rfl rfl ?_
  obtain ⟨ho, h⟩ := h
  refine J_cvi (As := [_]) md_X2_isHome k_604 (rc_obj cl_2 ho) rfl rfl ⟨Nat.le_of_ble_eq_true rfl, Nat.le_of_ble_eq_true rfl⟩ ⟨Nat.le_of_ble_eq_true rfl, Nat.le_of_ble_eq_true rfl⟩ (Nat.le_of_ble_eq_true rfl) dX9_leastTrains_5 (ct_X2_isHome  h) (fun z_2 st_3 h => ?_)
  refine J_if_ne 13 dX9_leastTrains_8 (by decide) (fun hc => ?_) (fun hc => ?_)
  · have h := h.1 hc
    refine J_iconst 0 dX9_leastTrains_13 (by decide) ?_
    refine J_istore_n _ dX9_leastTrains_14 rfl (by decide) rfl ?_
    obtain ⟨n8, h⟩ := h
    exact J_lv [1, 2, 3, 0] rfl (K_X9_leastTrains_15   a0 a1 a2  n8 0 st_3 h)
  · have h := h.2 hc
    refine J_iconst (-1) dX9_leastTrains_11 (by decide) ?_
    exact J_reti rfl dX9_leastTrains_12 h
/-! X9_otherwiseWithout -/
def P_X9_otherwiseWithout_150  (a0 : Nat) (a1 : Int32) (k102 : Int32 → Int32 → St → Prop) (post : Int32 → St → Prop) (x2 : Int32) (x3 : Int32) (st : St) : Prop := k102 x2 (x3 + 1) st
def P_X9_otherwiseWithout_102  (a0 : Nat) (a1 : Int32)  (post : Int32 → St → Prop) : Nat → Int32 → Int32 → St → Prop
  | 0, _, _, _ => False
  | n9 + 1, x2, x3, st => ∃ r_1, rv st a0 9 0 = some r_1 ∧ ∃ r_2, rv st r_1 2 0 = some r_2 ∧ fk r_2 3 1 = some 0 ∧ (((gI st r_2 1) ≤ x3 → post x2 st) ∧ (¬ (gI st r_2 1) ≤ x3 → ∃ r_3, rv st a0 9 0 = some r_3 ∧ oC r_3 2 ∧ P_X2_isHome  r_3 x3 st (fun z_4 st_5 => ((z_4 = 0 → P_X9_otherwiseWithout_150  a0 a1 (fun x2 x3 st => P_X9_otherwiseWithout_102  a0 a1  post n9 x2 x3 st) post x2 x3 st_5) ∧ (¬ z_4 = 0 → ∃ r_6, rv st_5 a0 9 3 = some r_6 ∧ vp_in x3 (al 0 r_6) ∧ ∃ r_7, rv st_5 a0 9 1 = some r_7 ∧ oC r_7 2 ∧ P_X2_whoLed  r_7 x3 st_5 (fun z_8 st_9 => (((gA st_5 r_6 (x3 : Int32).toNatClampNeg) = z_8 → P_X9_otherwiseWithout_150  a0 a1 (fun x2 x3 st => P_X9_otherwiseWithout_102  a0 a1  post n9 x2 x3 st) post x2 x3 st_9) ∧ (¬ (gA st_5 r_6 (x3 : Int32).toNatClampNeg) = z_8 → P_X9_otherwiseWithout_150  a0 a1 (fun x2 x3 st => P_X9_otherwiseWithout_102  a0 a1  post n9 x2 x3 st) post (x2 ||| ((1 : Int32) <<< ((x3 : Int32) &&& 31))) x3 st_9))))))))
def P_X9_otherwiseWithout_64  (a0 : Nat) (a1 : Int32)  (post : Int32 → St → Prop) : Nat → Int32 → St → Prop
  | 0, _, _ => False
  | n9 + 1, x2, st => ∃ r_1, rv st a0 9 0 = some r_1 ∧ ∃ r_2, rv st r_1 2 0 = some r_2 ∧ fk r_2 3 1 = some 0 ∧ (((gI st r_2 1) ≤ x2 → oC a0 9 ∧ P_X9_foresee  a0 st (fun st_4 => ∃ n8, P_X9_otherwiseWithout_102  a0 a1  post n8 0 0 st_4)) ∧ (¬ (gI st r_2 1) ≤ x2 → ∃ r_5, rv st a0 9 1 = some r_5 ∧ oC r_5 2 ∧ P_X2_setYears  r_5 a1 x2 0 st (fun st_7 => P_X9_otherwiseWithout_64  a0 a1  post n9 (x2 + 1) st_7)))
def P_X9_otherwiseWithout_17  (a0 : Nat) (a1 : Int32)  (post : Int32 → St → Prop) : Nat → Int32 → St → Prop
  | 0, _, _ => False
  | n9 + 1, x2, st => ∃ r_1, rv st a0 9 0 = some r_1 ∧ ∃ r_2, rv st r_1 2 0 = some r_2 ∧ fk r_2 3 1 = some 0 ∧ (((gI st r_2 1) ≤ x2 → ∃ r_3, rv st a0 9 1 = some r_3 ∧ ∃ r_4, rv st a0 9 0 = some r_4 ∧ oC r_3 2 ∧ P_X2_copyFrom  r_3 r_4 st (fun st_6 => ∃ n8, P_X9_otherwiseWithout_64  a0 a1  post n8 0 st_6)) ∧ (¬ (gI st r_2 1) ≤ x2 → ∃ r_7, rv st a0 9 3 = some r_7 ∧ ∃ r_8, rv st a0 9 1 = some r_8 ∧ oC r_8 2 ∧ P_X2_whoLed  r_8 x2 st (fun z_9 st_10 => vp_in x2 (al 0 r_7) ∧ P_X9_otherwiseWithout_17  a0 a1  post n9 (x2 + 1) (sA st_10 r_7 (x2 : Int32).toNatClampNeg z_9))))
def P_X9_otherwiseWithout  (a0 : Nat) (a1 : Int32) (st : St) (post : Int32 → St → Prop) : Prop := ∃ r_1, rv st a0 9 1 = some r_1 ∧ ∃ r_2, rv st a0 9 0 = some r_2 ∧ oC r_1 2 ∧ P_X2_copyFrom  r_1 r_2 st (fun st_4 => oC a0 9 ∧ P_X9_foresee  a0 st_4 (fun st_6 => ∃ n8, P_X9_otherwiseWithout_17  a0 a1  post n8 0 st_6))
set_option maxRecDepth 100000 in
set_option maxHeartbeats 4000000 in
theorem K_X9_otherwiseWithout_150 {l : Launch} {E : En}   (a0 : Nat) (a1 : Int32) {k102 : Int32 → Int32 → St → Prop} {post : Int32 → St → Prop}  (hk102 : ∀ (x2 : Int32) (x3 : Int32) (st : St), k102 x2 x3 st → Jg l E (CFc E) (Rm 7 0 0) cX9_otherwiseWithout 4 RX9 (some .int) (fun _ => True) (QI E post 0 0) 0 0 102 [(0, .ref a0), (1, .int a1), (2, .int x2), (3, .int x3)] [] st) (x2 : Int32) (x3 : Int32) (st : St) (h : P_X9_otherwiseWithout_150  a0 a1 k102 post x2 x3 st) : Jg l E (CFc E) (Rm 7 0 0) cX9_otherwiseWithout 4 RX9 (some .int) (fun _ => True) (QI E post 0 0) 0 0 150 [(0, .ref a0), (1, .int a1), (2, .int x2), (3, .int x3)] [] st := by
  unfold P_X9_otherwiseWithout_150 at h
  refine J_iinc 3 (x3 + 1) _ dX9_otherwiseWithout_150 rfl (by rfl) (by decide) rfl ?_
  refine J_goto 102 dX9_otherwiseWithout_153 (by decide) ?_
  exact J_lv [1, 2, 3, 0] rfl (hk102 x2 (x3 + 1) st h)
set_option maxRecDepth 100000 in
set_option maxHeartbeats 4000000 in
theorem K_X9_otherwiseWithout_102 {l : Launch} {E : En}   (a0 : Nat) (a1 : Int32)  {post : Int32 → St → Prop}   : ∀ (n9 : Nat) (x2 : Int32) (x3 : Int32) (st : St), P_X9_otherwiseWithout_102  a0 a1  post n9 x2 x3 st → Jg l E (CFc E) (Rm 7 0 0) cX9_otherwiseWithout 4 RX9 (some .int) (fun _ => True) (QI E post 0 0) 0 0 102 [(0, .ref a0), (1, .int a1), (2, .int x2), (3, .int x3)] [] st := by
  intro n9
  induction n9 with
  | zero => intro x2 x3 st h; exact h.elim
  | succ n9 ih =>
    intro x2 x3 st h
    unfold P_X9_otherwiseWithout_102 at h
    refine J_iload_n 3 dX9_otherwiseWithout_102 rfl rfl ?_
    refine J_aload_n 0 dX9_otherwiseWithout_103 rfl rfl ?_
    obtain ⟨r_1, hf, h⟩ := h
    refine J_getR fl_RX9_18 dX9_otherwiseWithout_104 hf ?_
    obtain ⟨r_2, hf, h⟩ := h
    refine J_getR fl_RX9_68 dX9_otherwiseWithout_107 hf ?_
    obtain ⟨hf, h⟩ := h
    refine J_getI fl_RX9_72 dX9_otherwiseWithout_110 hf ?_
    refine J_icmp_ge 156 dX9_otherwiseWithout_113 (by decide) (fun hc => ?_) (fun hc => ?_)
    · have h := h.1 hc
      refine J_iload_n 2 dX9_otherwiseWithout_156 rfl rfl ?_
      exact J_reti rfl dX9_otherwiseWithout_157 h
    · have h := h.2 hc
      refine J_aload_n 0 dX9_otherwiseWithout_116 rfl rfl ?_
      obtain ⟨r_3, hf, h⟩ := h
      refine J_getR fl_RX9_18 dX9_otherwiseWithout_117 hf ?_
      refine J_iload_n 3 dX9_otherwiseWithout_120 rfl rfl ?_
      obtain ⟨ho, h⟩ := h
      refine J_cvi (As := [_]) md_X2_isHome k_604 (rc_obj cl_2 ho) rfl rfl ⟨Nat.le_of_ble_eq_true rfl, Nat.le_of_ble_eq_true rfl⟩ ⟨Nat.le_of_ble_eq_true rfl, Nat.le_of_ble_eq_true rfl⟩ (Nat.le_of_ble_eq_true rfl) dX9_otherwiseWithout_121 (ct_X2_isHome  h) (fun z_4 st_5 h => ?_)
      refine J_if_eq 150 dX9_otherwiseWithout_124 (by decide) (fun hc => ?_) (fun hc => ?_)
      · have h := h.1 hc
        exact J_lv [0, 1, 2, 3] rfl (K_X9_otherwiseWithout_150   a0 a1 (fun x2 x3 st h => ih x2 x3 st h) x2 x3 st_5 h)
      · have h := h.2 hc
        refine J_aload_n 0 dX9_otherwiseWithout_127 rfl rfl ?_
        obtain ⟨r_6, hf, h⟩ := h
        refine J_getR fl_RX9_9 dX9_otherwiseWithout_128 hf ?_
        refine J_iload_n 3 dX9_otherwiseWithout_131 rfl rfl ?_
        obtain ⟨hi, h⟩ := h
        refine J_iald dX9_otherwiseWithout_132 hi ?_
        refine J_aload_n 0 dX9_otherwiseWithout_133 rfl rfl ?_
        obtain ⟨r_7, hf, h⟩ := h
        refine J_getR fl_RX9_22 dX9_otherwiseWithout_134 hf ?_
        refine J_iload_n 3 dX9_otherwiseWithout_137 rfl rfl ?_
        obtain ⟨ho, h⟩ := h
        refine J_cvi (As := [_]) md_X2_whoLed k_597 (rc_obj cl_2 ho) rfl rfl ⟨Nat.le_of_ble_eq_true rfl, Nat.le_of_ble_eq_true rfl⟩ ⟨Nat.le_of_ble_eq_true rfl, Nat.le_of_ble_eq_true rfl⟩ (Nat.le_of_ble_eq_true rfl) dX9_otherwiseWithout_138 (ct_X2_whoLed  h) (fun z_8 st_9 h => ?_)
        refine J_icmp_eq 150 dX9_otherwiseWithout_141 (by decide) (fun hc => ?_) (fun hc => ?_)
        · have h := h.1 hc
          exact J_lv [0, 1, 2, 3] rfl (K_X9_otherwiseWithout_150   a0 a1 (fun x2 x3 st h => ih x2 x3 st h) x2 x3 st_9 h)
        · have h := h.2 hc
          refine J_iload_n 2 dX9_otherwiseWithout_144 rfl rfl ?_
          refine J_iconst 1 dX9_otherwiseWithout_145 (by decide) ?_
          refine J_iload_n 3 dX9_otherwiseWithout_146 rfl rfl ?_
          refine J_ishl dX9_otherwiseWithout_147 ?_
          refine J_ior dX9_otherwiseWithout_148 ?_
          refine J_istore_n _ dX9_otherwiseWithout_149 rfl (by decide) rfl ?_
          exact J_lv [1, 2, 0, 3] rfl (K_X9_otherwiseWithout_150   a0 a1 (fun x2 x3 st h => ih x2 x3 st h) (x2 ||| ((1 : Int32) <<< ((x3 : Int32) &&& 31))) x3 st_9 h)
set_option maxRecDepth 100000 in
set_option maxHeartbeats 4000000 in
theorem K_X9_otherwiseWithout_64 {l : Launch} {E : En}   (a0 : Nat) (a1 : Int32)  {post : Int32 → St → Prop}   : ∀ (n9 : Nat) (x2 : Int32) (st : St), P_X9_otherwiseWithout_64  a0 a1  post n9 x2 st → Jg l E (CFc E) (Rm 7 0 0) cX9_otherwiseWithout 4 RX9 (some .int) (fun _ => True) (QI E post 0 0) 0 0 64 [(0, .ref a0), (1, .int a1), (2, .int x2)] [] st := by
  intro n9
  induction n9 with
  | zero => intro x2 st h; exact h.elim
  | succ n9 ih =>
    intro x2 st h
    unfold P_X9_otherwiseWithout_64 at h
    refine J_iload_n 2 dX9_otherwiseWithout_64 rfl rfl ?_
    refine J_aload_n 0 dX9_otherwiseWithout_65 rfl rfl ?_
    obtain ⟨r_1, hf, h⟩ := h
    refine J_getR fl_RX9_18 dX9_otherwiseWithout_66 hf ?_
    obtain ⟨r_2, hf, h⟩ := h
    refine J_getR fl_RX9_68 dX9_otherwiseWithout_69 hf ?_
    obtain ⟨hf, h⟩ := h
    refine J_getI fl_RX9_72 dX9_otherwiseWithout_72 hf ?_
    refine J_icmp_ge 94 dX9_otherwiseWithout_75 (by decide) (fun hc => ?_) (fun hc => ?_)
    · have h := h.1 hc
      refine J_aload_n 0 dX9_otherwiseWithout_94 rfl rfl ?_
      obtain ⟨ho, h⟩ := h
      refine J_cvv (As := []) md_X9_foresee k_593 (rc_obj cl_9 ho) rfl rfl ⟨Nat.le_of_ble_eq_true rfl, Nat.le_of_ble_eq_true rfl⟩ ⟨Nat.le_of_ble_eq_true rfl, Nat.le_of_ble_eq_true rfl⟩ (Nat.le_of_ble_eq_true rfl) dX9_otherwiseWithout_95 (ct_X9_foresee  h) (fun st_4 h => ?_)
      refine J_iconst 0 dX9_otherwiseWithout_98 (by decide) ?_
      refine J_istore_n _ dX9_otherwiseWithout_99 rfl (by decide) rfl ?_
      refine J_iconst 0 dX9_otherwiseWithout_100 (by decide) ?_
      refine J_istore_n _ dX9_otherwiseWithout_101 rfl (by decide) rfl ?_
      obtain ⟨n8, h⟩ := h
      exact J_lv [2, 3, 1, 0] rfl (K_X9_otherwiseWithout_102   a0 a1  n8 0 0 st_4 h)
    · have h := h.2 hc
      refine J_aload_n 0 dX9_otherwiseWithout_78 rfl rfl ?_
      obtain ⟨r_5, hf, h⟩ := h
      refine J_getR fl_RX9_22 dX9_otherwiseWithout_79 hf ?_
      refine J_iload_n 1 dX9_otherwiseWithout_82 rfl rfl ?_
      refine J_iload_n 2 dX9_otherwiseWithout_83 rfl rfl ?_
      refine J_iconst 0 dX9_otherwiseWithout_84 (by decide) ?_
      obtain ⟨ho, h⟩ := h
      refine J_cvv (As := [_, _, _]) md_X2_setYears k_609 (rc_obj cl_2 ho) rfl rfl ⟨Nat.le_of_ble_eq_true rfl, Nat.le_of_ble_eq_true rfl⟩ ⟨Nat.le_of_ble_eq_true rfl, Nat.le_of_ble_eq_true rfl⟩ (Nat.le_of_ble_eq_true rfl) dX9_otherwiseWithout_85 (ct_X2_setYears  h) (fun st_7 h => ?_)
      refine J_iinc 2 (x2 + 1) _ dX9_otherwiseWithout_88 rfl (by rfl) (by decide) rfl ?_
      refine J_goto 64 dX9_otherwiseWithout_91 (by decide) ?_
      exact J_lv [1, 2, 0] rfl (ih (x2 + 1) st_7 h)
set_option maxRecDepth 100000 in
set_option maxHeartbeats 4000000 in
theorem K_X9_otherwiseWithout_17 {l : Launch} {E : En}   (a0 : Nat) (a1 : Int32)  {post : Int32 → St → Prop}   : ∀ (n9 : Nat) (x2 : Int32) (st : St), P_X9_otherwiseWithout_17  a0 a1  post n9 x2 st → Jg l E (CFc E) (Rm 7 0 0) cX9_otherwiseWithout 4 RX9 (some .int) (fun _ => True) (QI E post 0 0) 0 0 17 [(0, .ref a0), (1, .int a1), (2, .int x2)] [] st := by
  intro n9
  induction n9 with
  | zero => intro x2 st h; exact h.elim
  | succ n9 ih =>
    intro x2 st h
    unfold P_X9_otherwiseWithout_17 at h
    refine J_iload_n 2 dX9_otherwiseWithout_17 rfl rfl ?_
    refine J_aload_n 0 dX9_otherwiseWithout_18 rfl rfl ?_
    obtain ⟨r_1, hf, h⟩ := h
    refine J_getR fl_RX9_18 dX9_otherwiseWithout_19 hf ?_
    obtain ⟨r_2, hf, h⟩ := h
    refine J_getR fl_RX9_68 dX9_otherwiseWithout_22 hf ?_
    obtain ⟨hf, h⟩ := h
    refine J_getI fl_RX9_72 dX9_otherwiseWithout_25 hf ?_
    refine J_icmp_ge 51 dX9_otherwiseWithout_28 (by decide) (fun hc => ?_) (fun hc => ?_)
    · have h := h.1 hc
      refine J_aload_n 0 dX9_otherwiseWithout_51 rfl rfl ?_
      obtain ⟨r_3, hf, h⟩ := h
      refine J_getR fl_RX9_22 dX9_otherwiseWithout_52 hf ?_
      refine J_aload_n 0 dX9_otherwiseWithout_55 rfl rfl ?_
      obtain ⟨r_4, hf, h⟩ := h
      refine J_getR fl_RX9_18 dX9_otherwiseWithout_56 hf ?_
      obtain ⟨ho, h⟩ := h
      refine J_cvv (As := [_]) md_X2_copyFrom k_583 (rc_obj cl_2 ho) rfl rfl ⟨Nat.le_of_ble_eq_true rfl, Nat.le_of_ble_eq_true rfl⟩ ⟨Nat.le_of_ble_eq_true rfl, Nat.le_of_ble_eq_true rfl⟩ (Nat.le_of_ble_eq_true rfl) dX9_otherwiseWithout_59 (ct_X2_copyFrom  h) (fun st_6 h => ?_)
      refine J_iconst 0 dX9_otherwiseWithout_62 (by decide) ?_
      refine J_istore_n _ dX9_otherwiseWithout_63 rfl (by decide) rfl ?_
      obtain ⟨n8, h⟩ := h
      exact J_lv [1, 2, 0] rfl (K_X9_otherwiseWithout_64   a0 a1  n8 0 st_6 h)
    · have h := h.2 hc
      refine J_aload_n 0 dX9_otherwiseWithout_31 rfl rfl ?_
      obtain ⟨r_7, hf, h⟩ := h
      refine J_getR fl_RX9_9 dX9_otherwiseWithout_32 hf ?_
      refine J_iload_n 2 dX9_otherwiseWithout_35 rfl rfl ?_
      refine J_aload_n 0 dX9_otherwiseWithout_36 rfl rfl ?_
      obtain ⟨r_8, hf, h⟩ := h
      refine J_getR fl_RX9_22 dX9_otherwiseWithout_37 hf ?_
      refine J_iload_n 2 dX9_otherwiseWithout_40 rfl rfl ?_
      obtain ⟨ho, h⟩ := h
      refine J_cvi (As := [_]) md_X2_whoLed k_597 (rc_obj cl_2 ho) rfl rfl ⟨Nat.le_of_ble_eq_true rfl, Nat.le_of_ble_eq_true rfl⟩ ⟨Nat.le_of_ble_eq_true rfl, Nat.le_of_ble_eq_true rfl⟩ (Nat.le_of_ble_eq_true rfl) dX9_otherwiseWithout_41 (ct_X2_whoLed  h) (fun z_9 st_10 h => ?_)
      obtain ⟨hi, h⟩ := h
      refine J_iast dX9_otherwiseWithout_44 hi ?_
      refine J_iinc 2 (x2 + 1) _ dX9_otherwiseWithout_45 rfl (by rfl) (by decide) rfl ?_
      refine J_goto 17 dX9_otherwiseWithout_48 (by decide) ?_
      exact J_lv [1, 2, 0] rfl (ih (x2 + 1) (sA st_10 r_7 (x2 : Int32).toNatClampNeg z_9) h)
set_option maxRecDepth 100000 in
set_option maxHeartbeats 4000000 in
theorem ct_X9_otherwiseWithout {l : Launch} {E : En}  {a0 : Nat} {a1 : Int32} {st : St} {post : Int32 → St → Prop} (h : P_X9_otherwiseWithout  a0 a1 st post) : CtI l E (CFc E) 7 0 0 yX9_otherwiseWithout cX9_otherwiseWithout 4 (some .int) [.ref a0, .int a1] st post := by
  refine ctI_of (by decide) (Nat.le_of_ble_eq_true rfl) ?_
  show Jg l E (CFc E) (Rm 7 0 0) cX9_otherwiseWithout 4 RX9 (some .int) (fun _ => True) (QI E post 0 0) 0 0 0 [(0, .ref a0), (1, .int a1)] [] st
  unfold P_X9_otherwiseWithout at h
  refine J_aload_n 0 dX9_otherwiseWithout_0 rfl rfl ?_
  obtain ⟨r_1, hf, h⟩ := h
  refine J_getR fl_RX9_22 dX9_otherwiseWithout_1 hf ?_
  refine J_aload_n 0 dX9_otherwiseWithout_4 rfl rfl ?_
  obtain ⟨r_2, hf, h⟩ := h
  refine J_getR fl_RX9_18 dX9_otherwiseWithout_5 hf ?_
  obtain ⟨ho, h⟩ := h
  refine J_cvv (As := [_]) md_X2_copyFrom k_583 (rc_obj cl_2 ho) rfl rfl ⟨Nat.le_of_ble_eq_true rfl, Nat.le_of_ble_eq_true rfl⟩ ⟨Nat.le_of_ble_eq_true rfl, Nat.le_of_ble_eq_true rfl⟩ (Nat.le_of_ble_eq_true rfl) dX9_otherwiseWithout_8 (ct_X2_copyFrom  h) (fun st_4 h => ?_)
  refine J_aload_n 0 dX9_otherwiseWithout_11 rfl rfl ?_
  obtain ⟨ho, h⟩ := h
  refine J_cvv (As := []) md_X9_foresee k_593 (rc_obj cl_9 ho) rfl rfl ⟨Nat.le_of_ble_eq_true rfl, Nat.le_of_ble_eq_true rfl⟩ ⟨Nat.le_of_ble_eq_true rfl, Nat.le_of_ble_eq_true rfl⟩ (Nat.le_of_ble_eq_true rfl) dX9_otherwiseWithout_12 (ct_X9_foresee  h) (fun st_6 h => ?_)
  refine J_iconst 0 dX9_otherwiseWithout_15 (by decide) ?_
  refine J_istore_n _ dX9_otherwiseWithout_16 rfl (by decide) rfl ?_
  obtain ⟨n8, h⟩ := h
  exact J_lv [1, 2, 0] rfl (K_X9_otherwiseWithout_17   a0 a1  n8 0 st_6 h)
/-! X9_weightOfLeaderOn -/
def P_X9_weightOfLeaderOn_52  (a0 : Nat) (a1 : Int32) (a2 : Int32)  (post : Int32 → St → Prop)  (st : St) : Prop := ∃ r_1, rv st a0 9 1 = some r_1 ∧ oC r_1 2 ∧ P_X2_leaderWeight  r_1 a1 st (fun z_2 st_3 => post z_2 st_3)
def P_X9_weightOfLeaderOn_22  (a0 : Nat) (a1 : Int32) (a2 : Int32)  (post : Int32 → St → Prop) : Nat → Int32 → St → Prop
  | 0, _, _ => False
  | n9 + 1, x3, st => ((30 < x3 → P_X9_weightOfLeaderOn_52  a0 a1 a2  post st) ∧ (¬ 30 < x3 → ∃ r_1, rv st a0 9 1 = some r_1 ∧ oC r_1 2 ∧ P_X2_isHome  r_1 a1 st (fun z_2 st_3 => ((z_2 = 0 → P_X9_weightOfLeaderOn_52  a0 a1 a2  post st_3) ∧ (¬ z_2 = 0 → ∃ r_4, rv st_3 a0 9 1 = some r_4 ∧ oC r_4 2 ∧ P_X2_passDay  r_4 st_3 (fun st_6 => P_X9_weightOfLeaderOn_22  a0 a1 a2  post n9 (x3 + 1) st_6))))))
def P_X9_weightOfLeaderOn  (a0 : Nat) (a1 : Int32) (a2 : Int32) (st : St) (post : Int32 → St → Prop) : Prop := ∃ r_1, rv st a0 9 1 = some r_1 ∧ ∃ r_2, rv st a0 9 0 = some r_2 ∧ oC r_1 2 ∧ P_X2_copyFrom  r_1 r_2 st (fun st_4 => ∃ r_5, rv st_4 a0 9 1 = some r_5 ∧ oC r_5 2 ∧ P_X2_setWedding  r_5 a1 a2 st_4 (fun st_7 => ∃ n8, P_X9_weightOfLeaderOn_22  a0 a1 a2  post n8 0 st_7))
set_option maxRecDepth 100000 in
set_option maxHeartbeats 4000000 in
theorem K_X9_weightOfLeaderOn_52 {l : Launch} {E : En}   (a0 : Nat) (a1 : Int32) (a2 : Int32)  {post : Int32 → St → Prop}    (st : St) (h : P_X9_weightOfLeaderOn_52  a0 a1 a2  post  st) : Jg l E (CFc E) (Rm 6 0 0) cX9_weightOfLeaderOn 4 RX9 (some .int) (fun _ => True) (QI E post 0 0) 0 0 52 [(0, .ref a0), (1, .int a1), (2, .int a2)] [] st := by
  unfold P_X9_weightOfLeaderOn_52 at h
  refine J_aload_n 0 dX9_weightOfLeaderOn_52 rfl rfl ?_
  obtain ⟨r_1, hf, h⟩ := h
  refine J_getR fl_RX9_22 dX9_weightOfLeaderOn_53 hf ?_
  refine J_iload_n 1 dX9_weightOfLeaderOn_56 rfl rfl ?_
  obtain ⟨ho, h⟩ := h
  refine J_cvi (As := [_]) md_X2_leaderWeight k_614 (rc_obj cl_2 ho) rfl rfl ⟨Nat.le_of_ble_eq_true rfl, Nat.le_of_ble_eq_true rfl⟩ ⟨Nat.le_of_ble_eq_true rfl, Nat.le_of_ble_eq_true rfl⟩ (Nat.le_of_ble_eq_true rfl) dX9_weightOfLeaderOn_57 (ct_X2_leaderWeight  h) (fun z_2 st_3 h => ?_)
  exact J_reti rfl dX9_weightOfLeaderOn_60 h
set_option maxRecDepth 100000 in
set_option maxHeartbeats 4000000 in
theorem K_X9_weightOfLeaderOn_22 {l : Launch} {E : En}   (a0 : Nat) (a1 : Int32) (a2 : Int32)  {post : Int32 → St → Prop}   : ∀ (n9 : Nat) (x3 : Int32) (st : St), P_X9_weightOfLeaderOn_22  a0 a1 a2  post n9 x3 st → Jg l E (CFc E) (Rm 6 0 0) cX9_weightOfLeaderOn 4 RX9 (some .int) (fun _ => True) (QI E post 0 0) 0 0 22 [(0, .ref a0), (1, .int a1), (2, .int a2), (3, .int x3)] [] st := by
  intro n9
  induction n9 with
  | zero => intro x3 st h; exact h.elim
  | succ n9 ih =>
    intro x3 st h
    unfold P_X9_weightOfLeaderOn_22 at h
    refine J_iload_n 3 dX9_weightOfLeaderOn_22 rfl rfl ?_
    refine J_bipush 30 dX9_weightOfLeaderOn_23 (by decide) ?_
    refine J_icmp_gt 52 dX9_weightOfLeaderOn_25 (by decide) (fun hc => ?_) (fun hc => ?_)
    · have h := h.1 hc
      exact J_lv [0, 1, 2] rfl (K_X9_weightOfLeaderOn_52   a0 a1 a2  st h)
    · have h := h.2 hc
      refine J_aload_n 0 dX9_weightOfLeaderOn_28 rfl rfl ?_
      obtain ⟨r_1, hf, h⟩ := h
      refine J_getR fl_RX9_22 dX9_weightOfLeaderOn_29 hf ?_
      refine J_iload_n 1 dX9_weightOfLeaderOn_32 rfl rfl ?_
      obtain ⟨ho, h⟩ := h
      refine J_cvi (As := [_]) md_X2_isHome k_604 (rc_obj cl_2 ho) rfl rfl ⟨Nat.le_of_ble_eq_true rfl, Nat.le_of_ble_eq_true rfl⟩ ⟨Nat.le_of_ble_eq_true rfl, Nat.le_of_ble_eq_true rfl⟩ (Nat.le_of_ble_eq_true rfl) dX9_weightOfLeaderOn_33 (ct_X2_isHome  h) (fun z_2 st_3 h => ?_)
      refine J_if_eq 52 dX9_weightOfLeaderOn_36 (by decide) (fun hc => ?_) (fun hc => ?_)
      · have h := h.1 hc
        exact J_lv [0, 1, 2] rfl (K_X9_weightOfLeaderOn_52   a0 a1 a2  st_3 h)
      · have h := h.2 hc
        refine J_aload_n 0 dX9_weightOfLeaderOn_39 rfl rfl ?_
        obtain ⟨r_4, hf, h⟩ := h
        refine J_getR fl_RX9_22 dX9_weightOfLeaderOn_40 hf ?_
        obtain ⟨ho, h⟩ := h
        refine J_cvv (As := []) md_X2_passDay k_584 (rc_obj cl_2 ho) rfl rfl ⟨Nat.le_of_ble_eq_true rfl, Nat.le_of_ble_eq_true rfl⟩ ⟨Nat.le_of_ble_eq_true rfl, Nat.le_of_ble_eq_true rfl⟩ (Nat.le_of_ble_eq_true rfl) dX9_weightOfLeaderOn_43 (ct_X2_passDay  h) (fun st_6 h => ?_)
        refine J_iinc 3 (x3 + 1) _ dX9_weightOfLeaderOn_46 rfl (by rfl) (by decide) rfl ?_
        refine J_goto 22 dX9_weightOfLeaderOn_49 (by decide) ?_
        exact J_lv [1, 2, 3, 0] rfl (ih (x3 + 1) st_6 h)
set_option maxRecDepth 100000 in
set_option maxHeartbeats 4000000 in
theorem ct_X9_weightOfLeaderOn {l : Launch} {E : En}  {a0 : Nat} {a1 : Int32} {a2 : Int32} {st : St} {post : Int32 → St → Prop} (h : P_X9_weightOfLeaderOn  a0 a1 a2 st post) : CtI l E (CFc E) 6 0 0 yX9_weightOfLeaderOn cX9_weightOfLeaderOn 4 (some .int) [.ref a0, .int a1, .int a2] st post := by
  refine ctI_of (by decide) (Nat.le_of_ble_eq_true rfl) ?_
  show Jg l E (CFc E) (Rm 6 0 0) cX9_weightOfLeaderOn 4 RX9 (some .int) (fun _ => True) (QI E post 0 0) 0 0 0 [(0, .ref a0), (1, .int a1), (2, .int a2)] [] st
  unfold P_X9_weightOfLeaderOn at h
  refine J_aload_n 0 dX9_weightOfLeaderOn_0 rfl rfl ?_
  obtain ⟨r_1, hf, h⟩ := h
  refine J_getR fl_RX9_22 dX9_weightOfLeaderOn_1 hf ?_
  refine J_aload_n 0 dX9_weightOfLeaderOn_4 rfl rfl ?_
  obtain ⟨r_2, hf, h⟩ := h
  refine J_getR fl_RX9_18 dX9_weightOfLeaderOn_5 hf ?_
  obtain ⟨ho, h⟩ := h
  refine J_cvv (As := [_]) md_X2_copyFrom k_583 (rc_obj cl_2 ho) rfl rfl ⟨Nat.le_of_ble_eq_true rfl, Nat.le_of_ble_eq_true rfl⟩ ⟨Nat.le_of_ble_eq_true rfl, Nat.le_of_ble_eq_true rfl⟩ (Nat.le_of_ble_eq_true rfl) dX9_weightOfLeaderOn_8 (ct_X2_copyFrom  h) (fun st_4 h => ?_)
  refine J_aload_n 0 dX9_weightOfLeaderOn_11 rfl rfl ?_
  obtain ⟨r_5, hf, h⟩ := h
  refine J_getR fl_RX9_22 dX9_weightOfLeaderOn_12 hf ?_
  refine J_iload_n 1 dX9_weightOfLeaderOn_15 rfl rfl ?_
  refine J_iload_n 2 dX9_weightOfLeaderOn_16 rfl rfl ?_
  obtain ⟨ho, h⟩ := h
  refine J_cvv (As := [_, _]) md_X2_setWedding k_611 (rc_obj cl_2 ho) rfl rfl ⟨Nat.le_of_ble_eq_true rfl, Nat.le_of_ble_eq_true rfl⟩ ⟨Nat.le_of_ble_eq_true rfl, Nat.le_of_ble_eq_true rfl⟩ (Nat.le_of_ble_eq_true rfl) dX9_weightOfLeaderOn_17 (ct_X2_setWedding  h) (fun st_7 h => ?_)
  refine J_iconst 0 dX9_weightOfLeaderOn_20 (by decide) ?_
  refine J_istore_n _ dX9_weightOfLeaderOn_21 rfl (by decide) rfl ?_
  obtain ⟨n8, h⟩ := h
  exact J_lv [1, 2, 3, 0] rfl (K_X9_weightOfLeaderOn_22   a0 a1 a2  n8 0 st_7 h)
/-! X9_isSeenInTrial -/
def P_X9_isSeenInTrial_44  (a0 : Nat) (k10 : Int32 → Int32 → St → Prop) (post : Int32 → St → Prop) (x1 : Int32) (x2 : Int32) (st : St) : Prop := k10 x1 (x2 + 1) st
def P_X9_isSeenInTrial_10  (a0 : Nat)  (post : Int32 → St → Prop) : Nat → Int32 → Int32 → St → Prop
  | 0, _, _, _ => False
  | n9 + 1, x1, x2, st => ((x1 < x2 → post 1 st) ∧ (¬ x1 < x2 → ∃ r_1, rv st a0 9 2 = some r_1 ∧ ∃ r_2, rv st a0 9 1 = some r_2 ∧ oC r_1 7 ∧ P_X7_holdsIn  r_1 r_2 x2 st (fun z_3 st_4 => ((¬ z_3 = 0 → ((x1 ≤ x2 → P_X9_isSeenInTrial_44  a0 (fun x1 x2 st => P_X9_isSeenInTrial_10  a0  post n9 x1 x2 st) post x1 x2 st_4) ∧ (¬ x1 ≤ x2 → ∃ r_5, rv st_4 a0 9 1 = some r_5 ∧ oC r_5 2 ∧ P_X2_passDay  r_5 st_4 (fun st_7 => P_X9_isSeenInTrial_44  a0 (fun x1 x2 st => P_X9_isSeenInTrial_10  a0  post n9 x1 x2 st) post x1 x2 st_7)))) ∧ (z_3 = 0 → post 0 st_4)))))
def P_X9_isSeenInTrial  (a0 : Nat) (st : St) (post : Int32 → St → Prop) : Prop := ∃ r_1, rv st a0 9 2 = some r_1 ∧ oC r_1 7 ∧ P_X7_farthest  r_1 st (fun z_2 st_3 => ∃ n8, P_X9_isSeenInTrial_10  a0  post n8 z_2 0 st_3)
set_option maxRecDepth 100000 in
set_option maxHeartbeats 4000000 in
theorem K_X9_isSeenInTrial_44 {l : Launch} {E : En}   (a0 : Nat) {k10 : Int32 → Int32 → St → Prop} {post : Int32 → St → Prop}  (hk10 : ∀ (x1 : Int32) (x2 : Int32) (st : St), k10 x1 x2 st → Jg l E (CFc E) (Rm 6 0 0) cX9_isSeenInTrial 3 RX9 (some .boolean) (fun _ => True) (QI E post 0 0) 0 0 10 [(0, .ref a0), (1, .int x1), (2, .int x2)] [] st) (x1 : Int32) (x2 : Int32) (st : St) (h : P_X9_isSeenInTrial_44  a0 k10 post x1 x2 st) : Jg l E (CFc E) (Rm 6 0 0) cX9_isSeenInTrial 3 RX9 (some .boolean) (fun _ => True) (QI E post 0 0) 0 0 44 [(0, .ref a0), (1, .int x1), (2, .int x2)] [] st := by
  unfold P_X9_isSeenInTrial_44 at h
  refine J_iinc 2 (x2 + 1) _ dX9_isSeenInTrial_44 rfl (by rfl) (by decide) rfl ?_
  refine J_goto 10 dX9_isSeenInTrial_47 (by decide) ?_
  exact J_lv [1, 2, 0] rfl (hk10 x1 (x2 + 1) st h)
set_option maxRecDepth 100000 in
set_option maxHeartbeats 4000000 in
theorem K_X9_isSeenInTrial_10 {l : Launch} {E : En}   (a0 : Nat)  {post : Int32 → St → Prop}   : ∀ (n9 : Nat) (x1 : Int32) (x2 : Int32) (st : St), P_X9_isSeenInTrial_10  a0  post n9 x1 x2 st → Jg l E (CFc E) (Rm 6 0 0) cX9_isSeenInTrial 3 RX9 (some .boolean) (fun _ => True) (QI E post 0 0) 0 0 10 [(0, .ref a0), (1, .int x1), (2, .int x2)] [] st := by
  intro n9
  induction n9 with
  | zero => intro x1 x2 st h; exact h.elim
  | succ n9 ih =>
    intro x1 x2 st h
    unfold P_X9_isSeenInTrial_10 at h
    refine J_iload_n 2 dX9_isSeenInTrial_10 rfl rfl ?_
    refine J_iload_n 1 dX9_isSeenInTrial_11 rfl rfl ?_
    refine J_icmp_gt 50 dX9_isSeenInTrial_12 (by decide) (fun hc => ?_) (fun hc => ?_)
    · have h := h.1 hc
      refine J_iconst 1 dX9_isSeenInTrial_50 (by decide) ?_
      exact J_retz rfl (Or.inr rfl) dX9_isSeenInTrial_51 h
    · have h := h.2 hc
      refine J_aload_n 0 dX9_isSeenInTrial_15 rfl rfl ?_
      obtain ⟨r_1, hf, h⟩ := h
      refine J_getR fl_RX9_25 dX9_isSeenInTrial_16 hf ?_
      refine J_aload_n 0 dX9_isSeenInTrial_19 rfl rfl ?_
      obtain ⟨r_2, hf, h⟩ := h
      refine J_getR fl_RX9_22 dX9_isSeenInTrial_20 hf ?_
      refine J_iload_n 2 dX9_isSeenInTrial_23 rfl rfl ?_
      obtain ⟨ho, h⟩ := h
      refine J_cvi (As := [_, _]) md_X7_holdsIn k_626 (rc_obj cl_7 ho) rfl rfl ⟨Nat.le_of_ble_eq_true rfl, Nat.le_of_ble_eq_true rfl⟩ ⟨Nat.le_of_ble_eq_true rfl, Nat.le_of_ble_eq_true rfl⟩ (Nat.le_of_ble_eq_true rfl) dX9_isSeenInTrial_24 (ct_X7_holdsIn  h) (fun z_3 st_4 h => ?_)
      refine J_if_ne 32 dX9_isSeenInTrial_27 (by decide) (fun hc => ?_) (fun hc => ?_)
      · have h := h.1 hc
        refine J_iload_n 2 dX9_isSeenInTrial_32 rfl rfl ?_
        refine J_iload_n 1 dX9_isSeenInTrial_33 rfl rfl ?_
        refine J_icmp_ge 44 dX9_isSeenInTrial_34 (by decide) (fun hc => ?_) (fun hc => ?_)
        · have h := h.1 hc
          exact J_lv [0, 1, 2] rfl (K_X9_isSeenInTrial_44   a0 (fun x1 x2 st h => ih x1 x2 st h) x1 x2 st_4 h)
        · have h := h.2 hc
          refine J_aload_n 0 dX9_isSeenInTrial_37 rfl rfl ?_
          obtain ⟨r_5, hf, h⟩ := h
          refine J_getR fl_RX9_22 dX9_isSeenInTrial_38 hf ?_
          obtain ⟨ho, h⟩ := h
          refine J_cvv (As := []) md_X2_passDay k_584 (rc_obj cl_2 ho) rfl rfl ⟨Nat.le_of_ble_eq_true rfl, Nat.le_of_ble_eq_true rfl⟩ ⟨Nat.le_of_ble_eq_true rfl, Nat.le_of_ble_eq_true rfl⟩ (Nat.le_of_ble_eq_true rfl) dX9_isSeenInTrial_41 (ct_X2_passDay  h) (fun st_7 h => ?_)
          exact J_lv [0, 1, 2] rfl (K_X9_isSeenInTrial_44   a0 (fun x1 x2 st h => ih x1 x2 st h) x1 x2 st_7 h)
      · have h := h.2 hc
        refine J_iconst 0 dX9_isSeenInTrial_30 (by decide) ?_
        exact J_retz rfl (Or.inl rfl) dX9_isSeenInTrial_31 h
set_option maxRecDepth 100000 in
set_option maxHeartbeats 4000000 in
theorem ct_X9_isSeenInTrial {l : Launch} {E : En}  {a0 : Nat} {st : St} {post : Int32 → St → Prop} (h : P_X9_isSeenInTrial  a0 st post) : CtI l E (CFc E) 6 0 0 yX9_isSeenInTrial cX9_isSeenInTrial 3 (some .boolean) [.ref a0] st post := by
  refine ctI_of (by decide) (Nat.le_of_ble_eq_true rfl) ?_
  show Jg l E (CFc E) (Rm 6 0 0) cX9_isSeenInTrial 3 RX9 (some .boolean) (fun _ => True) (QI E post 0 0) 0 0 0 [(0, .ref a0)] [] st
  unfold P_X9_isSeenInTrial at h
  refine J_aload_n 0 dX9_isSeenInTrial_0 rfl rfl ?_
  obtain ⟨r_1, hf, h⟩ := h
  refine J_getR fl_RX9_25 dX9_isSeenInTrial_1 hf ?_
  obtain ⟨ho, h⟩ := h
  refine J_cvi (As := []) md_X7_farthest k_623 (rc_obj cl_7 ho) rfl rfl ⟨Nat.le_of_ble_eq_true rfl, Nat.le_of_ble_eq_true rfl⟩ ⟨Nat.le_of_ble_eq_true rfl, Nat.le_of_ble_eq_true rfl⟩ (Nat.le_of_ble_eq_true rfl) dX9_isSeenInTrial_4 (ct_X7_farthest  h) (fun z_2 st_3 h => ?_)
  refine J_istore_n _ dX9_isSeenInTrial_7 rfl (by decide) rfl ?_
  refine J_iconst 0 dX9_isSeenInTrial_8 (by decide) ?_
  refine J_istore_n _ dX9_isSeenInTrial_9 rfl (by decide) rfl ?_
  obtain ⟨n8, h⟩ := h
  exact J_lv [2, 1, 0] rfl (K_X9_isSeenInTrial_10   a0  n8 z_2 0 st_3 h)
/-! X9_seenAsItIs -/
def P_X9_seenAsItIs  (a0 : Nat) (st : St) (post : Int32 → St → Prop) : Prop := ∃ r_1, rv st a0 9 1 = some r_1 ∧ ∃ r_2, rv st a0 9 0 = some r_2 ∧ oC r_1 2 ∧ P_X2_copyFrom  r_1 r_2 st (fun st_4 => oC a0 9 ∧ P_X9_isSeenInTrial  a0 st_4 (fun z_5 st_6 => (z_5 = 0 ∨ z_5 = 1) ∧ post z_5 st_6))
set_option maxRecDepth 100000 in
set_option maxHeartbeats 4000000 in
theorem ct_X9_seenAsItIs {l : Launch} {E : En}  {a0 : Nat} {st : St} {post : Int32 → St → Prop} (h : P_X9_seenAsItIs  a0 st post) : CtI l E (CFc E) 7 0 0 yX9_seenAsItIs cX9_seenAsItIs 1 (some .boolean) [.ref a0] st post := by
  refine ctI_of (by decide) (Nat.le_of_ble_eq_true rfl) ?_
  show Jg l E (CFc E) (Rm 7 0 0) cX9_seenAsItIs 1 RX9 (some .boolean) (fun _ => True) (QI E post 0 0) 0 0 0 [(0, .ref a0)] [] st
  unfold P_X9_seenAsItIs at h
  refine J_aload_n 0 dX9_seenAsItIs_0 rfl rfl ?_
  obtain ⟨r_1, hf, h⟩ := h
  refine J_getR fl_RX9_22 dX9_seenAsItIs_1 hf ?_
  refine J_aload_n 0 dX9_seenAsItIs_4 rfl rfl ?_
  obtain ⟨r_2, hf, h⟩ := h
  refine J_getR fl_RX9_18 dX9_seenAsItIs_5 hf ?_
  obtain ⟨ho, h⟩ := h
  refine J_cvv (As := [_]) md_X2_copyFrom k_583 (rc_obj cl_2 ho) rfl rfl ⟨Nat.le_of_ble_eq_true rfl, Nat.le_of_ble_eq_true rfl⟩ ⟨Nat.le_of_ble_eq_true rfl, Nat.le_of_ble_eq_true rfl⟩ (Nat.le_of_ble_eq_true rfl) dX9_seenAsItIs_8 (ct_X2_copyFrom  h) (fun st_4 h => ?_)
  refine J_aload_n 0 dX9_seenAsItIs_11 rfl rfl ?_
  obtain ⟨ho, h⟩ := h
  refine J_cvi (As := []) md_X9_isSeenInTrial k_630 (rc_obj cl_9 ho) rfl rfl ⟨Nat.le_of_ble_eq_true rfl, Nat.le_of_ble_eq_true rfl⟩ ⟨Nat.le_of_ble_eq_true rfl, Nat.le_of_ble_eq_true rfl⟩ (Nat.le_of_ble_eq_true rfl) dX9_seenAsItIs_12 (ct_X9_isSeenInTrial  h) (fun z_5 st_6 h => ?_)
  exact J_retz rfl h.1 dX9_seenAsItIs_15 h.2
/-! X9_hiddenCount -/
def P_X9_hiddenCount_39  (a0 : Nat) (k4 : Int32 → Int32 → St → Prop) (post : Int32 → St → Prop) (x1 : Int32) (x2 : Int32) (st : St) : Prop := k4 x1 (x2 + 1) st
def P_X9_hiddenCount_4  (a0 : Nat)  (post : Int32 → St → Prop) : Nat → Int32 → Int32 → St → Prop
  | 0, _, _, _ => False
  | n9 + 1, x1, x2, st => ∃ r_1, rv st a0 9 0 = some r_1 ∧ ∃ r_2, rv st r_1 2 0 = some r_2 ∧ fk r_2 3 0 = some 0 ∧ (((10 * (gI st r_2 0)) ≤ x2 → post x1 st) ∧ (¬ (10 * (gI st r_2 0)) ≤ x2 → oC a0 9 ∧ P_X9_suppose  a0 x2 st (fun z_3 st_4 => ((z_3 = 0 → P_X9_hiddenCount_39  a0 (fun x1 x2 st => P_X9_hiddenCount_4  a0  post n9 x1 x2 st) post x1 x2 st_4) ∧ (¬ z_3 = 0 → oC a0 9 ∧ P_X9_isSeenInTrial  a0 st_4 (fun z_5 st_6 => ((z_5 = 0 → P_X9_hiddenCount_39  a0 (fun x1 x2 st => P_X9_hiddenCount_4  a0  post n9 x1 x2 st) post x1 x2 st_6) ∧ (¬ z_5 = 0 → P_X9_hiddenCount_39  a0 (fun x1 x2 st => P_X9_hiddenCount_4  a0  post n9 x1 x2 st) post (x1 + 1) x2 st_6))))))))
def P_X9_hiddenCount  (a0 : Nat) (st : St) (post : Int32 → St → Prop) : Prop := ∃ n8, P_X9_hiddenCount_4  a0  post n8 0 0 st
set_option maxRecDepth 100000 in
set_option maxHeartbeats 4000000 in
theorem K_X9_hiddenCount_39 {l : Launch} {E : En}   (a0 : Nat) {k4 : Int32 → Int32 → St → Prop} {post : Int32 → St → Prop}  (hk4 : ∀ (x1 : Int32) (x2 : Int32) (st : St), k4 x1 x2 st → Jg l E (CFc E) (Rm 7 0 0) cX9_hiddenCount 3 RX9 (some .int) (fun _ => True) (QI E post 0 0) 0 0 4 [(0, .ref a0), (1, .int x1), (2, .int x2)] [] st) (x1 : Int32) (x2 : Int32) (st : St) (h : P_X9_hiddenCount_39  a0 k4 post x1 x2 st) : Jg l E (CFc E) (Rm 7 0 0) cX9_hiddenCount 3 RX9 (some .int) (fun _ => True) (QI E post 0 0) 0 0 39 [(0, .ref a0), (1, .int x1), (2, .int x2)] [] st := by
  unfold P_X9_hiddenCount_39 at h
  refine J_iinc 2 (x2 + 1) _ dX9_hiddenCount_39 rfl (by rfl) (by decide) rfl ?_
  refine J_goto 4 dX9_hiddenCount_42 (by decide) ?_
  exact J_lv [1, 2, 0] rfl (hk4 x1 (x2 + 1) st h)
set_option maxRecDepth 100000 in
set_option maxHeartbeats 4000000 in
theorem K_X9_hiddenCount_4 {l : Launch} {E : En}   (a0 : Nat)  {post : Int32 → St → Prop}   : ∀ (n9 : Nat) (x1 : Int32) (x2 : Int32) (st : St), P_X9_hiddenCount_4  a0  post n9 x1 x2 st → Jg l E (CFc E) (Rm 7 0 0) cX9_hiddenCount 3 RX9 (some .int) (fun _ => True) (QI E post 0 0) 0 0 4 [(0, .ref a0), (1, .int x1), (2, .int x2)] [] st := by
  intro n9
  induction n9 with
  | zero => intro x1 x2 st h; exact h.elim
  | succ n9 ih =>
    intro x1 x2 st h
    unfold P_X9_hiddenCount_4 at h
    refine J_iload_n 2 dX9_hiddenCount_4 rfl rfl ?_
    refine J_bipush 10 dX9_hiddenCount_5 (by decide) ?_
    refine J_aload_n 0 dX9_hiddenCount_7 rfl rfl ?_
    obtain ⟨r_1, hf, h⟩ := h
    refine J_getR fl_RX9_18 dX9_hiddenCount_8 hf ?_
    obtain ⟨r_2, hf, h⟩ := h
    refine J_getR fl_RX9_68 dX9_hiddenCount_11 hf ?_
    obtain ⟨hf, h⟩ := h
    refine J_getI fl_RX9_116 dX9_hiddenCount_14 hf ?_
    refine J_imul dX9_hiddenCount_17 ?_
    refine J_icmp_ge 45 dX9_hiddenCount_18 (by decide) (fun hc => ?_) (fun hc => ?_)
    · have h := h.1 hc
      refine J_iload_n 1 dX9_hiddenCount_45 rfl rfl ?_
      exact J_reti rfl dX9_hiddenCount_46 h
    · have h := h.2 hc
      refine J_aload_n 0 dX9_hiddenCount_21 rfl rfl ?_
      refine J_iload_n 2 dX9_hiddenCount_22 rfl rfl ?_
      obtain ⟨ho, h⟩ := h
      refine J_cvi (As := [_]) md_X9_suppose k_638 (rc_obj cl_9 ho) rfl rfl ⟨Nat.le_of_ble_eq_true rfl, Nat.le_of_ble_eq_true rfl⟩ ⟨Nat.le_of_ble_eq_true rfl, Nat.le_of_ble_eq_true rfl⟩ (Nat.le_of_ble_eq_true rfl) dX9_hiddenCount_23 (ct_X9_suppose  h) (fun z_3 st_4 h => ?_)
      refine J_if_eq 39 dX9_hiddenCount_26 (by decide) (fun hc => ?_) (fun hc => ?_)
      · have h := h.1 hc
        exact J_lv [0, 1, 2] rfl (K_X9_hiddenCount_39   a0 (fun x1 x2 st h => ih x1 x2 st h) x1 x2 st_4 h)
      · have h := h.2 hc
        refine J_aload_n 0 dX9_hiddenCount_29 rfl rfl ?_
        obtain ⟨ho, h⟩ := h
        refine J_cvi (As := []) md_X9_isSeenInTrial k_630 (rc_obj cl_9 ho) rfl rfl ⟨Nat.le_of_ble_eq_true rfl, Nat.le_of_ble_eq_true rfl⟩ ⟨Nat.le_of_ble_eq_true rfl, Nat.le_of_ble_eq_true rfl⟩ (Nat.le_of_ble_eq_true rfl) dX9_hiddenCount_30 (ct_X9_isSeenInTrial  h) (fun z_5 st_6 h => ?_)
        refine J_if_eq 39 dX9_hiddenCount_33 (by decide) (fun hc => ?_) (fun hc => ?_)
        · have h := h.1 hc
          exact J_lv [0, 1, 2] rfl (K_X9_hiddenCount_39   a0 (fun x1 x2 st h => ih x1 x2 st h) x1 x2 st_6 h)
        · have h := h.2 hc
          refine J_iinc 1 (x1 + 1) _ dX9_hiddenCount_36 rfl (by rfl) (by decide) rfl ?_
          exact J_lv [1, 0, 2] rfl (K_X9_hiddenCount_39   a0 (fun x1 x2 st h => ih x1 x2 st h) (x1 + 1) x2 st_6 h)
set_option maxRecDepth 100000 in
set_option maxHeartbeats 4000000 in
theorem ct_X9_hiddenCount {l : Launch} {E : En}  {a0 : Nat} {st : St} {post : Int32 → St → Prop} (h : P_X9_hiddenCount  a0 st post) : CtI l E (CFc E) 7 0 0 yX9_hiddenCount cX9_hiddenCount 3 (some .int) [.ref a0] st post := by
  refine ctI_of (by decide) (Nat.le_of_ble_eq_true rfl) ?_
  show Jg l E (CFc E) (Rm 7 0 0) cX9_hiddenCount 3 RX9 (some .int) (fun _ => True) (QI E post 0 0) 0 0 0 [(0, .ref a0)] [] st
  unfold P_X9_hiddenCount at h
  refine J_iconst 0 dX9_hiddenCount_0 (by decide) ?_
  refine J_istore_n _ dX9_hiddenCount_1 rfl (by decide) rfl ?_
  refine J_iconst 0 dX9_hiddenCount_2 (by decide) ?_
  refine J_istore_n _ dX9_hiddenCount_3 rfl (by decide) rfl ?_
  obtain ⟨n8, h⟩ := h
  exact J_lv [2, 1, 0] rfl (K_X9_hiddenCount_4   a0  n8 0 0 st h)
/-! X9_firstHidden -/
def P_X9_firstHidden_36  (a0 : Nat) (k2 : Int32 → St → Prop) (post : Int32 → St → Prop) (x1 : Int32) (st : St) : Prop := k2 (x1 + 1) st
def P_X9_firstHidden_2  (a0 : Nat)  (post : Int32 → St → Prop) : Nat → Int32 → St → Prop
  | 0, _, _ => False
  | n9 + 1, x1, st => ∃ r_1, rv st a0 9 0 = some r_1 ∧ ∃ r_2, rv st r_1 2 0 = some r_2 ∧ fk r_2 3 0 = some 0 ∧ (((10 * (gI st r_2 0)) ≤ x1 → post (-1) st) ∧ (¬ (10 * (gI st r_2 0)) ≤ x1 → oC a0 9 ∧ P_X9_suppose  a0 x1 st (fun z_3 st_4 => ((z_3 = 0 → P_X9_firstHidden_36  a0 (fun x1 st => P_X9_firstHidden_2  a0  post n9 x1 st) post x1 st_4) ∧ (¬ z_3 = 0 → oC a0 9 ∧ P_X9_isSeenInTrial  a0 st_4 (fun z_5 st_6 => ((z_5 = 0 → P_X9_firstHidden_36  a0 (fun x1 st => P_X9_firstHidden_2  a0  post n9 x1 st) post x1 st_6) ∧ (¬ z_5 = 0 → post x1 st_6))))))))
def P_X9_firstHidden  (a0 : Nat) (st : St) (post : Int32 → St → Prop) : Prop := ∃ n8, P_X9_firstHidden_2  a0  post n8 0 st
set_option maxRecDepth 100000 in
set_option maxHeartbeats 4000000 in
theorem K_X9_firstHidden_36 {l : Launch} {E : En}   (a0 : Nat) {k2 : Int32 → St → Prop} {post : Int32 → St → Prop}  (hk2 : ∀ (x1 : Int32) (st : St), k2 x1 st → Jg l E (CFc E) (Rm 7 0 0) cX9_firstHidden 2 RX9 (some .int) (fun _ => True) (QI E post 0 0) 0 0 2 [(0, .ref a0), (1, .int x1)] [] st) (x1 : Int32) (st : St) (h : P_X9_firstHidden_36  a0 k2 post x1 st) : Jg l E (CFc E) (Rm 7 0 0) cX9_firstHidden 2 RX9 (some .int) (fun _ => True) (QI E post 0 0) 0 0 36 [(0, .ref a0), (1, .int x1)] [] st := by
  unfold P_X9_firstHidden_36 at h
  refine J_iinc 1 (x1 + 1) _ dX9_firstHidden_36 rfl (by rfl) (by decide) rfl ?_
  refine J_goto 2 dX9_firstHidden_39 (by decide) ?_
  exact J_lv [1, 0] rfl (hk2 (x1 + 1) st h)
set_option maxRecDepth 100000 in
set_option maxHeartbeats 4000000 in
theorem K_X9_firstHidden_2 {l : Launch} {E : En}   (a0 : Nat)  {post : Int32 → St → Prop}   : ∀ (n9 : Nat) (x1 : Int32) (st : St), P_X9_firstHidden_2  a0  post n9 x1 st → Jg l E (CFc E) (Rm 7 0 0) cX9_firstHidden 2 RX9 (some .int) (fun _ => True) (QI E post 0 0) 0 0 2 [(0, .ref a0), (1, .int x1)] [] st := by
  intro n9
  induction n9 with
  | zero => intro x1 st h; exact h.elim
  | succ n9 ih =>
    intro x1 st h
    unfold P_X9_firstHidden_2 at h
    refine J_iload_n 1 dX9_firstHidden_2 rfl rfl ?_
    refine J_bipush 10 dX9_firstHidden_3 (by decide) ?_
    refine J_aload_n 0 dX9_firstHidden_5 rfl rfl ?_
    obtain ⟨r_1, hf, h⟩ := h
    refine J_getR fl_RX9_18 dX9_firstHidden_6 hf ?_
    obtain ⟨r_2, hf, h⟩ := h
    refine J_getR fl_RX9_68 dX9_firstHidden_9 hf ?_
    obtain ⟨hf, h⟩ := h
    refine J_getI fl_RX9_116 dX9_firstHidden_12 hf ?_
    refine J_imul dX9_firstHidden_15 ?_
    refine J_icmp_ge 42 dX9_firstHidden_16 (by decide) (fun hc => ?_) (fun hc => ?_)
    · have h := h.1 hc
      refine J_iconst (-1) dX9_firstHidden_42 (by decide) ?_
      exact J_reti rfl dX9_firstHidden_43 h
    · have h := h.2 hc
      refine J_aload_n 0 dX9_firstHidden_19 rfl rfl ?_
      refine J_iload_n 1 dX9_firstHidden_20 rfl rfl ?_
      obtain ⟨ho, h⟩ := h
      refine J_cvi (As := [_]) md_X9_suppose k_638 (rc_obj cl_9 ho) rfl rfl ⟨Nat.le_of_ble_eq_true rfl, Nat.le_of_ble_eq_true rfl⟩ ⟨Nat.le_of_ble_eq_true rfl, Nat.le_of_ble_eq_true rfl⟩ (Nat.le_of_ble_eq_true rfl) dX9_firstHidden_21 (ct_X9_suppose  h) (fun z_3 st_4 h => ?_)
      refine J_if_eq 36 dX9_firstHidden_24 (by decide) (fun hc => ?_) (fun hc => ?_)
      · have h := h.1 hc
        exact J_lv [0, 1] rfl (K_X9_firstHidden_36   a0 (fun x1 st h => ih x1 st h) x1 st_4 h)
      · have h := h.2 hc
        refine J_aload_n 0 dX9_firstHidden_27 rfl rfl ?_
        obtain ⟨ho, h⟩ := h
        refine J_cvi (As := []) md_X9_isSeenInTrial k_630 (rc_obj cl_9 ho) rfl rfl ⟨Nat.le_of_ble_eq_true rfl, Nat.le_of_ble_eq_true rfl⟩ ⟨Nat.le_of_ble_eq_true rfl, Nat.le_of_ble_eq_true rfl⟩ (Nat.le_of_ble_eq_true rfl) dX9_firstHidden_28 (ct_X9_isSeenInTrial  h) (fun z_5 st_6 h => ?_)
        refine J_if_eq 36 dX9_firstHidden_31 (by decide) (fun hc => ?_) (fun hc => ?_)
        · have h := h.1 hc
          exact J_lv [0, 1] rfl (K_X9_firstHidden_36   a0 (fun x1 st h => ih x1 st h) x1 st_6 h)
        · have h := h.2 hc
          refine J_iload_n 1 dX9_firstHidden_34 rfl rfl ?_
          exact J_reti rfl dX9_firstHidden_35 h
set_option maxRecDepth 100000 in
set_option maxHeartbeats 4000000 in
theorem ct_X9_firstHidden {l : Launch} {E : En}  {a0 : Nat} {st : St} {post : Int32 → St → Prop} (h : P_X9_firstHidden  a0 st post) : CtI l E (CFc E) 7 0 0 yX9_firstHidden cX9_firstHidden 2 (some .int) [.ref a0] st post := by
  refine ctI_of (by decide) (Nat.le_of_ble_eq_true rfl) ?_
  show Jg l E (CFc E) (Rm 7 0 0) cX9_firstHidden 2 RX9 (some .int) (fun _ => True) (QI E post 0 0) 0 0 0 [(0, .ref a0)] [] st
  unfold P_X9_firstHidden at h
  refine J_iconst 0 dX9_firstHidden_0 (by decide) ?_
  refine J_istore_n _ dX9_firstHidden_1 rfl (by decide) rfl ?_
  obtain ⟨n8, h⟩ := h
  exact J_lv [1, 0] rfl (K_X9_firstHidden_2   a0  n8 0 st h)
/-! X9_weighNext -/
def P_X9_weighNext_130  (a0 : Nat) (a1 : Int32)  (post : Int32 → St → Prop) (s0 : Int32) (st : St) : Prop := post s0 st
def P_X9_weighNext_115  (a0 : Nat) (a1 : Int32) (k76 : Int32 → Int32 → Int32 → St → Prop) (post : Int32 → St → Prop) (x2 : Int32) (x3 : Int32) (x4 : Int32) (st : St) : Prop := k76 x2 x3 (x4 + 1) st
def P_X9_weighNext_76  (a0 : Nat) (a1 : Int32)  (post : Int32 → St → Prop) : Nat → Int32 → Int32 → Int32 → St → Prop
  | 0, _, _, _, _ => False
  | n9 + 1, x2, x3, x4, st => ∃ r_1, rv st a0 9 0 = some r_1 ∧ ∃ r_2, rv st r_1 2 0 = some r_2 ∧ fk r_2 3 1 = some 0 ∧ (((gI st r_2 1) ≤ x4 → ((a1 = 0 → P_X9_weighNext_130  a0 a1  post x2 st) ∧ (¬ a1 = 0 → P_X9_weighNext_130  a0 a1  post x3 st))) ∧ (¬ (gI st r_2 1) ≤ x4 → ∃ r_3, rv st a0 9 3 = some r_3 ∧ vp_in x4 (al 0 r_3) ∧ P_J6_bitCount_0f7a4  (gA st r_3 (x4 : Int32).toNatClampNeg) st (fun z_4 st_5 => ((z_4 ≤ x3 → P_X9_weighNext_115  a0 a1 (fun x2 x3 x4 st => P_X9_weighNext_76  a0 a1  post n9 x2 x3 x4 st) post x2 x3 x4 st_5) ∧ (¬ z_4 ≤ x3 → P_X9_weighNext_115  a0 a1 (fun x2 x3 x4 st => P_X9_weighNext_76  a0 a1  post n9 x2 x3 x4 st) post x4 z_4 x4 st_5)))))
def P_X9_weighNext_63  (a0 : Nat) (a1 : Int32) (k23 : Int32 → St → Prop) (post : Int32 → St → Prop) (x2 : Int32) (st : St) : Prop := k23 (x2 + 1) st
def P_X9_weighNext_23  (a0 : Nat) (a1 : Int32)  (post : Int32 → St → Prop) : Nat → Int32 → St → Prop
  | 0, _, _ => False
  | n9 + 1, x2, st => ∃ r_1, rv st a0 9 0 = some r_1 ∧ ∃ r_2, rv st r_1 2 0 = some r_2 ∧ fk r_2 3 0 = some 0 ∧ (((10 * (gI st r_2 0)) ≤ x2 → ∃ n8, P_X9_weighNext_76  a0 a1  post n8 (-1) 0 0 st) ∧ (¬ (10 * (gI st r_2 0)) ≤ x2 → oC a0 9 ∧ P_X9_suppose  a0 x2 st (fun z_3 st_4 => ((z_3 = 0 → P_X9_weighNext_63  a0 a1 (fun x2 st => P_X9_weighNext_23  a0 a1  post n9 x2 st) post x2 st_4) ∧ (¬ z_3 = 0 → oC a0 9 ∧ P_X9_isSeenInTrial  a0 st_4 (fun z_5 st_6 => ((z_5 = 0 → P_X9_weighNext_63  a0 a1 (fun x2 st => P_X9_weighNext_23  a0 a1  post n9 x2 st) post x2 st_6) ∧ (¬ z_5 = 0 → oC a0 9 ∧ P_X9_foresee  a0 st_6 (fun st_8 => oC a0 9 ∧ P_X9_noteLeaders  a0 st_8 (fun st_10 => P_X9_weighNext_63  a0 a1 (fun x2 st => P_X9_weighNext_23  a0 a1  post n9 x2 st) post x2 st_10))))))))))
def P_X9_weighNext_2  (a0 : Nat) (a1 : Int32)  (post : Int32 → St → Prop) : Nat → Int32 → St → Prop
  | 0, _, _ => False
  | n9 + 1, x2, st => ((6 ≤ x2 → ∃ n8, P_X9_weighNext_23  a0 a1  post n8 0 st) ∧ (¬ 6 ≤ x2 → ∃ r_1, rv st a0 9 3 = some r_1 ∧ vp_in x2 (al 0 r_1) ∧ P_X9_weighNext_2  a0 a1  post n9 (x2 + 1) (sA st r_1 (x2 : Int32).toNatClampNeg 0)))
def P_X9_weighNext  (a0 : Nat) (a1 : Int32) (st : St) (post : Int32 → St → Prop) : Prop := ∃ n8, P_X9_weighNext_2  a0 a1  post n8 0 st
set_option maxRecDepth 100000 in
set_option maxHeartbeats 4000000 in
theorem K_X9_weighNext_130 {l : Launch} {E : En}   (a0 : Nat) (a1 : Int32)  {post : Int32 → St → Prop}   (s0 : Int32) (st : St) (h : P_X9_weighNext_130  a0 a1  post s0 st) : Jg l E (CFc E) (Rm 7 0 0) cX9_weighNext 6 RX9 (some .int) (fun _ => True) (QI E post 0 0) 0 0 130 [(0, .ref a0), (1, .int a1)] [.int s0] st := by
  unfold P_X9_weighNext_130 at h
  exact J_reti rfl dX9_weighNext_130 h
set_option maxRecDepth 100000 in
set_option maxHeartbeats 4000000 in
theorem K_X9_weighNext_115 {l : Launch} {E : En}   (a0 : Nat) (a1 : Int32) {k76 : Int32 → Int32 → Int32 → St → Prop} {post : Int32 → St → Prop}  (hk76 : ∀ (x2 : Int32) (x3 : Int32) (x4 : Int32) (st : St), k76 x2 x3 x4 st → Jg l E (CFc E) (Rm 7 0 0) cX9_weighNext 6 RX9 (some .int) (fun _ => True) (QI E post 0 0) 0 0 76 [(0, .ref a0), (1, .int a1), (2, .int x2), (3, .int x3), (4, .int x4)] [] st) (x2 : Int32) (x3 : Int32) (x4 : Int32) (st : St) (h : P_X9_weighNext_115  a0 a1 k76 post x2 x3 x4 st) : Jg l E (CFc E) (Rm 7 0 0) cX9_weighNext 6 RX9 (some .int) (fun _ => True) (QI E post 0 0) 0 0 115 [(0, .ref a0), (1, .int a1), (2, .int x2), (3, .int x3), (4, .int x4)] [] st := by
  unfold P_X9_weighNext_115 at h
  refine J_iinc 4 (x4 + 1) _ dX9_weighNext_115 rfl (by rfl) (by decide) rfl ?_
  refine J_goto 76 dX9_weighNext_118 (by decide) ?_
  exact J_lv [1, 2, 3, 4, 0] rfl (hk76 x2 x3 (x4 + 1) st h)
set_option maxRecDepth 100000 in
set_option maxHeartbeats 4000000 in
theorem K_X9_weighNext_76 {l : Launch} {E : En}   (a0 : Nat) (a1 : Int32)  {post : Int32 → St → Prop}   : ∀ (n9 : Nat) (x2 : Int32) (x3 : Int32) (x4 : Int32) (st : St), P_X9_weighNext_76  a0 a1  post n9 x2 x3 x4 st → Jg l E (CFc E) (Rm 7 0 0) cX9_weighNext 6 RX9 (some .int) (fun _ => True) (QI E post 0 0) 0 0 76 [(0, .ref a0), (1, .int a1), (2, .int x2), (3, .int x3), (4, .int x4)] [] st := by
  intro n9
  induction n9 with
  | zero => intro x2 x3 x4 st h; exact h.elim
  | succ n9 ih =>
    intro x2 x3 x4 st h
    unfold P_X9_weighNext_76 at h
    refine J_iload 4 dX9_weighNext_76 rfl ?_
    refine J_aload_n 0 dX9_weighNext_78 rfl rfl ?_
    obtain ⟨r_1, hf, h⟩ := h
    refine J_getR fl_RX9_18 dX9_weighNext_79 hf ?_
    obtain ⟨r_2, hf, h⟩ := h
    refine J_getR fl_RX9_68 dX9_weighNext_82 hf ?_
    obtain ⟨hf, h⟩ := h
    refine J_getI fl_RX9_72 dX9_weighNext_85 hf ?_
    refine J_icmp_ge 121 dX9_weighNext_88 (by decide) (fun hc => ?_) (fun hc => ?_)
    · have h := h.1 hc
      refine J_iload_n 1 dX9_weighNext_121 rfl rfl ?_
      refine J_if_eq 129 dX9_weighNext_122 (by decide) (fun hc => ?_) (fun hc => ?_)
      · have h := h.1 hc
        refine J_iload_n 2 dX9_weighNext_129 rfl rfl ?_
        exact J_lv [0, 1] rfl (K_X9_weighNext_130   a0 a1  x2 st h)
      · have h := h.2 hc
        refine J_iload_n 3 dX9_weighNext_125 rfl rfl ?_
        refine J_goto 130 dX9_weighNext_126 (by decide) ?_
        exact J_lv [0, 1] rfl (K_X9_weighNext_130   a0 a1  x3 st h)
    · have h := h.2 hc
      refine J_aload_n 0 dX9_weighNext_91 rfl rfl ?_
      obtain ⟨r_3, hf, h⟩ := h
      refine J_getR fl_RX9_9 dX9_weighNext_92 hf ?_
      refine J_iload 4 dX9_weighNext_95 rfl ?_
      obtain ⟨hi, h⟩ := h
      refine J_iald dX9_weighNext_97 hi ?_
      refine J_csi (As := [_]) md_J6_bitCount_0f7a4 k_603 rfl rfl ⟨Nat.le_of_ble_eq_true rfl, Nat.le_of_ble_eq_true rfl⟩ ⟨Nat.le_of_ble_eq_true rfl, Nat.le_of_ble_eq_true rfl⟩ (Nat.le_of_ble_eq_true rfl) dX9_weighNext_98 (ct_J6_bitCount_0f7a4  h) (fun z_4 st_5 h => ?_)
      refine J_istore _ dX9_weighNext_101 (by decide) rfl ?_
      refine J_iload 0 dX9_weighNext_103 rfl ?_
      refine J_iload_n 4 dX9_weighNext_105 rfl rfl ?_
      refine J_icmp_le 115 dX9_weighNext_106 (by decide) (fun hc => ?_) (fun hc => ?_)
      · have h := h.1 hc
        exact J_lv [1, 2, 3, 4, 5] rfl (K_X9_weighNext_115   a0 a1 (fun x2 x3 x4 st h => ih x2 x3 x4 st h) x2 x3 x4 st_5 h)
      · have h := h.2 hc
        refine J_iload 0 dX9_weighNext_109 rfl ?_
        refine J_istore_n _ dX9_weighNext_111 rfl (by decide) rfl ?_
        refine J_iload 5 dX9_weighNext_112 rfl ?_
        refine J_istore_n _ dX9_weighNext_114 rfl (by decide) rfl ?_
        exact J_lv [3, 4, 0, 1, 5] rfl (K_X9_weighNext_115   a0 a1 (fun x2 x3 x4 st h => ih x2 x3 x4 st h) x4 z_4 x4 st_5 h)
set_option maxRecDepth 100000 in
set_option maxHeartbeats 4000000 in
theorem K_X9_weighNext_63 {l : Launch} {E : En}   (a0 : Nat) (a1 : Int32) {k23 : Int32 → St → Prop} {post : Int32 → St → Prop}  (hk23 : ∀ (x2 : Int32) (st : St), k23 x2 st → Jg l E (CFc E) (Rm 7 0 0) cX9_weighNext 6 RX9 (some .int) (fun _ => True) (QI E post 0 0) 0 0 23 [(0, .ref a0), (1, .int a1), (2, .int x2)] [] st) (x2 : Int32) (st : St) (h : P_X9_weighNext_63  a0 a1 k23 post x2 st) : Jg l E (CFc E) (Rm 7 0 0) cX9_weighNext 6 RX9 (some .int) (fun _ => True) (QI E post 0 0) 0 0 63 [(0, .ref a0), (1, .int a1), (2, .int x2)] [] st := by
  unfold P_X9_weighNext_63 at h
  refine J_iinc 2 (x2 + 1) _ dX9_weighNext_63 rfl (by rfl) (by decide) rfl ?_
  refine J_goto 23 dX9_weighNext_66 (by decide) ?_
  exact J_lv [1, 2, 0] rfl (hk23 (x2 + 1) st h)
set_option maxRecDepth 100000 in
set_option maxHeartbeats 4000000 in
theorem K_X9_weighNext_23 {l : Launch} {E : En}   (a0 : Nat) (a1 : Int32)  {post : Int32 → St → Prop}   : ∀ (n9 : Nat) (x2 : Int32) (st : St), P_X9_weighNext_23  a0 a1  post n9 x2 st → Jg l E (CFc E) (Rm 7 0 0) cX9_weighNext 6 RX9 (some .int) (fun _ => True) (QI E post 0 0) 0 0 23 [(0, .ref a0), (1, .int a1), (2, .int x2)] [] st := by
  intro n9
  induction n9 with
  | zero => intro x2 st h; exact h.elim
  | succ n9 ih =>
    intro x2 st h
    unfold P_X9_weighNext_23 at h
    refine J_iload_n 2 dX9_weighNext_23 rfl rfl ?_
    refine J_bipush 10 dX9_weighNext_24 (by decide) ?_
    refine J_aload_n 0 dX9_weighNext_26 rfl rfl ?_
    obtain ⟨r_1, hf, h⟩ := h
    refine J_getR fl_RX9_18 dX9_weighNext_27 hf ?_
    obtain ⟨r_2, hf, h⟩ := h
    refine J_getR fl_RX9_68 dX9_weighNext_30 hf ?_
    obtain ⟨hf, h⟩ := h
    refine J_getI fl_RX9_116 dX9_weighNext_33 hf ?_
    refine J_imul dX9_weighNext_36 ?_
    refine J_icmp_ge 69 dX9_weighNext_37 (by decide) (fun hc => ?_) (fun hc => ?_)
    · have h := h.1 hc
      refine J_iconst (-1) dX9_weighNext_69 (by decide) ?_
      refine J_istore_n _ dX9_weighNext_70 rfl (by decide) rfl ?_
      refine J_iconst 0 dX9_weighNext_71 (by decide) ?_
      refine J_istore_n _ dX9_weighNext_72 rfl (by decide) rfl ?_
      refine J_iconst 0 dX9_weighNext_73 (by decide) ?_
      refine J_istore _ dX9_weighNext_74 (by decide) rfl ?_
      obtain ⟨n8, h⟩ := h
      exact J_lv [3, 4, 2, 1, 0] rfl (K_X9_weighNext_76   a0 a1  n8 (-1) 0 0 st h)
    · have h := h.2 hc
      refine J_aload_n 0 dX9_weighNext_40 rfl rfl ?_
      refine J_iload_n 2 dX9_weighNext_41 rfl rfl ?_
      obtain ⟨ho, h⟩ := h
      refine J_cvi (As := [_]) md_X9_suppose k_638 (rc_obj cl_9 ho) rfl rfl ⟨Nat.le_of_ble_eq_true rfl, Nat.le_of_ble_eq_true rfl⟩ ⟨Nat.le_of_ble_eq_true rfl, Nat.le_of_ble_eq_true rfl⟩ (Nat.le_of_ble_eq_true rfl) dX9_weighNext_42 (ct_X9_suppose  h) (fun z_3 st_4 h => ?_)
      refine J_if_eq 63 dX9_weighNext_45 (by decide) (fun hc => ?_) (fun hc => ?_)
      · have h := h.1 hc
        exact J_lv [0, 1, 2] rfl (K_X9_weighNext_63   a0 a1 (fun x2 st h => ih x2 st h) x2 st_4 h)
      · have h := h.2 hc
        refine J_aload_n 0 dX9_weighNext_48 rfl rfl ?_
        obtain ⟨ho, h⟩ := h
        refine J_cvi (As := []) md_X9_isSeenInTrial k_630 (rc_obj cl_9 ho) rfl rfl ⟨Nat.le_of_ble_eq_true rfl, Nat.le_of_ble_eq_true rfl⟩ ⟨Nat.le_of_ble_eq_true rfl, Nat.le_of_ble_eq_true rfl⟩ (Nat.le_of_ble_eq_true rfl) dX9_weighNext_49 (ct_X9_isSeenInTrial  h) (fun z_5 st_6 h => ?_)
        refine J_if_eq 63 dX9_weighNext_52 (by decide) (fun hc => ?_) (fun hc => ?_)
        · have h := h.1 hc
          exact J_lv [0, 1, 2] rfl (K_X9_weighNext_63   a0 a1 (fun x2 st h => ih x2 st h) x2 st_6 h)
        · have h := h.2 hc
          refine J_aload_n 0 dX9_weighNext_55 rfl rfl ?_
          obtain ⟨ho, h⟩ := h
          refine J_cvv (As := []) md_X9_foresee k_593 (rc_obj cl_9 ho) rfl rfl ⟨Nat.le_of_ble_eq_true rfl, Nat.le_of_ble_eq_true rfl⟩ ⟨Nat.le_of_ble_eq_true rfl, Nat.le_of_ble_eq_true rfl⟩ (Nat.le_of_ble_eq_true rfl) dX9_weighNext_56 (ct_X9_foresee  h) (fun st_8 h => ?_)
          refine J_aload_n 0 dX9_weighNext_59 rfl rfl ?_
          obtain ⟨ho, h⟩ := h
          refine J_cvv (As := []) md_X9_noteLeaders k_644 (rc_obj cl_9 ho) rfl rfl ⟨Nat.le_of_ble_eq_true rfl, Nat.le_of_ble_eq_true rfl⟩ ⟨Nat.le_of_ble_eq_true rfl, Nat.le_of_ble_eq_true rfl⟩ (Nat.le_of_ble_eq_true rfl) dX9_weighNext_60 (ct_X9_noteLeaders  h) (fun st_10 h => ?_)
          exact J_lv [0, 1, 2] rfl (K_X9_weighNext_63   a0 a1 (fun x2 st h => ih x2 st h) x2 st_10 h)
set_option maxRecDepth 100000 in
set_option maxHeartbeats 4000000 in
theorem K_X9_weighNext_2 {l : Launch} {E : En}   (a0 : Nat) (a1 : Int32)  {post : Int32 → St → Prop}   : ∀ (n9 : Nat) (x2 : Int32) (st : St), P_X9_weighNext_2  a0 a1  post n9 x2 st → Jg l E (CFc E) (Rm 7 0 0) cX9_weighNext 6 RX9 (some .int) (fun _ => True) (QI E post 0 0) 0 0 2 [(0, .ref a0), (1, .int a1), (2, .int x2)] [] st := by
  intro n9
  induction n9 with
  | zero => intro x2 st h; exact h.elim
  | succ n9 ih =>
    intro x2 st h
    unfold P_X9_weighNext_2 at h
    refine J_iload_n 2 dX9_weighNext_2 rfl rfl ?_
    refine J_bipush 6 dX9_weighNext_3 (by decide) ?_
    refine J_icmp_ge 21 dX9_weighNext_5 (by decide) (fun hc => ?_) (fun hc => ?_)
    · have h := h.1 hc
      refine J_iconst 0 dX9_weighNext_21 (by decide) ?_
      refine J_istore_n _ dX9_weighNext_22 rfl (by decide) rfl ?_
      obtain ⟨n8, h⟩ := h
      exact J_lv [1, 2, 0] rfl (K_X9_weighNext_23   a0 a1  n8 0 st h)
    · have h := h.2 hc
      refine J_aload_n 0 dX9_weighNext_8 rfl rfl ?_
      obtain ⟨r_1, hf, h⟩ := h
      refine J_getR fl_RX9_9 dX9_weighNext_9 hf ?_
      refine J_iload_n 2 dX9_weighNext_12 rfl rfl ?_
      refine J_iconst 0 dX9_weighNext_13 (by decide) ?_
      obtain ⟨hi, h⟩ := h
      refine J_iast dX9_weighNext_14 hi ?_
      refine J_iinc 2 (x2 + 1) _ dX9_weighNext_15 rfl (by rfl) (by decide) rfl ?_
      refine J_goto 2 dX9_weighNext_18 (by decide) ?_
      exact J_lv [1, 2, 0] rfl (ih (x2 + 1) (sA st r_1 (x2 : Int32).toNatClampNeg 0) h)
set_option maxRecDepth 100000 in
set_option maxHeartbeats 4000000 in
theorem ct_X9_weighNext {l : Launch} {E : En}  {a0 : Nat} {a1 : Int32} {st : St} {post : Int32 → St → Prop} (h : P_X9_weighNext  a0 a1 st post) : CtI l E (CFc E) 7 0 0 yX9_weighNext cX9_weighNext 6 (some .int) [.ref a0, .int a1] st post := by
  refine ctI_of (by decide) (Nat.le_of_ble_eq_true rfl) ?_
  show Jg l E (CFc E) (Rm 7 0 0) cX9_weighNext 6 RX9 (some .int) (fun _ => True) (QI E post 0 0) 0 0 0 [(0, .ref a0), (1, .int a1)] [] st
  unfold P_X9_weighNext at h
  refine J_iconst 0 dX9_weighNext_0 (by decide) ?_
  refine J_istore_n _ dX9_weighNext_1 rfl (by decide) rfl ?_
  obtain ⟨n8, h⟩ := h
  exact J_lv [1, 2, 0] rfl (K_X9_weighNext_2   a0 a1  n8 0 st h)
/-! X9_playAll -/
def P_X9_playAll_12  (a0 : Nat) (a1 : Int32) (a2 : Int32) (a3 : Int32) (k3 : Int32 → St → Prop) (post : St → Prop) : Nat → Int32 → Int32 → St → Prop
  | 0, _, _, _ => False
  | n9 + 1, x4, x5, st => ((2 ≤ x5 → k3 (x4 + 1) st) ∧ (¬ 2 ≤ x5 → ∃ r_1, rv st a0 9 1 = some r_1 ∧ ∃ r_2, rv st a0 9 0 = some r_2 ∧ oC r_1 2 ∧ P_X2_copyFrom  r_1 r_2 st (fun st_4 => oC a0 9 ∧ P_X9_choose  a0 a1 x4 st_4 (fun st_6 => oC a0 9 ∧ P_X9_choose  a0 a2 x5 st_6 (fun st_8 => oC a0 9 ∧ P_X9_foresee  a0 st_8 (fun st_10 => ∃ r_11, rv st_10 a0 9 4 = some r_11 ∧ ∃ r_12, rv st_10 a0 9 1 = some r_12 ∧ oC r_12 2 ∧ P_X2_whoLed  r_12 a3 st_10 (fun z_13 st_14 => vp_in ((2 * x4) + x5) (al 0 r_11) ∧ P_X9_playAll_12  a0 a1 a2 a3 k3 post n9 x4 (x5 + 1) (sA st_14 r_11 ((2 * x4) + x5 : Int32).toNatClampNeg z_13))))))))
def P_X9_playAll_3  (a0 : Nat) (a1 : Int32) (a2 : Int32) (a3 : Int32)  (post : St → Prop) : Nat → Int32 → St → Prop
  | 0, _, _ => False
  | n9 + 1, x4, st => ((2 ≤ x4 → post st) ∧ (¬ 2 ≤ x4 → ∃ n8, P_X9_playAll_12  a0 a1 a2 a3 (fun x4 st => P_X9_playAll_3  a0 a1 a2 a3  post n9 x4 st) post n8 x4 0 st))
def P_X9_playAll  (a0 : Nat) (a1 : Int32) (a2 : Int32) (a3 : Int32) (st : St) (post : St → Prop) : Prop := ∃ n8, P_X9_playAll_3  a0 a1 a2 a3  post n8 0 st
set_option maxRecDepth 100000 in
set_option maxHeartbeats 4000000 in
theorem K_X9_playAll_12 {l : Launch} {E : En}   (a0 : Nat) (a1 : Int32) (a2 : Int32) (a3 : Int32) {k3 : Int32 → St → Prop} {post : St → Prop}  (hk3 : ∀ (x4 : Int32) (st : St), k3 x4 st → Jg l E (CFc E) (Rm 7 0 0) cX9_playAll 6 RX9 none (fun _ => True) (QV E post 0 0) 0 0 3 [(0, .ref a0), (1, .int a1), (2, .int a2), (3, .int a3), (4, .int x4)] [] st) : ∀ (n9 : Nat) (x4 : Int32) (x5 : Int32) (st : St), P_X9_playAll_12  a0 a1 a2 a3 k3 post n9 x4 x5 st → Jg l E (CFc E) (Rm 7 0 0) cX9_playAll 6 RX9 none (fun _ => True) (QV E post 0 0) 0 0 12 [(0, .ref a0), (1, .int a1), (2, .int a2), (3, .int a3), (4, .int x4), (5, .int x5)] [] st := by
  intro n9
  induction n9 with
  | zero => intro x4 x5 st h; exact h.elim
  | succ n9 ih =>
    intro x4 x5 st h
    unfold P_X9_playAll_12 at h
    refine J_iload 5 dX9_playAll_12 rfl ?_
    refine J_iconst 2 dX9_playAll_14 (by decide) ?_
    refine J_icmp_ge 73 dX9_playAll_15 (by decide) (fun hc => ?_) (fun hc => ?_)
    · have h := h.1 hc
      refine J_iinc 4 (x4 + 1) _ dX9_playAll_73 rfl (by rfl) (by decide) rfl ?_
      refine J_goto 3 dX9_playAll_76 (by decide) ?_
      exact J_lv [1, 2, 3, 4, 0] rfl (hk3 (x4 + 1) st h)
    · have h := h.2 hc
      refine J_aload_n 0 dX9_playAll_18 rfl rfl ?_
      obtain ⟨r_1, hf, h⟩ := h
      refine J_getR fl_RX9_22 dX9_playAll_19 hf ?_
      refine J_aload_n 0 dX9_playAll_22 rfl rfl ?_
      obtain ⟨r_2, hf, h⟩ := h
      refine J_getR fl_RX9_18 dX9_playAll_23 hf ?_
      obtain ⟨ho, h⟩ := h
      refine J_cvv (As := [_]) md_X2_copyFrom k_583 (rc_obj cl_2 ho) rfl rfl ⟨Nat.le_of_ble_eq_true rfl, Nat.le_of_ble_eq_true rfl⟩ ⟨Nat.le_of_ble_eq_true rfl, Nat.le_of_ble_eq_true rfl⟩ (Nat.le_of_ble_eq_true rfl) dX9_playAll_26 (ct_X2_copyFrom  h) (fun st_4 h => ?_)
      refine J_aload_n 0 dX9_playAll_29 rfl rfl ?_
      refine J_iload_n 1 dX9_playAll_30 rfl rfl ?_
      refine J_iload 4 dX9_playAll_31 rfl ?_
      obtain ⟨ho, h⟩ := h
      refine J_cvv (As := [_, _]) md_X9_choose k_650 (rc_obj cl_9 ho) rfl rfl ⟨Nat.le_of_ble_eq_true rfl, Nat.le_of_ble_eq_true rfl⟩ ⟨Nat.le_of_ble_eq_true rfl, Nat.le_of_ble_eq_true rfl⟩ (Nat.le_of_ble_eq_true rfl) dX9_playAll_33 (ct_X9_choose  h) (fun st_6 h => ?_)
      refine J_aload_n 0 dX9_playAll_36 rfl rfl ?_
      refine J_iload_n 2 dX9_playAll_37 rfl rfl ?_
      refine J_iload 5 dX9_playAll_38 rfl ?_
      obtain ⟨ho, h⟩ := h
      refine J_cvv (As := [_, _]) md_X9_choose k_650 (rc_obj cl_9 ho) rfl rfl ⟨Nat.le_of_ble_eq_true rfl, Nat.le_of_ble_eq_true rfl⟩ ⟨Nat.le_of_ble_eq_true rfl, Nat.le_of_ble_eq_true rfl⟩ (Nat.le_of_ble_eq_true rfl) dX9_playAll_40 (ct_X9_choose  h) (fun st_8 h => ?_)
      refine J_aload_n 0 dX9_playAll_43 rfl rfl ?_
      obtain ⟨ho, h⟩ := h
      refine J_cvv (As := []) md_X9_foresee k_593 (rc_obj cl_9 ho) rfl rfl ⟨Nat.le_of_ble_eq_true rfl, Nat.le_of_ble_eq_true rfl⟩ ⟨Nat.le_of_ble_eq_true rfl, Nat.le_of_ble_eq_true rfl⟩ (Nat.le_of_ble_eq_true rfl) dX9_playAll_44 (ct_X9_foresee  h) (fun st_10 h => ?_)
      refine J_aload_n 0 dX9_playAll_47 rfl rfl ?_
      obtain ⟨r_11, hf, h⟩ := h
      refine J_getR fl_RX9_15 dX9_playAll_48 hf ?_
      refine J_iconst 2 dX9_playAll_51 (by decide) ?_
      refine J_iload 4 dX9_playAll_52 rfl ?_
      refine J_imul dX9_playAll_54 ?_
      refine J_iload 5 dX9_playAll_55 rfl ?_
      refine J_iadd dX9_playAll_57 ?_
      refine J_aload_n 0 dX9_playAll_58 rfl rfl ?_
      obtain ⟨r_12, hf, h⟩ := h
      refine J_getR fl_RX9_22 dX9_playAll_59 hf ?_
      refine J_iload_n 3 dX9_playAll_62 rfl rfl ?_
      obtain ⟨ho, h⟩ := h
      refine J_cvi (As := [_]) md_X2_whoLed k_597 (rc_obj cl_2 ho) rfl rfl ⟨Nat.le_of_ble_eq_true rfl, Nat.le_of_ble_eq_true rfl⟩ ⟨Nat.le_of_ble_eq_true rfl, Nat.le_of_ble_eq_true rfl⟩ (Nat.le_of_ble_eq_true rfl) dX9_playAll_63 (ct_X2_whoLed  h) (fun z_13 st_14 h => ?_)
      obtain ⟨hi, h⟩ := h
      refine J_iast dX9_playAll_66 hi ?_
      refine J_iinc 5 (x5 + 1) _ dX9_playAll_67 rfl (by rfl) (by decide) rfl ?_
      refine J_goto 12 dX9_playAll_70 (by decide) ?_
      exact J_lv [1, 2, 3, 4, 5, 0] rfl (ih x4 (x5 + 1) (sA st_14 r_11 ((2 * x4) + x5 : Int32).toNatClampNeg z_13) h)
set_option maxRecDepth 100000 in
set_option maxHeartbeats 4000000 in
theorem K_X9_playAll_3 {l : Launch} {E : En}   (a0 : Nat) (a1 : Int32) (a2 : Int32) (a3 : Int32)  {post : St → Prop}   : ∀ (n9 : Nat) (x4 : Int32) (st : St), P_X9_playAll_3  a0 a1 a2 a3  post n9 x4 st → Jg l E (CFc E) (Rm 7 0 0) cX9_playAll 6 RX9 none (fun _ => True) (QV E post 0 0) 0 0 3 [(0, .ref a0), (1, .int a1), (2, .int a2), (3, .int a3), (4, .int x4)] [] st := by
  intro n9
  induction n9 with
  | zero => intro x4 st h; exact h.elim
  | succ n9 ih =>
    intro x4 st h
    unfold P_X9_playAll_3 at h
    refine J_iload 4 dX9_playAll_3 rfl ?_
    refine J_iconst 2 dX9_playAll_5 (by decide) ?_
    refine J_icmp_ge 79 dX9_playAll_6 (by decide) (fun hc => ?_) (fun hc => ?_)
    · have h := h.1 hc
      exact J_retv rfl dX9_playAll_79 h
    · have h := h.2 hc
      refine J_iconst 0 dX9_playAll_9 (by decide) ?_
      refine J_istore _ dX9_playAll_10 (by decide) rfl ?_
      obtain ⟨n8, h⟩ := h
      exact J_lv [1, 2, 3, 4, 5, 0] rfl (K_X9_playAll_12   a0 a1 a2 a3 (fun x4 st h => ih x4 st h) n8 x4 0 st h)
set_option maxRecDepth 100000 in
set_option maxHeartbeats 4000000 in
theorem ct_X9_playAll {l : Launch} {E : En}  {a0 : Nat} {a1 : Int32} {a2 : Int32} {a3 : Int32} {st : St} {post : St → Prop} (h : P_X9_playAll  a0 a1 a2 a3 st post) : CtV l E (CFc E) 7 0 0 yX9_playAll cX9_playAll 6 none [.ref a0, .int a1, .int a2, .int a3] st post := by
  refine ctV_of (by decide) (Nat.le_of_ble_eq_true rfl) ?_
  show Jg l E (CFc E) (Rm 7 0 0) cX9_playAll 6 RX9 none (fun _ => True) (QV E post 0 0) 0 0 0 [(0, .ref a0), (1, .int a1), (2, .int a2), (3, .int a3)] [] st
  unfold P_X9_playAll at h
  refine J_iconst 0 dX9_playAll_0 (by decide) ?_
  refine J_istore _ dX9_playAll_1 (by decide) rfl ?_
  obtain ⟨n8, h⟩ := h
  exact J_lv [1, 2, 3, 4, 0] rfl (K_X9_playAll_3   a0 a1 a2 a3  n8 0 st h)
/-! X9_drawYears -/
def P_X9_drawYears_18  (a0 : Nat) (a1 : Int32) (a2 : Int32)  (post : St → Prop) : Nat → Int32 → St → Prop
  | 0, _, _ => False
  | n9 + 1, x3, st => ((a2 ≤ x3 → post st) ∧ (¬ a2 ≤ x3 → oC a0 9 ∧ P_X9_takeChance  a0 st (fun st_2 => ∃ r_3, rv st_2 a0 9 1 = some r_3 ∧ oC r_3 2 ∧ P_X2_passDay  r_3 st_2 (fun st_5 => P_X9_drawYears_18  a0 a1 a2  post n9 (x3 + 1) st_5))))
def P_X9_drawYears  (a0 : Nat) (a1 : Int32) (a2 : Int32) (st : St) (post : St → Prop) : Prop := fk a0 9 5 = some 0 ∧ ∃ r_1, rv (sI st a0 5 a1) a0 9 1 = some r_1 ∧ ∃ r_2, rv (sI st a0 5 a1) a0 9 0 = some r_2 ∧ oC r_1 2 ∧ P_X2_copyFrom  r_1 r_2 (sI st a0 5 a1) (fun st_4 => ∃ n8, P_X9_drawYears_18  a0 a1 a2  post n8 0 st_4)
set_option maxRecDepth 100000 in
set_option maxHeartbeats 4000000 in
theorem K_X9_drawYears_18 {l : Launch} {E : En}   (a0 : Nat) (a1 : Int32) (a2 : Int32)  {post : St → Prop}   : ∀ (n9 : Nat) (x3 : Int32) (st : St), P_X9_drawYears_18  a0 a1 a2  post n9 x3 st → Jg l E (CFc E) (Rm 6 0 0) cX9_drawYears 4 RX9 none (fun _ => True) (QV E post 0 0) 0 0 18 [(0, .ref a0), (1, .int a1), (2, .int a2), (3, .int x3)] [] st := by
  intro n9
  induction n9 with
  | zero => intro x3 st h; exact h.elim
  | succ n9 ih =>
    intro x3 st h
    unfold P_X9_drawYears_18 at h
    refine J_iload_n 3 dX9_drawYears_18 rfl rfl ?_
    refine J_iload_n 2 dX9_drawYears_19 rfl rfl ?_
    refine J_icmp_ge 40 dX9_drawYears_20 (by decide) (fun hc => ?_) (fun hc => ?_)
    · have h := h.1 hc
      exact J_retv rfl dX9_drawYears_40 h
    · have h := h.2 hc
      refine J_aload_n 0 dX9_drawYears_23 rfl rfl ?_
      obtain ⟨ho, h⟩ := h
      refine J_cvv (As := []) md_X9_takeChance k_673 (rc_obj cl_9 ho) rfl rfl ⟨Nat.le_of_ble_eq_true rfl, Nat.le_of_ble_eq_true rfl⟩ ⟨Nat.le_of_ble_eq_true rfl, Nat.le_of_ble_eq_true rfl⟩ (Nat.le_of_ble_eq_true rfl) dX9_drawYears_24 (ct_X9_takeChance  h) (fun st_2 h => ?_)
      refine J_aload_n 0 dX9_drawYears_27 rfl rfl ?_
      obtain ⟨r_3, hf, h⟩ := h
      refine J_getR fl_RX9_22 dX9_drawYears_28 hf ?_
      obtain ⟨ho, h⟩ := h
      refine J_cvv (As := []) md_X2_passDay k_584 (rc_obj cl_2 ho) rfl rfl ⟨Nat.le_of_ble_eq_true rfl, Nat.le_of_ble_eq_true rfl⟩ ⟨Nat.le_of_ble_eq_true rfl, Nat.le_of_ble_eq_true rfl⟩ (Nat.le_of_ble_eq_true rfl) dX9_drawYears_31 (ct_X2_passDay  h) (fun st_5 h => ?_)
      refine J_iinc 3 (x3 + 1) _ dX9_drawYears_34 rfl (by rfl) (by decide) rfl ?_
      refine J_goto 18 dX9_drawYears_37 (by decide) ?_
      exact J_lv [1, 2, 3, 0] rfl (ih (x3 + 1) st_5 h)
set_option maxRecDepth 100000 in
set_option maxHeartbeats 4000000 in
theorem ct_X9_drawYears {l : Launch} {E : En}  {a0 : Nat} {a1 : Int32} {a2 : Int32} {st : St} {post : St → Prop} (h : P_X9_drawYears  a0 a1 a2 st post) : CtV l E (CFc E) 6 0 0 yX9_drawYears cX9_drawYears 4 none [.ref a0, .int a1, .int a2] st post := by
  refine ctV_of (by decide) (Nat.le_of_ble_eq_true rfl) ?_
  show Jg l E (CFc E) (Rm 6 0 0) cX9_drawYears 4 RX9 none (fun _ => True) (QV E post 0 0) 0 0 0 [(0, .ref a0), (1, .int a1), (2, .int a2)] [] st
  unfold P_X9_drawYears at h
  refine J_aload_n 0 dX9_drawYears_0 rfl rfl ?_
  refine J_iload_n 1 dX9_drawYears_1 rfl rfl ?_
  obtain ⟨hf, h⟩ := h
  refine J_putI fp_RX9_139 dX9_drawYears_2 rfl hf ?_
  refine J_aload_n 0 dX9_drawYears_5 rfl rfl ?_
  obtain ⟨r_1, hf, h⟩ := h
  refine J_getR fl_RX9_22 dX9_drawYears_6 hf ?_
  refine J_aload_n 0 dX9_drawYears_9 rfl rfl ?_
  obtain ⟨r_2, hf, h⟩ := h
  refine J_getR fl_RX9_18 dX9_drawYears_10 hf ?_
  obtain ⟨ho, h⟩ := h
  refine J_cvv (As := [_]) md_X2_copyFrom k_583 (rc_obj cl_2 ho) rfl rfl ⟨Nat.le_of_ble_eq_true rfl, Nat.le_of_ble_eq_true rfl⟩ ⟨Nat.le_of_ble_eq_true rfl, Nat.le_of_ble_eq_true rfl⟩ (Nat.le_of_ble_eq_true rfl) dX9_drawYears_13 (ct_X2_copyFrom  h) (fun st_4 h => ?_)
  refine J_iconst 0 dX9_drawYears_16 (by decide) ?_
  refine J_istore_n _ dX9_drawYears_17 rfl (by decide) rfl ?_
  obtain ⟨n8, h⟩ := h
  exact J_lv [1, 2, 3, 0] rfl (K_X9_drawYears_18   a0 a1 a2  n8 0 st_4 h)
/-! X9_findBestDay -/
def P_X9_findBestDay_94  (a0 : Nat) (a1 : Int32) (a2 : Int32)  (post : Int32 → St → Prop) (s0 : Int32) (st : St) : Prop := post s0 st
def P_X9_findBestDay_84  (a0 : Nat) (a1 : Int32) (a2 : Int32)  (post : Int32 → St → Prop) (x3 : Int32) (x4 : Int32) (st : St) : Prop := ((a2 = 0 → P_X9_findBestDay_94  a0 a1 a2  post x3 st) ∧ (¬ a2 = 0 → P_X9_findBestDay_94  a0 a1 a2  post x4 st))
def P_X9_findBestDay_78  (a0 : Nat) (a1 : Int32) (a2 : Int32) (k32 : Int32 → Int32 → Int32 → Int32 → St → Prop) (post : Int32 → St → Prop) (x3 : Int32) (x4 : Int32) (x5 : Int32) (x6 : Int32) (st : St) : Prop := k32 x3 x4 x5 (x6 + 1) st
def P_X9_findBestDay_32  (a0 : Nat) (a1 : Int32) (a2 : Int32)  (post : Int32 → St → Prop) : Nat → Int32 → Int32 → Int32 → Int32 → St → Prop
  | 0, _, _, _, _, _ => False
  | n9 + 1, x3, x4, x5, x6, st => ((x5 < x6 → P_X9_findBestDay_84  a0 a1 a2  post x3 x4 st) ∧ (¬ x5 < x6 → ∃ r_1, rv st a0 9 0 = some r_1 ∧ oC r_1 2 ∧ P_X2_isHome  r_1 a1 st (fun z_2 st_3 => ((z_2 = 0 → P_X9_findBestDay_84  a0 a1 a2  post x3 x4 st_3) ∧ (¬ z_2 = 0 → oC a0 9 ∧ P_X9_weightOfLeaderOn  a0 a1 x6 st_3 (fun z_4 st_5 => ((z_4 ≤ 0 → P_X9_findBestDay_78  a0 a1 a2 (fun x3 x4 x5 x6 st => P_X9_findBestDay_32  a0 a1 a2  post n9 x3 x4 x5 x6 st) post x3 x4 x5 x6 st_5) ∧ (¬ z_4 ≤ 0 → ((z_4 ≤ x4 → P_X9_findBestDay_78  a0 a1 a2 (fun x3 x4 x5 x6 st => P_X9_findBestDay_32  a0 a1 a2  post n9 x3 x4 x5 x6 st) post x3 x4 x5 x6 st_5) ∧ (¬ z_4 ≤ x4 → P_X9_findBestDay_78  a0 a1 a2 (fun x3 x4 x5 x6 st => P_X9_findBestDay_32  a0 a1 a2  post n9 x3 x4 x5 x6 st) post x6 z_4 x5 x6 st_5))))))))))
def P_X9_findBestDay  (a0 : Nat) (a1 : Int32) (a2 : Int32) (st : St) (post : Int32 → St → Prop) : Prop := ∃ r_1, rv st a0 9 0 = some r_1 ∧ oC r_1 2 ∧ P_X2_today  r_1 st (fun z_2 st_3 => ∃ r_4, rv st_3 a0 9 0 = some r_4 ∧ oC r_4 2 ∧ P_X2_today  r_4 st_3 (fun z_5 st_6 => ∃ n8, P_X9_findBestDay_32  a0 a1 a2  post n8 (-1) (-1) (if ((z_2 + 30) : Int32) < 999 then (z_2 + 30) else 999) z_5 st_6))
set_option maxRecDepth 100000 in
set_option maxHeartbeats 4000000 in
theorem K_X9_findBestDay_94 {l : Launch} {E : En}   (a0 : Nat) (a1 : Int32) (a2 : Int32)  {post : Int32 → St → Prop}   (s0 : Int32) (st : St) (h : P_X9_findBestDay_94  a0 a1 a2  post s0 st) : Jg l E (CFc E) (Rm 7 0 0) cX9_findBestDay 8 RX9 (some .int) (fun _ => True) (QI E post 0 0) 0 0 94 [(0, .ref a0), (1, .int a1), (2, .int a2)] [.int s0] st := by
  unfold P_X9_findBestDay_94 at h
  exact J_reti rfl dX9_findBestDay_94 h
set_option maxRecDepth 100000 in
set_option maxHeartbeats 4000000 in
theorem K_X9_findBestDay_84 {l : Launch} {E : En}   (a0 : Nat) (a1 : Int32) (a2 : Int32)  {post : Int32 → St → Prop}   (x3 : Int32) (x4 : Int32) (st : St) (h : P_X9_findBestDay_84  a0 a1 a2  post x3 x4 st) : Jg l E (CFc E) (Rm 7 0 0) cX9_findBestDay 8 RX9 (some .int) (fun _ => True) (QI E post 0 0) 0 0 84 [(0, .ref a0), (1, .int a1), (2, .int a2), (3, .int x3), (4, .int x4)] [] st := by
  unfold P_X9_findBestDay_84 at h
  refine J_iload_n 2 dX9_findBestDay_84 rfl rfl ?_
  refine J_if_eq 93 dX9_findBestDay_85 (by decide) (fun hc => ?_) (fun hc => ?_)
  · have h := h.1 hc
    refine J_iload_n 3 dX9_findBestDay_93 rfl rfl ?_
    exact J_lv [0, 1, 2] rfl (K_X9_findBestDay_94   a0 a1 a2  x3 st h)
  · have h := h.2 hc
    refine J_iload 4 dX9_findBestDay_88 rfl ?_
    refine J_goto 94 dX9_findBestDay_90 (by decide) ?_
    exact J_lv [0, 1, 2] rfl (K_X9_findBestDay_94   a0 a1 a2  x4 st h)
set_option maxRecDepth 100000 in
set_option maxHeartbeats 4000000 in
theorem K_X9_findBestDay_78 {l : Launch} {E : En}   (a0 : Nat) (a1 : Int32) (a2 : Int32) {k32 : Int32 → Int32 → Int32 → Int32 → St → Prop} {post : Int32 → St → Prop}  (hk32 : ∀ (x3 : Int32) (x4 : Int32) (x5 : Int32) (x6 : Int32) (st : St), k32 x3 x4 x5 x6 st → Jg l E (CFc E) (Rm 7 0 0) cX9_findBestDay 8 RX9 (some .int) (fun _ => True) (QI E post 0 0) 0 0 32 [(0, .ref a0), (1, .int a1), (2, .int a2), (3, .int x3), (4, .int x4), (5, .int x5), (6, .int x6)] [] st) (x3 : Int32) (x4 : Int32) (x5 : Int32) (x6 : Int32) (st : St) (h : P_X9_findBestDay_78  a0 a1 a2 k32 post x3 x4 x5 x6 st) : Jg l E (CFc E) (Rm 7 0 0) cX9_findBestDay 8 RX9 (some .int) (fun _ => True) (QI E post 0 0) 0 0 78 [(0, .ref a0), (1, .int a1), (2, .int a2), (3, .int x3), (4, .int x4), (5, .int x5), (6, .int x6)] [] st := by
  unfold P_X9_findBestDay_78 at h
  refine J_iinc 6 (x6 + 1) _ dX9_findBestDay_78 rfl (by rfl) (by decide) rfl ?_
  refine J_goto 32 dX9_findBestDay_81 (by decide) ?_
  exact J_lv [1, 2, 3, 4, 5, 6, 0] rfl (hk32 x3 x4 x5 (x6 + 1) st h)
set_option maxRecDepth 100000 in
set_option maxHeartbeats 4000000 in
theorem K_X9_findBestDay_32 {l : Launch} {E : En}   (a0 : Nat) (a1 : Int32) (a2 : Int32)  {post : Int32 → St → Prop}   : ∀ (n9 : Nat) (x3 : Int32) (x4 : Int32) (x5 : Int32) (x6 : Int32) (st : St), P_X9_findBestDay_32  a0 a1 a2  post n9 x3 x4 x5 x6 st → Jg l E (CFc E) (Rm 7 0 0) cX9_findBestDay 8 RX9 (some .int) (fun _ => True) (QI E post 0 0) 0 0 32 [(0, .ref a0), (1, .int a1), (2, .int a2), (3, .int x3), (4, .int x4), (5, .int x5), (6, .int x6)] [] st := by
  intro n9
  induction n9 with
  | zero => intro x3 x4 x5 x6 st h; exact h.elim
  | succ n9 ih =>
    intro x3 x4 x5 x6 st h
    unfold P_X9_findBestDay_32 at h
    refine J_iload 6 dX9_findBestDay_32 rfl ?_
    refine J_iload 5 dX9_findBestDay_34 rfl ?_
    refine J_icmp_gt 84 dX9_findBestDay_36 (by decide) (fun hc => ?_) (fun hc => ?_)
    · have h := h.1 hc
      exact J_lv [0, 1, 2, 3, 4] rfl (K_X9_findBestDay_84   a0 a1 a2  x3 x4 st h)
    · have h := h.2 hc
      refine J_aload_n 0 dX9_findBestDay_39 rfl rfl ?_
      obtain ⟨r_1, hf, h⟩ := h
      refine J_getR fl_RX9_18 dX9_findBestDay_40 hf ?_
      refine J_iload_n 1 dX9_findBestDay_43 rfl rfl ?_
      obtain ⟨ho, h⟩ := h
      refine J_cvi (As := [_]) md_X2_isHome k_604 (rc_obj cl_2 ho) rfl rfl ⟨Nat.le_of_ble_eq_true rfl, Nat.le_of_ble_eq_true rfl⟩ ⟨Nat.le_of_ble_eq_true rfl, Nat.le_of_ble_eq_true rfl⟩ (Nat.le_of_ble_eq_true rfl) dX9_findBestDay_44 (ct_X2_isHome  h) (fun z_2 st_3 h => ?_)
      refine J_if_eq 84 dX9_findBestDay_47 (by decide) (fun hc => ?_) (fun hc => ?_)
      · have h := h.1 hc
        exact J_lv [0, 1, 2, 3, 4] rfl (K_X9_findBestDay_84   a0 a1 a2  x3 x4 st_3 h)
      · have h := h.2 hc
        refine J_aload_n 0 dX9_findBestDay_50 rfl rfl ?_
        refine J_iload_n 1 dX9_findBestDay_51 rfl rfl ?_
        refine J_iload 6 dX9_findBestDay_52 rfl ?_
        obtain ⟨ho, h⟩ := h
        refine J_cvi (As := [_, _]) md_X9_weightOfLeaderOn k_619 (rc_obj cl_9 ho) rfl rfl ⟨Nat.le_of_ble_eq_true rfl, Nat.le_of_ble_eq_true rfl⟩ ⟨Nat.le_of_ble_eq_true rfl, Nat.le_of_ble_eq_true rfl⟩ (Nat.le_of_ble_eq_true rfl) dX9_findBestDay_54 (ct_X9_weightOfLeaderOn  h) (fun z_4 st_5 h => ?_)
        refine J_istore _ dX9_findBestDay_57 (by decide) rfl ?_
        refine J_iload 0 dX9_findBestDay_59 rfl ?_
        refine J_if_le 78 dX9_findBestDay_61 (by decide) (fun hc => ?_) (fun hc => ?_)
        · have h := h.1 hc
          exact J_lv [1, 2, 3, 4, 5, 6, 7] rfl (K_X9_findBestDay_78   a0 a1 a2 (fun x3 x4 x5 x6 st h => ih x3 x4 x5 x6 st h) x3 x4 x5 x6 st_5 h)
        · have h := h.2 hc
          refine J_iload 0 dX9_findBestDay_64 rfl ?_
          refine J_iload 5 dX9_findBestDay_66 rfl ?_
          refine J_icmp_le 78 dX9_findBestDay_68 (by decide) (fun hc => ?_) (fun hc => ?_)
          · have h := h.1 hc
            exact J_lv [1, 2, 3, 4, 5, 6, 7] rfl (K_X9_findBestDay_78   a0 a1 a2 (fun x3 x4 x5 x6 st h => ih x3 x4 x5 x6 st h) x3 x4 x5 x6 st_5 h)
          · have h := h.2 hc
            refine J_iload 0 dX9_findBestDay_71 rfl ?_
            refine J_istore _ dX9_findBestDay_73 (by decide) rfl ?_
            refine J_iload 7 dX9_findBestDay_75 rfl ?_
            refine J_istore_n _ dX9_findBestDay_77 rfl (by decide) rfl ?_
            exact J_lv [3, 4, 5, 0, 1, 6, 7] rfl (K_X9_findBestDay_78   a0 a1 a2 (fun x3 x4 x5 x6 st h => ih x3 x4 x5 x6 st h) x6 z_4 x5 x6 st_5 h)
set_option maxRecDepth 100000 in
set_option maxHeartbeats 4000000 in
theorem ct_X9_findBestDay {l : Launch} {E : En}  {a0 : Nat} {a1 : Int32} {a2 : Int32} {st : St} {post : Int32 → St → Prop} (h : P_X9_findBestDay  a0 a1 a2 st post) : CtI l E (CFc E) 7 0 0 yX9_findBestDay cX9_findBestDay 8 (some .int) [.ref a0, .int a1, .int a2] st post := by
  refine ctI_of (by decide) (Nat.le_of_ble_eq_true rfl) ?_
  show Jg l E (CFc E) (Rm 7 0 0) cX9_findBestDay 8 RX9 (some .int) (fun _ => True) (QI E post 0 0) 0 0 0 [(0, .ref a0), (1, .int a1), (2, .int a2)] [] st
  unfold P_X9_findBestDay at h
  refine J_iconst (-1) dX9_findBestDay_0 (by decide) ?_
  refine J_istore_n _ dX9_findBestDay_1 rfl (by decide) rfl ?_
  refine J_iconst (-1) dX9_findBestDay_2 (by decide) ?_
  refine J_istore _ dX9_findBestDay_3 (by decide) rfl ?_
  refine J_sipush 999 dX9_findBestDay_5 (by decide) ?_
  refine J_aload_n 2 dX9_findBestDay_8 rfl rfl ?_
  obtain ⟨r_1, hf, h⟩ := h
  refine J_getR fl_RX9_18 dX9_findBestDay_9 hf ?_
  obtain ⟨ho, h⟩ := h
  refine J_cvi (As := []) md_X2_today k_588 (rc_obj cl_2 ho) rfl rfl ⟨Nat.le_of_ble_eq_true rfl, Nat.le_of_ble_eq_true rfl⟩ ⟨Nat.le_of_ble_eq_true rfl, Nat.le_of_ble_eq_true rfl⟩ (Nat.le_of_ble_eq_true rfl) dX9_findBestDay_12 (ct_X2_today  h) (fun z_2 st_3 h => ?_)
  refine J_bipush 30 dX9_findBestDay_15 (by decide) ?_
  refine J_iadd dX9_findBestDay_17 ?_
  refine J_mmin k_618 k_162 k_158 k_163 ⟨Nat.le_of_ble_eq_true rfl, Nat.le_of_ble_eq_true rfl, Nat.le_of_ble_eq_true rfl, Nat.le_of_ble_eq_true rfl⟩ dX9_findBestDay_18 ?_
  refine J_istore _ dX9_findBestDay_21 (by decide) rfl ?_
  refine J_aload_n 3 dX9_findBestDay_23 rfl rfl ?_
  obtain ⟨r_4, hf, h⟩ := h
  refine J_getR fl_RX9_18 dX9_findBestDay_24 hf ?_
  obtain ⟨ho, h⟩ := h
  refine J_cvi (As := []) md_X2_today k_588 (rc_obj cl_2 ho) rfl rfl ⟨Nat.le_of_ble_eq_true rfl, Nat.le_of_ble_eq_true rfl⟩ ⟨Nat.le_of_ble_eq_true rfl, Nat.le_of_ble_eq_true rfl⟩ (Nat.le_of_ble_eq_true rfl) dX9_findBestDay_27 (ct_X2_today  h) (fun z_5 st_6 h => ?_)
  refine J_istore _ dX9_findBestDay_30 (by decide) rfl ?_
  obtain ⟨n8, h⟩ := h
  exact J_lv [4, 5, 6, 3, 2, 1, 0] rfl (K_X9_findBestDay_32   a0 a1 a2  n8 (-1) (-1) (if ((z_2 + 30) : Int32) < 999 then (z_2 + 30) else 999) z_5 st_6 h)
