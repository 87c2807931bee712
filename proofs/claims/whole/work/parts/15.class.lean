/-! X11_feedNumber -/
def P_X11_feedNumber_49  (a0 : Nat) (a1 : Int32)  (post : St → Prop)  (st : St) : Prop := post st
def P_X11_feedNumber_3  (a0 : Nat) (a1 : Int32)  (post : St → Prop) : Nat → Int32 → St → Prop
  | 0, _, _ => False
  | n9 + 1, x2, st => ((x2 < 0 → P_X11_feedNumber_49  a0 a1  post st) ∧ (¬ x2 < 0 → fk a0 11 1 = some 0 ∧ ((700 ≤ (gI st a0 1) → P_X11_feedNumber_49  a0 a1  post st) ∧ (¬ 700 ≤ (gI st a0 1) → ∃ r_1, rv st a0 11 0 = some r_1 ∧ fk a0 11 1 = some 0 ∧ vp_in (gI st a0 1) (al 0 r_1) ∧ fk a0 11 1 = some 0 ∧ fk a0 11 1 = some 0 ∧ P_X11_feedNumber_3  a0 a1  post n9 (x2 + (-8)) (sI (sA st r_1 (gI st a0 1 : Int32).toNatClampNeg ((((a1 : Int32).toUInt32 >>> ((x2 : Int32).toUInt32 &&& Int32.toUInt32 31)).toInt32) &&& 255)) a0 1 ((gI (sA st r_1 (gI st a0 1 : Int32).toNatClampNeg ((((a1 : Int32).toUInt32 >>> ((x2 : Int32).toUInt32 &&& Int32.toUInt32 31)).toInt32) &&& 255)) a0 1) + 1))))))
def P_X11_feedNumber  (a0 : Nat) (a1 : Int32) (st : St) (post : St → Prop) : Prop := ∃ n8, P_X11_feedNumber_3  a0 a1  post n8 24 st
set_option maxRecDepth 100000 in
set_option maxHeartbeats 4000000 in
theorem K_X11_feedNumber_49 {l : Launch} {E : En}   (a0 : Nat) (a1 : Int32)  {post : St → Prop}    (st : St) (h : P_X11_feedNumber_49  a0 a1  post  st) : Jg l E (CFc E) (Rm 1 0 0) cX11_feedNumber 3 RX11 none (fun _ => True) (QV E post 0 0) 0 0 49 [(0, .ref a0), (1, .int a1)] [] st := by
  unfold P_X11_feedNumber_49 at h
  exact J_retv rfl dX11_feedNumber_49 h
set_option maxRecDepth 100000 in
set_option maxHeartbeats 4000000 in
theorem K_X11_feedNumber_3 {l : Launch} {E : En}   (a0 : Nat) (a1 : Int32)  {post : St → Prop}   : ∀ (n9 : Nat) (x2 : Int32) (st : St), P_X11_feedNumber_3  a0 a1  post n9 x2 st → Jg l E (CFc E) (Rm 1 0 0) cX11_feedNumber 3 RX11 none (fun _ => True) (QV E post 0 0) 0 0 3 [(0, .ref a0), (1, .int a1), (2, .int x2)] [] st := by
  intro n9
  induction n9 with
  | zero => intro x2 st h; exact h.elim
  | succ n9 ih =>
    intro x2 st h
    unfold P_X11_feedNumber_3 at h
    refine J_iload_n 2 dX11_feedNumber_3 rfl rfl ?_
    refine J_if_lt 49 dX11_feedNumber_4 (by decide) (fun hc => ?_) (fun hc => ?_)
    · have h := h.1 hc
      exact J_lv [0, 1] rfl (K_X11_feedNumber_49   a0 a1  st h)
    · have h := h.2 hc
      refine J_aload_n 0 dX11_feedNumber_7 rfl rfl ?_
      obtain ⟨hf, h⟩ := h
      refine J_getI fl_RX11_80 dX11_feedNumber_8 hf ?_
      refine J_sipush 700 dX11_feedNumber_11 (by decide) ?_
      refine J_icmp_ge 49 dX11_feedNumber_14 (by decide) (fun hc => ?_) (fun hc => ?_)
      · have h := h.1 hc
        exact J_lv [0, 1] rfl (K_X11_feedNumber_49   a0 a1  st h)
      · have h := h.2 hc
        refine J_aload_n 0 dX11_feedNumber_17 rfl rfl ?_
        obtain ⟨r_1, hf, h⟩ := h
        refine J_getR fl_RX11_9 dX11_feedNumber_18 hf ?_
        refine J_aload_n 0 dX11_feedNumber_21 rfl rfl ?_
        obtain ⟨hf, h⟩ := h
        refine J_getI fl_RX11_80 dX11_feedNumber_22 hf ?_
        refine J_iload_n 1 dX11_feedNumber_25 rfl rfl ?_
        refine J_iload_n 2 dX11_feedNumber_26 rfl rfl ?_
        refine J_iushr dX11_feedNumber_27 ?_
        refine J_sipush 255 dX11_feedNumber_28 (by decide) ?_
        refine J_iand dX11_feedNumber_31 ?_
        obtain ⟨hi, h⟩ := h
        refine J_iast dX11_feedNumber_32 hi ?_
        refine J_aload_n 0 dX11_feedNumber_33 rfl rfl ?_
        refine J_dup dX11_feedNumber_34 rfl ?_
        obtain ⟨hf, h⟩ := h
        refine J_getI fl_RX11_80 dX11_feedNumber_35 hf ?_
        refine J_iconst 1 dX11_feedNumber_38 (by decide) ?_
        refine J_iadd dX11_feedNumber_39 ?_
        obtain ⟨hf, h⟩ := h
        refine J_putI fp_RX11_80 dX11_feedNumber_40 rfl hf ?_
        refine J_iinc 2 (x2 + (-8)) _ dX11_feedNumber_43 rfl (by rfl) (by decide) rfl ?_
        refine J_goto 3 dX11_feedNumber_46 (by decide) ?_
        exact J_lv [1, 2, 0] rfl (ih (x2 + (-8)) (sI (sA st r_1 (gI st a0 1 : Int32).toNatClampNeg ((((a1 : Int32).toUInt32 >>> ((x2 : Int32).toUInt32 &&& Int32.toUInt32 31)).toInt32) &&& 255)) a0 1 ((gI (sA st r_1 (gI st a0 1 : Int32).toNatClampNeg ((((a1 : Int32).toUInt32 >>> ((x2 : Int32).toUInt32 &&& Int32.toUInt32 31)).toInt32) &&& 255)) a0 1) + 1)) h)
set_option maxRecDepth 100000 in
set_option maxHeartbeats 4000000 in
theorem ct_X11_feedNumber {l : Launch} {E : En}  {a0 : Nat} {a1 : Int32} {st : St} {post : St → Prop} (h : P_X11_feedNumber  a0 a1 st post) : CtV l E (CFc E) 1 0 0 yX11_feedNumber cX11_feedNumber 3 none [.ref a0, .int a1] st post := by
  refine ctV_of (by decide) (Nat.le_of_ble_eq_true rfl) ?_
  show Jg l E (CFc E) (Rm 1 0 0) cX11_feedNumber 3 RX11 none (fun _ => True) (QV E post 0 0) 0 0 0 [(0, .ref a0), (1, .int a1)] [] st
  unfold P_X11_feedNumber at h
  refine J_bipush 24 dX11_feedNumber_0 (by decide) ?_
  refine J_istore_n _ dX11_feedNumber_2 rfl (by decide) rfl ?_
  obtain ⟨n8, h⟩ := h
  exact J_lv [1, 2, 0] rfl (K_X11_feedNumber_3   a0 a1  n8 24 st h)
/-! X11_fault -/
def P_X11_fault  (a0 : Nat) (st : St) (post : Int32 → St → Prop) : Prop := fk a0 11 2 = some 0 ∧ post (gI st a0 2) st
set_option maxRecDepth 100000 in
set_option maxHeartbeats 4000000 in
theorem ct_X11_fault {l : Launch} {E : En}  {a0 : Nat} {st : St} {post : Int32 → St → Prop} (h : P_X11_fault  a0 st post) : CtI l E (CFc E) 1 0 0 yX11_fault cX11_fault 1 (some .int) [.ref a0] st post := by
  refine ctI_of (by decide) (Nat.le_of_ble_eq_true rfl) ?_
  show Jg l E (CFc E) (Rm 1 0 0) cX11_fault 1 RX11 (some .int) (fun _ => True) (QI E post 0 0) 0 0 0 [(0, .ref a0)] [] st
  unfold P_X11_fault at h
  refine J_aload_n 0 dX11_fault_0 rfl rfl ?_
  obtain ⟨hf, h⟩ := h
  refine J_getI fl_RX11_76 dX11_fault_1 hf ?_
  exact J_reti rfl dX11_fault_4 h
/-! X11_unloved -/
def P_X11_unloved_46  (a0 : Nat) (k4 : Int32 → Int32 → St → Prop) (post : Int32 → St → Prop) (x1 : Int32) (x2 : Int32) (st : St) : Prop := k4 x1 (x2 + 1) st
def P_X11_unloved_4  (a0 : Nat)  (post : Int32 → St → Prop) : Nat → Int32 → Int32 → St → Prop
  | 0, _, _, _ => False
  | n9 + 1, x1, x2, st => ∃ r_1, rv st a0 11 7 = some r_1 ∧ ∃ r_2, rv st r_1 2 0 = some r_2 ∧ fk r_2 3 1 = some 0 ∧ (((gI st r_2 1) ≤ x2 → post x1 st) ∧ (¬ (gI st r_2 1) ≤ x2 → ∃ r_3, rv st a0 11 7 = some r_3 ∧ oC r_3 2 ∧ P_X2_isHome  r_3 x2 st (fun z_4 st_5 => ((z_4 = 0 → P_X11_unloved_46  a0 (fun x1 x2 st => P_X11_unloved_4  a0  post n9 x1 x2 st) post x1 x2 st_5) ∧ (¬ z_4 = 0 → ∃ r_6, rv st_5 a0 11 7 = some r_6 ∧ oC r_6 2 ∧ P_X2_peopleTiedTo  r_6 x2 st_5 (fun z_7 st_8 => ((¬ z_7 = 0 → P_X11_unloved_46  a0 (fun x1 x2 st => P_X11_unloved_4  a0  post n9 x1 x2 st) post x1 x2 st_8) ∧ (z_7 = 0 → P_X11_unloved_46  a0 (fun x1 x2 st => P_X11_unloved_4  a0  post n9 x1 x2 st) post (x1 ||| ((1 : Int32) <<< ((x2 : Int32) &&& 31))) x2 st_8))))))))
def P_X11_unloved  (a0 : Nat) (st : St) (post : Int32 → St → Prop) : Prop := ∃ n8, P_X11_unloved_4  a0  post n8 0 0 st
set_option maxRecDepth 100000 in
set_option maxHeartbeats 4000000 in
theorem K_X11_unloved_46 {l : Launch} {E : En}   (a0 : Nat) {k4 : Int32 → Int32 → St → Prop} {post : Int32 → St → Prop}  (hk4 : ∀ (x1 : Int32) (x2 : Int32) (st : St), k4 x1 x2 st → Jg l E (CFc E) (Rm 2 0 0) cX11_unloved 3 RX11 (some .int) (fun _ => True) (QI E post 0 0) 0 0 4 [(0, .ref a0), (1, .int x1), (2, .int x2)] [] st) (x1 : Int32) (x2 : Int32) (st : St) (h : P_X11_unloved_46  a0 k4 post x1 x2 st) : Jg l E (CFc E) (Rm 2 0 0) cX11_unloved 3 RX11 (some .int) (fun _ => True) (QI E post 0 0) 0 0 46 [(0, .ref a0), (1, .int x1), (2, .int x2)] [] st := by
  unfold P_X11_unloved_46 at h
  refine J_iinc 2 (x2 + 1) _ dX11_unloved_46 rfl (by rfl) (by decide) rfl ?_
  refine J_goto 4 dX11_unloved_49 (by decide) ?_
  exact J_lv [1, 2, 0] rfl (hk4 x1 (x2 + 1) st h)
set_option maxRecDepth 100000 in
set_option maxHeartbeats 4000000 in
theorem K_X11_unloved_4 {l : Launch} {E : En}   (a0 : Nat)  {post : Int32 → St → Prop}   : ∀ (n9 : Nat) (x1 : Int32) (x2 : Int32) (st : St), P_X11_unloved_4  a0  post n9 x1 x2 st → Jg l E (CFc E) (Rm 2 0 0) cX11_unloved 3 RX11 (some .int) (fun _ => True) (QI E post 0 0) 0 0 4 [(0, .ref a0), (1, .int x1), (2, .int x2)] [] st := by
  intro n9
  induction n9 with
  | zero => intro x1 x2 st h; exact h.elim
  | succ n9 ih =>
    intro x1 x2 st h
    unfold P_X11_unloved_4 at h
    refine J_iload_n 2 dX11_unloved_4 rfl rfl ?_
    refine J_aload_n 0 dX11_unloved_5 rfl rfl ?_
    obtain ⟨r_1, hf, h⟩ := h
    refine J_getR fl_RX11_36 dX11_unloved_6 hf ?_
    obtain ⟨r_2, hf, h⟩ := h
    refine J_getR fl_RX11_108 dX11_unloved_9 hf ?_
    obtain ⟨hf, h⟩ := h
    refine J_getI fl_RX11_137 dX11_unloved_12 hf ?_
    refine J_icmp_ge 52 dX11_unloved_15 (by decide) (fun hc => ?_) (fun hc => ?_)
    · have h := h.1 hc
      refine J_iload_n 1 dX11_unloved_52 rfl rfl ?_
      exact J_reti rfl dX11_unloved_53 h
    · have h := h.2 hc
      refine J_aload_n 0 dX11_unloved_18 rfl rfl ?_
      obtain ⟨r_3, hf, h⟩ := h
      refine J_getR fl_RX11_36 dX11_unloved_19 hf ?_
      refine J_iload_n 2 dX11_unloved_22 rfl rfl ?_
      obtain ⟨ho, h⟩ := h
      refine J_cvi (As := [_]) md_X2_isHome k_786 (rc_obj cl_2 ho) rfl rfl ⟨Nat.le_of_ble_eq_true rfl, Nat.le_of_ble_eq_true rfl⟩ ⟨Nat.le_of_ble_eq_true rfl, Nat.le_of_ble_eq_true rfl⟩ (Nat.le_of_ble_eq_true rfl) dX11_unloved_23 (ct_X2_isHome  h) (fun z_4 st_5 h => ?_)
      refine J_if_eq 46 dX11_unloved_26 (by decide) (fun hc => ?_) (fun hc => ?_)
      · have h := h.1 hc
        exact J_lv [0, 1, 2] rfl (K_X11_unloved_46   a0 (fun x1 x2 st h => ih x1 x2 st h) x1 x2 st_5 h)
      · have h := h.2 hc
        refine J_aload_n 0 dX11_unloved_29 rfl rfl ?_
        obtain ⟨r_6, hf, h⟩ := h
        refine J_getR fl_RX11_36 dX11_unloved_30 hf ?_
        refine J_iload_n 2 dX11_unloved_33 rfl rfl ?_
        obtain ⟨ho, h⟩ := h
        refine J_cvi (As := [_]) md_X2_peopleTiedTo k_788 (rc_obj cl_2 ho) rfl rfl ⟨Nat.le_of_ble_eq_true rfl, Nat.le_of_ble_eq_true rfl⟩ ⟨Nat.le_of_ble_eq_true rfl, Nat.le_of_ble_eq_true rfl⟩ (Nat.le_of_ble_eq_true rfl) dX11_unloved_34 (ct_X2_peopleTiedTo  h) (fun z_7 st_8 h => ?_)
        refine J_if_ne 46 dX11_unloved_37 (by decide) (fun hc => ?_) (fun hc => ?_)
        · have h := h.1 hc
          exact J_lv [0, 1, 2] rfl (K_X11_unloved_46   a0 (fun x1 x2 st h => ih x1 x2 st h) x1 x2 st_8 h)
        · have h := h.2 hc
          refine J_iload_n 1 dX11_unloved_40 rfl rfl ?_
          refine J_iconst 1 dX11_unloved_41 (by decide) ?_
          refine J_iload_n 2 dX11_unloved_42 rfl rfl ?_
          refine J_ishl dX11_unloved_43 ?_
          refine J_ior dX11_unloved_44 ?_
          refine J_istore_n _ dX11_unloved_45 rfl (by decide) rfl ?_
          exact J_lv [1, 0, 2] rfl (K_X11_unloved_46   a0 (fun x1 x2 st h => ih x1 x2 st h) (x1 ||| ((1 : Int32) <<< ((x2 : Int32) &&& 31))) x2 st_8 h)
set_option maxRecDepth 100000 in
set_option maxHeartbeats 4000000 in
theorem ct_X11_unloved {l : Launch} {E : En}  {a0 : Nat} {st : St} {post : Int32 → St → Prop} (h : P_X11_unloved  a0 st post) : CtI l E (CFc E) 2 0 0 yX11_unloved cX11_unloved 3 (some .int) [.ref a0] st post := by
  refine ctI_of (by decide) (Nat.le_of_ble_eq_true rfl) ?_
  show Jg l E (CFc E) (Rm 2 0 0) cX11_unloved 3 RX11 (some .int) (fun _ => True) (QI E post 0 0) 0 0 0 [(0, .ref a0)] [] st
  unfold P_X11_unloved at h
  refine J_iconst 0 dX11_unloved_0 (by decide) ?_
  refine J_istore_n _ dX11_unloved_1 rfl (by decide) rfl ?_
  refine J_iconst 0 dX11_unloved_2 (by decide) ?_
  refine J_istore_n _ dX11_unloved_3 rfl (by decide) rfl ?_
  obtain ⟨n8, h⟩ := h
  exact J_lv [2, 1, 0] rfl (K_X11_unloved_4   a0  n8 0 0 st h)
/-! X11_forget -/
def P_X11_forget  (a0 : Nat) (st : St) (post : St → Prop) : Prop := ∃ r_1, rv st a0 11 4 = some r_1 ∧ ∃ r_2, rv st r_1 1 2 = some r_2 ∧ oC r_2 7 ∧ P_X7_clear  r_2 st (fun st_4 => post st_4)
set_option maxRecDepth 100000 in
set_option maxHeartbeats 4000000 in
theorem ct_X11_forget {l : Launch} {E : En}  {a0 : Nat} {st : St} {post : St → Prop} (h : P_X11_forget  a0 st post) : CtV l E (CFc E) 2 0 0 yX11_forget cX11_forget 1 none [.ref a0] st post := by
  refine ctV_of (by decide) (Nat.le_of_ble_eq_true rfl) ?_
  show Jg l E (CFc E) (Rm 2 0 0) cX11_forget 1 RX11 none (fun _ => True) (QV E post 0 0) 0 0 0 [(0, .ref a0)] [] st
  unfold P_X11_forget at h
  refine J_aload_n 0 dX11_forget_0 rfl rfl ?_
  obtain ⟨r_1, hf, h⟩ := h
  refine J_getR fl_RX11_25 dX11_forget_1 hf ?_
  obtain ⟨r_2, hf, h⟩ := h
  refine J_getR fl_RX11_56 dX11_forget_4 hf ?_
  obtain ⟨ho, h⟩ := h
  refine J_cvv (As := []) md_X7_clear k_743 (rc_obj cl_7 ho) rfl rfl ⟨Nat.le_of_ble_eq_true rfl, Nat.le_of_ble_eq_true rfl⟩ ⟨Nat.le_of_ble_eq_true rfl, Nat.le_of_ble_eq_true rfl⟩ (Nat.le_of_ble_eq_true rfl) dX11_forget_7 (ct_X7_clear  h) (fun st_4 h => ?_)
  exact J_retv rfl dX11_forget_10 h
/-! X11_refuse -/
def P_X11_refuse  (a0 : Nat) (a1 : Int32) (st : St) (post : Int32 → St → Prop) : Prop := ∃ r_1, rv st a0 11 4 = some r_1 ∧ ∃ r_2, rv st r_1 1 3 = some r_2 ∧ vp_in a1 (al 0 r_2) ∧ vp_in a1 (al 0 r_2) ∧ post (-1) (sA st r_2 (a1 : Int32).toNatClampNeg ((gA st r_2 (a1 : Int32).toNatClampNeg) + 1))
set_option maxRecDepth 100000 in
set_option maxHeartbeats 4000000 in
theorem ct_X11_refuse {l : Launch} {E : En}  {a0 : Nat} {a1 : Int32} {st : St} {post : Int32 → St → Prop} (h : P_X11_refuse  a0 a1 st post) : CtI l E (CFc E) 1 0 0 yX11_refuse cX11_refuse 2 (some .int) [.ref a0, .int a1] st post := by
  refine ctI_of (by decide) (Nat.le_of_ble_eq_true rfl) ?_
  show Jg l E (CFc E) (Rm 1 0 0) cX11_refuse 2 RX11 (some .int) (fun _ => True) (QI E post 0 0) 0 0 0 [(0, .ref a0), (1, .int a1)] [] st
  unfold P_X11_refuse at h
  refine J_aload_n 0 dX11_refuse_0 rfl rfl ?_
  obtain ⟨r_1, hf, h⟩ := h
  refine J_getR fl_RX11_25 dX11_refuse_1 hf ?_
  obtain ⟨r_2, hf, h⟩ := h
  refine J_getR fl_RX11_159 dX11_refuse_4 hf ?_
  refine J_iload_n 1 dX11_refuse_7 rfl rfl ?_
  refine J_dup2 dX11_refuse_8 rfl rfl ?_
  obtain ⟨hi, h⟩ := h
  refine J_iald dX11_refuse_9 hi ?_
  refine J_iconst 1 dX11_refuse_10 (by decide) ?_
  refine J_iadd dX11_refuse_11 ?_
  obtain ⟨hi, h⟩ := h
  refine J_iast dX11_refuse_12 hi ?_
  refine J_iconst (-1) dX11_refuse_13 (by decide) ?_
  exact J_reti rfl dX11_refuse_14 h
/-! X11_needPerson -/
def P_X11_needPerson_18  (a0 : Nat) (a1 : Int32)  (post : St → Prop) (pex : String → St → Prop)  (st : St) : Prop := pex NSE st
def P_X11_needPerson  (a0 : Nat) (a1 : Int32) (st : St) (post : St → Prop) (pex : String → St → Prop) : Prop := ((a1 < 0 → P_X11_needPerson_18  a0 a1  post pex st) ∧ (¬ a1 < 0 → ∃ r_1, rv st a0 11 7 = some r_1 ∧ ∃ r_2, rv st r_1 2 0 = some r_2 ∧ fk r_2 3 0 = some 0 ∧ ((a1 < (gI st r_2 0) → post st) ∧ (¬ a1 < (gI st r_2 0) → P_X11_needPerson_18  a0 a1  post pex st))))
set_option maxRecDepth 100000 in
set_option maxHeartbeats 4000000 in
theorem K_X11_needPerson_18 {l : Launch} {E : En} (hl0 : l.stackTraces = false)  (a0 : Nat) (a1 : Int32)  {post : St → Prop} {pex : String → St → Prop}   (st : St) (h : P_X11_needPerson_18  a0 a1  post pex  st) : Jg l E (CFc E) (Rm 6 1 6) cX11_needPerson 2 RX11 none XTn (QXV E post pex 1 6) 0 0 18 [(0, .ref a0), (1, .int a1)] [] st := by
  unfold P_X11_needPerson_18 at h
  exact J_throwWV_NSE hl0 ld_RX11_325 dX11_needPerson_18 dX11_needPerson_21 dX11_needPerson_22 dX11_needPerson_25 dX11_needPerson_28 ⟨Nat.le_of_ble_eq_true rfl, Nat.le_of_ble_eq_true rfl, Nat.le_of_ble_eq_true rfl, Nat.le_of_ble_eq_true rfl⟩ (by decide) (by decide) h
set_option maxRecDepth 100000 in
set_option maxHeartbeats 4000000 in
theorem ct_X11_needPerson {l : Launch} {E : En} (hl0 : l.stackTraces = false)  {a0 : Nat} {a1 : Int32} {st : St} {post : St → Prop} {pex : String → St → Prop} (h : P_X11_needPerson  a0 a1 st post pex) : CtXV l E (CFc E) 6 1 6 yX11_needPerson cX11_needPerson 2 none [.ref a0, .int a1] st post pex := by
  refine ctXV_of (by decide) (Nat.le_of_ble_eq_true rfl) ?_
  show Jg l E (CFc E) (Rm 6 1 6) cX11_needPerson 2 RX11 none XTn (QXV E post pex 1 6) 0 0 0 [(0, .ref a0), (1, .int a1)] [] st
  unfold P_X11_needPerson at h
  refine J_iload_n 1 dX11_needPerson_0 rfl rfl ?_
  refine J_if_lt 18 dX11_needPerson_1 (by decide) (fun hc => ?_) (fun hc => ?_)
  · have h := h.1 hc
    exact J_lv [0, 1] rfl (K_X11_needPerson_18 hl0  a0 a1  st h)
  · have h := h.2 hc
    refine J_iload_n 1 dX11_needPerson_4 rfl rfl ?_
    refine J_aload_n 0 dX11_needPerson_5 rfl rfl ?_
    obtain ⟨r_1, hf, h⟩ := h
    refine J_getR fl_RX11_36 dX11_needPerson_6 hf ?_
    obtain ⟨r_2, hf, h⟩ := h
    refine J_getR fl_RX11_108 dX11_needPerson_9 hf ?_
    obtain ⟨hf, h⟩ := h
    refine J_getI fl_RX11_134 dX11_needPerson_12 hf ?_
    refine J_icmp_lt 29 dX11_needPerson_15 (by decide) (fun hc => ?_) (fun hc => ?_)
    · have h := h.1 hc
      refine J_widen (k2 := 1) (n2 := 6) (Nat.le_of_ble_eq_true rfl) (Nat.le_of_ble_eq_true rfl) ?_
      exact J_xretv rfl dX11_needPerson_29 h
    · have h := h.2 hc
      exact J_lv [0, 1] rfl (K_X11_needPerson_18 hl0  a0 a1  st h)
/-! X11_needBride -/
def P_X11_needBride_18  (a0 : Nat) (a1 : Int32)  (post : St → Prop) (pex : String → St → Prop)  (st : St) : Prop := pex NSE st
def P_X11_needBride  (a0 : Nat) (a1 : Int32) (st : St) (post : St → Prop) (pex : String → St → Prop) : Prop := ((a1 < 0 → P_X11_needBride_18  a0 a1  post pex st) ∧ (¬ a1 < 0 → ∃ r_1, rv st a0 11 7 = some r_1 ∧ ∃ r_2, rv st r_1 2 0 = some r_2 ∧ fk r_2 3 1 = some 0 ∧ ((a1 < (gI st r_2 1) → post st) ∧ (¬ a1 < (gI st r_2 1) → P_X11_needBride_18  a0 a1  post pex st))))
set_option maxRecDepth 100000 in
set_option maxHeartbeats 4000000 in
theorem K_X11_needBride_18 {l : Launch} {E : En} (hl0 : l.stackTraces = false)  (a0 : Nat) (a1 : Int32)  {post : St → Prop} {pex : String → St → Prop}   (st : St) (h : P_X11_needBride_18  a0 a1  post pex  st) : Jg l E (CFc E) (Rm 6 1 6) cX11_needBride 2 RX11 none XTn (QXV E post pex 1 6) 0 0 18 [(0, .ref a0), (1, .int a1)] [] st := by
  unfold P_X11_needBride_18 at h
  exact J_throwWV_NSE hl0 ld_RX11_328 dX11_needBride_18 dX11_needBride_21 dX11_needBride_22 dX11_needBride_25 dX11_needBride_28 ⟨Nat.le_of_ble_eq_true rfl, Nat.le_of_ble_eq_true rfl, Nat.le_of_ble_eq_true rfl, Nat.le_of_ble_eq_true rfl⟩ (by decide) (by decide) h
set_option maxRecDepth 100000 in
set_option maxHeartbeats 4000000 in
theorem ct_X11_needBride {l : Launch} {E : En} (hl0 : l.stackTraces = false)  {a0 : Nat} {a1 : Int32} {st : St} {post : St → Prop} {pex : String → St → Prop} (h : P_X11_needBride  a0 a1 st post pex) : CtXV l E (CFc E) 6 1 6 yX11_needBride cX11_needBride 2 none [.ref a0, .int a1] st post pex := by
  refine ctXV_of (by decide) (Nat.le_of_ble_eq_true rfl) ?_
  show Jg l E (CFc E) (Rm 6 1 6) cX11_needBride 2 RX11 none XTn (QXV E post pex 1 6) 0 0 0 [(0, .ref a0), (1, .int a1)] [] st
  unfold P_X11_needBride at h
  refine J_iload_n 1 dX11_needBride_0 rfl rfl ?_
  refine J_if_lt 18 dX11_needBride_1 (by decide) (fun hc => ?_) (fun hc => ?_)
  · have h := h.1 hc
    exact J_lv [0, 1] rfl (K_X11_needBride_18 hl0  a0 a1  st h)
  · have h := h.2 hc
    refine J_iload_n 1 dX11_needBride_4 rfl rfl ?_
    refine J_aload_n 0 dX11_needBride_5 rfl rfl ?_
    obtain ⟨r_1, hf, h⟩ := h
    refine J_getR fl_RX11_36 dX11_needBride_6 hf ?_
    obtain ⟨r_2, hf, h⟩ := h
    refine J_getR fl_RX11_108 dX11_needBride_9 hf ?_
    obtain ⟨hf, h⟩ := h
    refine J_getI fl_RX11_137 dX11_needBride_12 hf ?_
    refine J_icmp_lt 29 dX11_needBride_15 (by decide) (fun hc => ?_) (fun hc => ?_)
    · have h := h.1 hc
      refine J_widen (k2 := 1) (n2 := 6) (Nat.le_of_ble_eq_true rfl) (Nat.le_of_ble_eq_true rfl) ?_
      exact J_xretv rfl dX11_needBride_29 h
    · have h := h.2 hc
      exact J_lv [0, 1] rfl (K_X11_needBride_18 hl0  a0 a1  st h)
/-! X11_needWhat -/
def P_X11_needWhat_9  (a0 : Nat) (a1 : Int32) (a2 : Int32)  (post : St → Prop) (pex : String → St → Prop)  (st : St) : Prop := pex NSE st
def P_X11_needWhat  (a0 : Nat) (a1 : Int32) (a2 : Int32) (st : St) (post : St → Prop) (pex : String → St → Prop) : Prop := ((a1 < 0 → P_X11_needWhat_9  a0 a1 a2  post pex st) ∧ (¬ a1 < 0 → ((a1 ≤ a2 → post st) ∧ (¬ a1 ≤ a2 → P_X11_needWhat_9  a0 a1 a2  post pex st))))
set_option maxRecDepth 100000 in
set_option maxHeartbeats 4000000 in
theorem K_X11_needWhat_9 {l : Launch} {E : En} (hl0 : l.stackTraces = false)  (a0 : Nat) (a1 : Int32) (a2 : Int32)  {post : St → Prop} {pex : String → St → Prop}   (st : St) (h : P_X11_needWhat_9  a0 a1 a2  post pex  st) : Jg l E (CFc E) (Rm 6 1 6) cX11_needWhat 3 RX11 none XTn (QXV E post pex 1 6) 0 0 9 [(0, .ref a0), (1, .int a1), (2, .int a2)] [] st := by
  unfold P_X11_needWhat_9 at h
  exact J_throwWV_NSE hl0 ld_RX11_330 dX11_needWhat_9 dX11_needWhat_12 dX11_needWhat_13 dX11_needWhat_16 dX11_needWhat_19 ⟨Nat.le_of_ble_eq_true rfl, Nat.le_of_ble_eq_true rfl, Nat.le_of_ble_eq_true rfl, Nat.le_of_ble_eq_true rfl⟩ (by decide) (by decide) h
set_option maxRecDepth 100000 in
set_option maxHeartbeats 4000000 in
theorem ct_X11_needWhat {l : Launch} {E : En} (hl0 : l.stackTraces = false)  {a0 : Nat} {a1 : Int32} {a2 : Int32} {st : St} {post : St → Prop} {pex : String → St → Prop} (h : P_X11_needWhat  a0 a1 a2 st post pex) : CtXV l E (CFc E) 6 1 6 yX11_needWhat cX11_needWhat 3 none [.ref a0, .int a1, .int a2] st post pex := by
  refine ctXV_of (by decide) (Nat.le_of_ble_eq_true rfl) ?_
  show Jg l E (CFc E) (Rm 6 1 6) cX11_needWhat 3 RX11 none XTn (QXV E post pex 1 6) 0 0 0 [(0, .ref a0), (1, .int a1), (2, .int a2)] [] st
  unfold P_X11_needWhat at h
  refine J_iload_n 1 dX11_needWhat_0 rfl rfl ?_
  refine J_if_lt 9 dX11_needWhat_1 (by decide) (fun hc => ?_) (fun hc => ?_)
  · have h := h.1 hc
    exact J_lv [0, 1, 2] rfl (K_X11_needWhat_9 hl0  a0 a1 a2  st h)
  · have h := h.2 hc
    refine J_iload_n 1 dX11_needWhat_4 rfl rfl ?_
    refine J_iload_n 2 dX11_needWhat_5 rfl rfl ?_
    refine J_icmp_le 20 dX11_needWhat_6 (by decide) (fun hc => ?_) (fun hc => ?_)
    · have h := h.1 hc
      refine J_widen (k2 := 1) (n2 := 6) (Nat.le_of_ble_eq_true rfl) (Nat.le_of_ble_eq_true rfl) ?_
      exact J_xretv rfl dX11_needWhat_20 h
    · have h := h.2 hc
      exact J_lv [0, 1, 2] rfl (K_X11_needWhat_9 hl0  a0 a1 a2  st h)
/-! X11_needForesight -/
def P_X11_needForesight_10  (a0 : Nat) (a1 : Int32)  (post : St → Prop) (pex : String → St → Prop)  (st : St) : Prop := pex IAE st
def P_X11_needForesight  (a0 : Nat) (a1 : Int32) (st : St) (post : St → Prop) (pex : String → St → Prop) : Prop := ((a1 < 0 → P_X11_needForesight_10  a0 a1  post pex st) ∧ (¬ a1 < 0 → ((a1 ≤ 60 → post st) ∧ (¬ a1 ≤ 60 → P_X11_needForesight_10  a0 a1  post pex st))))
set_option maxRecDepth 100000 in
set_option maxHeartbeats 4000000 in
theorem K_X11_needForesight_10 {l : Launch} {E : En} (hl0 : l.stackTraces = false)  (a0 : Nat) (a1 : Int32)  {post : St → Prop} {pex : String → St → Prop}   (st : St) (h : P_X11_needForesight_10  a0 a1  post pex  st) : Jg l E (CFc E) (Rm 6 1 6) cX11_needForesight 2 RX11 none XTn (QXV E post pex 1 6) 0 0 10 [(0, .ref a0), (1, .int a1)] [] st := by
  unfold P_X11_needForesight_10 at h
  exact J_throwWV_IAE hl0 ld_RX11_332 dX11_needForesight_10 dX11_needForesight_13 dX11_needForesight_14 dX11_needForesight_17 dX11_needForesight_20 ⟨Nat.le_of_ble_eq_true rfl, Nat.le_of_ble_eq_true rfl, Nat.le_of_ble_eq_true rfl, Nat.le_of_ble_eq_true rfl⟩ (by decide) (by decide) h
set_option maxRecDepth 100000 in
set_option maxHeartbeats 4000000 in
theorem ct_X11_needForesight {l : Launch} {E : En} (hl0 : l.stackTraces = false)  {a0 : Nat} {a1 : Int32} {st : St} {post : St → Prop} {pex : String → St → Prop} (h : P_X11_needForesight  a0 a1 st post pex) : CtXV l E (CFc E) 6 1 6 yX11_needForesight cX11_needForesight 2 none [.ref a0, .int a1] st post pex := by
  refine ctXV_of (by decide) (Nat.le_of_ble_eq_true rfl) ?_
  show Jg l E (CFc E) (Rm 6 1 6) cX11_needForesight 2 RX11 none XTn (QXV E post pex 1 6) 0 0 0 [(0, .ref a0), (1, .int a1)] [] st
  unfold P_X11_needForesight at h
  refine J_iload_n 1 dX11_needForesight_0 rfl rfl ?_
  refine J_if_lt 10 dX11_needForesight_1 (by decide) (fun hc => ?_) (fun hc => ?_)
  · have h := h.1 hc
    exact J_lv [0, 1] rfl (K_X11_needForesight_10 hl0  a0 a1  st h)
  · have h := h.2 hc
    refine J_iload_n 1 dX11_needForesight_4 rfl rfl ?_
    refine J_bipush 60 dX11_needForesight_5 (by decide) ?_
    refine J_icmp_le 21 dX11_needForesight_7 (by decide) (fun hc => ?_) (fun hc => ?_)
    · have h := h.1 hc
      refine J_widen (k2 := 1) (n2 := 6) (Nat.le_of_ble_eq_true rfl) (Nat.le_of_ble_eq_true rfl) ?_
      exact J_xretv rfl dX11_needForesight_21 h
    · have h := h.2 hc
      exact J_lv [0, 1] rfl (K_X11_needForesight_10 hl0  a0 a1  st h)
/-! X11_needRivals -/
def P_X11_needRivals_52  (a0 : Nat) (a1 : Int32) (a2 : Int32) (a3 : Int32)  (post : St → Prop) (pex : String → St → Prop)  (st : St) : Prop := pex IAE st
def P_X11_needRivals_29  (a0 : Nat) (a1 : Int32) (a2 : Int32) (a3 : Int32)  (post : St → Prop) (pex : String → St → Prop) (s0 : Int32) (st : St) : Prop := ((a1 = a2 → P_X11_needRivals_52  a0 a1 a2 a3  post pex st) ∧ (¬ a1 = a2 → ((s0 = 0 → P_X11_needRivals_52  a0 a1 a2 a3  post pex st) ∧ (¬ s0 = 0 → ∃ r_1, rv st a0 11 7 = some r_1 ∧ oC r_1 2 ∧ P_X2_isHome  r_1 a3 st (fun z_2 st_3 => ((¬ z_2 = 0 → post st_3) ∧ (z_2 = 0 → P_X11_needRivals_52  a0 a1 a2 a3  post pex st_3)))))))
def P_X11_needRivals_28  (a0 : Nat) (a1 : Int32) (a2 : Int32) (a3 : Int32)  (post : St → Prop) (pex : String → St → Prop)  (st : St) : Prop := P_X11_needRivals_29  a0 a1 a2 a3  post pex 0 st
def P_X11_needRivals  (a0 : Nat) (a1 : Int32) (a2 : Int32) (a3 : Int32) (st : St) (post : St → Prop) (pex : String → St → Prop) : Prop := ∃ r_1, rv st a0 11 7 = some r_1 ∧ oC r_1 2 ∧ P_X2_yearsOf  r_1 a1 a3 st (fun z_2 st_3 => ((z_2 ≤ 0 → P_X11_needRivals_28  a0 a1 a2 a3  post pex st_3) ∧ (¬ z_2 ≤ 0 → ∃ r_4, rv st_3 a0 11 7 = some r_4 ∧ oC r_4 2 ∧ P_X2_yearsOf  r_4 a2 a3 st_3 (fun z_5 st_6 => ((z_5 ≤ 0 → P_X11_needRivals_28  a0 a1 a2 a3  post pex st_6) ∧ (¬ z_5 ≤ 0 → P_X11_needRivals_29  a0 a1 a2 a3  post pex 1 st_6))))))
set_option maxRecDepth 100000 in
set_option maxHeartbeats 4000000 in
theorem K_X11_needRivals_52 {l : Launch} {E : En} (hl0 : l.stackTraces = false)  (a0 : Nat) (a1 : Int32) (a2 : Int32) (a3 : Int32)  {post : St → Prop} {pex : String → St → Prop}   (st : St) (h : P_X11_needRivals_52  a0 a1 a2 a3  post pex  st) : Jg l E (CFc E) (Rm 6 1 6) cX11_needRivals 5 RX11 none XTn (QXV E post pex 1 6) 0 0 52 [(0, .ref a0), (1, .int a1), (2, .int a2), (3, .int a3)] [] st := by
  unfold P_X11_needRivals_52 at h
  exact J_throwWV_IAE hl0 ld_RX11_334 dX11_needRivals_52 dX11_needRivals_55 dX11_needRivals_56 dX11_needRivals_59 dX11_needRivals_62 ⟨Nat.le_of_ble_eq_true rfl, Nat.le_of_ble_eq_true rfl, Nat.le_of_ble_eq_true rfl, Nat.le_of_ble_eq_true rfl⟩ (by decide) (by decide) h
set_option maxRecDepth 100000 in
set_option maxHeartbeats 4000000 in
theorem K_X11_needRivals_29 {l : Launch} {E : En} (hl0 : l.stackTraces = false)  (a0 : Nat) (a1 : Int32) (a2 : Int32) (a3 : Int32)  {post : St → Prop} {pex : String → St → Prop}  (s0 : Int32) (st : St) (h : P_X11_needRivals_29  a0 a1 a2 a3  post pex s0 st) : Jg l E (CFc E) (Rm 6 1 6) cX11_needRivals 5 RX11 none XTn (QXV E post pex 1 6) 0 0 29 [(0, .ref a0), (1, .int a1), (2, .int a2), (3, .int a3)] [.int s0] st := by
  unfold P_X11_needRivals_29 at h
  refine J_istore _ dX11_needRivals_29 (by decide) rfl ?_
  refine J_iload_n 2 dX11_needRivals_31 rfl rfl ?_
  refine J_iload_n 3 dX11_needRivals_32 rfl rfl ?_
  refine J_icmp_eq 52 dX11_needRivals_33 (by decide) (fun hc => ?_) (fun hc => ?_)
  · have h := h.1 hc
    exact J_lv [1, 2, 3, 4] rfl (K_X11_needRivals_52 hl0  a0 a1 a2 a3  st h)
  · have h := h.2 hc
    refine J_iload 0 dX11_needRivals_36 rfl ?_
    refine J_if_eq 52 dX11_needRivals_38 (by decide) (fun hc => ?_) (fun hc => ?_)
    · have h := h.1 hc
      exact J_lv [1, 2, 3, 4] rfl (K_X11_needRivals_52 hl0  a0 a1 a2 a3  st h)
    · have h := h.2 hc
      refine J_aload_n 1 dX11_needRivals_41 rfl rfl ?_
      obtain ⟨r_1, hf, h⟩ := h
      refine J_getR fl_RX11_36 dX11_needRivals_42 hf ?_
      refine J_iload_n 4 dX11_needRivals_45 rfl rfl ?_
      obtain ⟨ho, h⟩ := h
      refine J_cvi (As := [_]) md_X2_isHome k_786 (rc_obj cl_2 ho) rfl rfl ⟨Nat.le_of_ble_eq_true rfl, Nat.le_of_ble_eq_true rfl⟩ ⟨Nat.le_of_ble_eq_true rfl, Nat.le_of_ble_eq_true rfl⟩ (Nat.le_of_ble_eq_true rfl) dX11_needRivals_46 (ct_X2_isHome  h) (fun z_2 st_3 h => ?_)
      refine J_if_ne 63 dX11_needRivals_49 (by decide) (fun hc => ?_) (fun hc => ?_)
      · have h := h.1 hc
        refine J_widen (k2 := 1) (n2 := 6) (Nat.le_of_ble_eq_true rfl) (Nat.le_of_ble_eq_true rfl) ?_
        exact J_xretv rfl dX11_needRivals_63 h
      · have h := h.2 hc
        exact J_lv [1, 2, 3, 4] rfl (K_X11_needRivals_52 hl0  a0 a1 a2 a3  st_3 h)
set_option maxRecDepth 100000 in
set_option maxHeartbeats 4000000 in
theorem K_X11_needRivals_28 {l : Launch} {E : En} (hl0 : l.stackTraces = false)  (a0 : Nat) (a1 : Int32) (a2 : Int32) (a3 : Int32)  {post : St → Prop} {pex : String → St → Prop}   (st : St) (h : P_X11_needRivals_28  a0 a1 a2 a3  post pex  st) : Jg l E (CFc E) (Rm 6 1 6) cX11_needRivals 5 RX11 none XTn (QXV E post pex 1 6) 0 0 28 [(0, .ref a0), (1, .int a1), (2, .int a2), (3, .int a3)] [] st := by
  unfold P_X11_needRivals_28 at h
  refine J_iconst 0 dX11_needRivals_28 (by decide) ?_
  exact J_lv [0, 1, 2, 3] rfl (K_X11_needRivals_29 hl0  a0 a1 a2 a3  0 st h)
set_option maxRecDepth 100000 in
set_option maxHeartbeats 4000000 in
theorem ct_X11_needRivals {l : Launch} {E : En} (hl0 : l.stackTraces = false)  {a0 : Nat} {a1 : Int32} {a2 : Int32} {a3 : Int32} {st : St} {post : St → Prop} {pex : String → St → Prop} (h : P_X11_needRivals  a0 a1 a2 a3 st post pex) : CtXV l E (CFc E) 6 1 6 yX11_needRivals cX11_needRivals 5 none [.ref a0, .int a1, .int a2, .int a3] st post pex := by
  refine ctXV_of (by decide) (Nat.le_of_ble_eq_true rfl) ?_
  show Jg l E (CFc E) (Rm 6 1 6) cX11_needRivals 5 RX11 none XTn (QXV E post pex 1 6) 0 0 0 [(0, .ref a0), (1, .int a1), (2, .int a2), (3, .int a3)] [] st
  unfold P_X11_needRivals at h
  refine J_aload_n 0 dX11_needRivals_0 rfl rfl ?_
  obtain ⟨r_1, hf, h⟩ := h
  refine J_getR fl_RX11_36 dX11_needRivals_1 hf ?_
  refine J_iload_n 1 dX11_needRivals_4 rfl rfl ?_
  refine J_iload_n 3 dX11_needRivals_5 rfl rfl ?_
  obtain ⟨ho, h⟩ := h
  refine J_cvi (As := [_, _]) md_X2_yearsOf k_793 (rc_obj cl_2 ho) rfl rfl ⟨Nat.le_of_ble_eq_true rfl, Nat.le_of_ble_eq_true rfl⟩ ⟨Nat.le_of_ble_eq_true rfl, Nat.le_of_ble_eq_true rfl⟩ (Nat.le_of_ble_eq_true rfl) dX11_needRivals_6 (ct_X2_yearsOf  h) (fun z_2 st_3 h => ?_)
  refine J_if_le 28 dX11_needRivals_9 (by decide) (fun hc => ?_) (fun hc => ?_)
  · have h := h.1 hc
    exact J_lv [0, 1, 2, 3] rfl (K_X11_needRivals_28 hl0  a0 a1 a2 a3  st_3 h)
  · have h := h.2 hc
    refine J_aload_n 0 dX11_needRivals_12 rfl rfl ?_
    obtain ⟨r_4, hf, h⟩ := h
    refine J_getR fl_RX11_36 dX11_needRivals_13 hf ?_
    refine J_iload_n 2 dX11_needRivals_16 rfl rfl ?_
    refine J_iload_n 3 dX11_needRivals_17 rfl rfl ?_
    obtain ⟨ho, h⟩ := h
    refine J_cvi (As := [_, _]) md_X2_yearsOf k_793 (rc_obj cl_2 ho) rfl rfl ⟨Nat.le_of_ble_eq_true rfl, Nat.le_of_ble_eq_true rfl⟩ ⟨Nat.le_of_ble_eq_true rfl, Nat.le_of_ble_eq_true rfl⟩ (Nat.le_of_ble_eq_true rfl) dX11_needRivals_18 (ct_X2_yearsOf  h) (fun z_5 st_6 h => ?_)
    refine J_if_le 28 dX11_needRivals_21 (by decide) (fun hc => ?_) (fun hc => ?_)
    · have h := h.1 hc
      exact J_lv [0, 1, 2, 3] rfl (K_X11_needRivals_28 hl0  a0 a1 a2 a3  st_6 h)
    · have h := h.2 hc
      refine J_iconst 1 dX11_needRivals_24 (by decide) ?_
      refine J_goto 29 dX11_needRivals_25 (by decide) ?_
      exact J_lv [0, 1, 2, 3] rfl (K_X11_needRivals_29 hl0  a0 a1 a2 a3  1 st_6 h)
/-! X11_feed -/
def P_X11_feed  (a0 : Nat) (a1 : Int32) (a2 : Int32) (a3 : Int32) (a4 : Int32) (a5 : Int32) (st : St) (post : Int32 → St → Prop) : Prop := fk a0 11 1 = some 0 ∧ ((((gI st a0 1) + 20) ≤ 700 → oC a0 11 ∧ P_X11_feedNumber  a0 a1 st (fun st_2 => oC a0 11 ∧ P_X11_feedNumber  a0 a2 st_2 (fun st_4 => oC a0 11 ∧ P_X11_feedNumber  a0 a3 st_4 (fun st_6 => oC a0 11 ∧ P_X11_feedNumber  a0 a4 st_6 (fun st_8 => oC a0 11 ∧ P_X11_feedNumber  a0 a5 st_8 (fun st_10 => fk a0 11 1 = some 0 ∧ post (gI st_10 a0 1) st_10)))))) ∧ (¬ ((gI st a0 1) + 20) ≤ 700 → post (-1) st))
set_option maxRecDepth 100000 in
set_option maxHeartbeats 4000000 in
theorem ct_X11_feed {l : Launch} {E : En}  {a0 : Nat} {a1 : Int32} {a2 : Int32} {a3 : Int32} {a4 : Int32} {a5 : Int32} {st : St} {post : Int32 → St → Prop} (h : P_X11_feed  a0 a1 a2 a3 a4 a5 st post) : CtI l E (CFc E) 2 0 0 yX11_feed cX11_feed 6 (some .int) [.ref a0, .int a1, .int a2, .int a3, .int a4, .int a5] st post := by
  refine ctI_of (by decide) (Nat.le_of_ble_eq_true rfl) ?_
  show Jg l E (CFc E) (Rm 2 0 0) cX11_feed 6 RX11 (some .int) (fun _ => True) (QI E post 0 0) 0 0 0 [(0, .ref a0), (1, .int a1), (2, .int a2), (3, .int a3), (4, .int a4), (5, .int a5)] [] st
  unfold P_X11_feed at h
  refine J_aload_n 0 dX11_feed_0 rfl rfl ?_
  obtain ⟨hf, h⟩ := h
  refine J_getI fl_RX11_80 dX11_feed_1 hf ?_
  refine J_bipush 20 dX11_feed_4 (by decide) ?_
  refine J_iadd dX11_feed_6 ?_
  refine J_sipush 700 dX11_feed_7 (by decide) ?_
  refine J_icmp_le 15 dX11_feed_10 (by decide) (fun hc => ?_) (fun hc => ?_)
  · have h := h.1 hc
    refine J_aload_n 0 dX11_feed_15 rfl rfl ?_
    refine J_iload_n 1 dX11_feed_16 rfl rfl ?_
    obtain ⟨ho, h⟩ := h
    refine J_cvv (As := [_]) md_X11_feedNumber k_716 (rc_obj cl_11 ho) rfl rfl ⟨Nat.le_of_ble_eq_true rfl, Nat.le_of_ble_eq_true rfl⟩ ⟨Nat.le_of_ble_eq_true rfl, Nat.le_of_ble_eq_true rfl⟩ (Nat.le_of_ble_eq_true rfl) dX11_feed_17 (ct_X11_feedNumber  h) (fun st_2 h => ?_)
    refine J_aload_n 0 dX11_feed_20 rfl rfl ?_
    refine J_iload_n 2 dX11_feed_21 rfl rfl ?_
    obtain ⟨ho, h⟩ := h
    refine J_cvv (As := [_]) md_X11_feedNumber k_716 (rc_obj cl_11 ho) rfl rfl ⟨Nat.le_of_ble_eq_true rfl, Nat.le_of_ble_eq_true rfl⟩ ⟨Nat.le_of_ble_eq_true rfl, Nat.le_of_ble_eq_true rfl⟩ (Nat.le_of_ble_eq_true rfl) dX11_feed_22 (ct_X11_feedNumber  h) (fun st_4 h => ?_)
    refine J_aload_n 0 dX11_feed_25 rfl rfl ?_
    refine J_iload_n 3 dX11_feed_26 rfl rfl ?_
    obtain ⟨ho, h⟩ := h
    refine J_cvv (As := [_]) md_X11_feedNumber k_716 (rc_obj cl_11 ho) rfl rfl ⟨Nat.le_of_ble_eq_true rfl, Nat.le_of_ble_eq_true rfl⟩ ⟨Nat.le_of_ble_eq_true rfl, Nat.le_of_ble_eq_true rfl⟩ (Nat.le_of_ble_eq_true rfl) dX11_feed_27 (ct_X11_feedNumber  h) (fun st_6 h => ?_)
    refine J_aload_n 0 dX11_feed_30 rfl rfl ?_
    refine J_iload 4 dX11_feed_31 rfl ?_
    obtain ⟨ho, h⟩ := h
    refine J_cvv (As := [_]) md_X11_feedNumber k_716 (rc_obj cl_11 ho) rfl rfl ⟨Nat.le_of_ble_eq_true rfl, Nat.le_of_ble_eq_true rfl⟩ ⟨Nat.le_of_ble_eq_true rfl, Nat.le_of_ble_eq_true rfl⟩ (Nat.le_of_ble_eq_true rfl) dX11_feed_33 (ct_X11_feedNumber  h) (fun st_8 h => ?_)
    refine J_aload_n 0 dX11_feed_36 rfl rfl ?_
    refine J_iload 5 dX11_feed_37 rfl ?_
    obtain ⟨ho, h⟩ := h
    refine J_cvv (As := [_]) md_X11_feedNumber k_716 (rc_obj cl_11 ho) rfl rfl ⟨Nat.le_of_ble_eq_true rfl, Nat.le_of_ble_eq_true rfl⟩ ⟨Nat.le_of_ble_eq_true rfl, Nat.le_of_ble_eq_true rfl⟩ (Nat.le_of_ble_eq_true rfl) dX11_feed_39 (ct_X11_feedNumber  h) (fun st_10 h => ?_)
    refine J_aload_n 0 dX11_feed_42 rfl rfl ?_
    obtain ⟨hf, h⟩ := h
    refine J_getI fl_RX11_80 dX11_feed_43 hf ?_
    exact J_reti rfl dX11_feed_46 h
  · have h := h.2 hc
    refine J_iconst (-1) dX11_feed_13 (by decide) ?_
    exact J_reti rfl dX11_feed_14 h
/-! X11_count -/
def P_X11_count  (a0 : Nat) (a1 : Int32) (st : St) (post : Int32 → St → Prop) (pex : String → St → Prop) : Prop := oC a0 11 ∧ P_X11_needWhat  a0 a1 12 st (fun st_2 => ((((a1 : Int32).toInt < 0 ∨ 9 < (a1 : Int32).toInt) → ∃ r_3, rv st_2 a0 11 4 = some r_3 ∧ ∃ r_4, rv st_2 r_3 1 3 = some r_4 ∧ vp_in (a1 - 10) (al 0 r_4) ∧ post (gA st_2 r_4 (a1 - 10 : Int32).toNatClampNeg) st_2) ∧ ((a1 : Int32).toInt = 0 → ∃ r_5, rv st_2 a0 11 7 = some r_5 ∧ ∃ r_6, rv st_2 r_5 2 0 = some r_6 ∧ fk r_6 3 0 = some 0 ∧ post (gI st_2 r_6 0) st_2) ∧ ((a1 : Int32).toInt = 1 → ∃ r_7, rv st_2 a0 11 7 = some r_7 ∧ ∃ r_8, rv st_2 r_7 2 0 = some r_8 ∧ fk r_8 3 1 = some 0 ∧ post (gI st_2 r_8 1) st_2) ∧ ((a1 : Int32).toInt = 2 → ∃ r_9, rv st_2 a0 11 7 = some r_9 ∧ oC r_9 2 ∧ P_X2_tieCount  r_9 st_2 (fun z_10 st_11 => post z_10 st_11)) ∧ ((a1 : Int32).toInt = 3 → ∃ r_12, rv st_2 a0 11 7 = some r_12 ∧ oC r_12 2 ∧ P_X2_today  r_12 st_2 (fun z_13 st_14 => post z_13 st_14)) ∧ ((a1 : Int32).toInt = 4 → ∃ r_15, rv st_2 a0 11 7 = some r_15 ∧ oC r_15 2 ∧ P_X2_homeBits  r_15 st_2 (fun z_16 st_17 => post z_16 st_17)) ∧ ((a1 : Int32).toInt = 5 → ∃ r_18, rv st_2 a0 11 7 = some r_18 ∧ oC r_18 2 ∧ P_X2_dogCount  r_18 st_2 (fun z_19 st_20 => post z_19 st_20)) ∧ ((a1 : Int32).toInt = 6 → ∃ r_21, rv st_2 a0 11 7 = some r_21 ∧ oC r_21 2 ∧ P_X2_griefOfAll  r_21 st_2 (fun z_22 st_23 => post z_22 st_23)) ∧ ((a1 : Int32).toInt = 7 → ∃ r_24, rv st_2 a0 11 4 = some r_24 ∧ ∃ r_25, rv st_2 r_24 1 1 = some r_25 ∧ fk r_25 0 2 = some 0 ∧ post (gI st_2 r_25 2) st_2) ∧ ((a1 : Int32).toInt = 8 → ∃ r_26, rv st_2 a0 11 4 = some r_26 ∧ ∃ r_27, rv st_2 r_26 1 2 = some r_27 ∧ fk r_27 7 5 = some 0 ∧ post (gI st_2 r_27 5) st_2) ∧ ((a1 : Int32).toInt = 9 → fk a0 11 1 = some 0 ∧ post (gI st_2 a0 1) st_2) ∧ True)) pex
set_option maxRecDepth 100000 in
set_option maxHeartbeats 4000000 in
theorem ct_X11_count {l : Launch} {E : En} (hl0 : l.stackTraces = false)  {a0 : Nat} {a1 : Int32} {st : St} {post : Int32 → St → Prop} {pex : String → St → Prop} (h : P_X11_count  a0 a1 st post pex) : CtXI l E (CFc E) 7 1 6 yX11_count cX11_count 2 (some .int) [.ref a0, .int a1] st post pex := by
  refine ctXI_of (by decide) (Nat.le_of_ble_eq_true rfl) ?_
  show Jg l E (CFc E) (Rm 7 1 6) cX11_count 2 RX11 (some .int) XTn (QXI E post pex 1 6) 0 0 0 [(0, .ref a0), (1, .int a1)] [] st
  unfold P_X11_count at h
  refine J_aload_n 0 dX11_count_0 rfl rfl ?_
  refine J_iload_n 1 dX11_count_1 rfl rfl ?_
  refine J_bipush 12 dX11_count_2 (by decide) ?_
  obtain ⟨ho, h⟩ := h
  refine J_xcvI (As := [_, _]) md_X11_needWhat k_753 (rc_obj cl_11 ho) rfl rfl ⟨Nat.le_of_ble_eq_true rfl, Nat.le_of_ble_eq_true rfl⟩ ⟨Nat.le_of_ble_eq_true rfl, Nat.le_of_ble_eq_true rfl⟩ (Nat.le_of_ble_eq_true rfl) dX11_count_4 (ct_X11_needWhat hl0 h) (by decide) (by decide) (fun _ _ h => h) (fun st_2 h => ?_)
  refine J_iload_n 1 dX11_count_7 rfl rfl ?_
  rcases (show (a1 : Int32).toInt < 0 ∨ (a1 : Int32).toInt = 0 ∨ (a1 : Int32).toInt = 1 ∨ (a1 : Int32).toInt = 2 ∨ (a1 : Int32).toInt = 3 ∨ (a1 : Int32).toInt = 4 ∨ (a1 : Int32).toInt = 5 ∨ (a1 : Int32).toInt = 6 ∨ (a1 : Int32).toInt = 7 ∨ (a1 : Int32).toInt = 8 ∨ (a1 : Int32).toInt = 9 ∨ 9 < (a1 : Int32).toInt by omega) with hc | hc | hc | hc | hc | hc | hc | hc | hc | hc | hc | hc
  · have h := h.1 (Or.inl hc)
    refine J_tsOut 153 dX11_count_8 (Or.inl hc) (by decide) ?_
    refine J_aload_n 0 dX11_count_153 rfl rfl ?_
    obtain ⟨r_3, hf, h⟩ := h
    refine J_getR fl_RX11_25 dX11_count_154 hf ?_
    obtain ⟨r_4, hf, h⟩ := h
    refine J_getR fl_RX11_159 dX11_count_157 hf ?_
    refine J_iload_n 1 dX11_count_160 rfl rfl ?_
    refine J_bipush 10 dX11_count_161 (by decide) ?_
    refine J_isub dX11_count_163 ?_
    obtain ⟨hi, h⟩ := h
    refine J_iald dX11_count_164 hi ?_
    exact J_xreti rfl dX11_count_165 h
  · have h := h.2.1 hc
    refine J_tsIn 64 (0) dX11_count_8 hc (by decide) (by decide) rfl (by decide) ?_
    refine J_aload_n 0 dX11_count_64 rfl rfl ?_
    obtain ⟨r_5, hf, h⟩ := h
    refine J_getR fl_RX11_36 dX11_count_65 hf ?_
    obtain ⟨r_6, hf, h⟩ := h
    refine J_getR fl_RX11_108 dX11_count_68 hf ?_
    obtain ⟨hf, h⟩ := h
    refine J_getI fl_RX11_134 dX11_count_71 hf ?_
    exact J_xreti rfl dX11_count_74 h
  · have h := h.2.2.1 hc
    refine J_tsIn 75 (1) dX11_count_8 hc (by decide) (by decide) rfl (by decide) ?_
    refine J_aload_n 0 dX11_count_75 rfl rfl ?_
    obtain ⟨r_7, hf, h⟩ := h
    refine J_getR fl_RX11_36 dX11_count_76 hf ?_
    obtain ⟨r_8, hf, h⟩ := h
    refine J_getR fl_RX11_108 dX11_count_79 hf ?_
    obtain ⟨hf, h⟩ := h
    refine J_getI fl_RX11_137 dX11_count_82 hf ?_
    exact J_xreti rfl dX11_count_85 h
  · have h := h.2.2.2.1 hc
    refine J_tsIn 86 (2) dX11_count_8 hc (by decide) (by decide) rfl (by decide) ?_
    refine J_aload_n 0 dX11_count_86 rfl rfl ?_
    obtain ⟨r_9, hf, h⟩ := h
    refine J_getR fl_RX11_36 dX11_count_87 hf ?_
    obtain ⟨ho, h⟩ := h
    refine J_cvi (As := []) md_X2_tieCount k_756 (rc_obj cl_2 ho) rfl rfl ⟨Nat.le_of_ble_eq_true rfl, Nat.le_of_ble_eq_true rfl⟩ ⟨Nat.le_of_ble_eq_true rfl, Nat.le_of_ble_eq_true rfl⟩ (Nat.le_of_ble_eq_true rfl) dX11_count_90 (ct_X2_tieCount  h) (fun z_10 st_11 h => ?_)
    exact J_xreti rfl dX11_count_93 h
  · have h := h.2.2.2.2.1 hc
    refine J_tsIn 94 (3) dX11_count_8 hc (by decide) (by decide) rfl (by decide) ?_
    refine J_aload_n 0 dX11_count_94 rfl rfl ?_
    obtain ⟨r_12, hf, h⟩ := h
    refine J_getR fl_RX11_36 dX11_count_95 hf ?_
    obtain ⟨ho, h⟩ := h
    refine J_cvi (As := []) md_X2_today k_759 (rc_obj cl_2 ho) rfl rfl ⟨Nat.le_of_ble_eq_true rfl, Nat.le_of_ble_eq_true rfl⟩ ⟨Nat.le_of_ble_eq_true rfl, Nat.le_of_ble_eq_true rfl⟩ (Nat.le_of_ble_eq_true rfl) dX11_count_98 (ct_X2_today  h) (fun z_13 st_14 h => ?_)
    exact J_xreti rfl dX11_count_101 h
  · have h := h.2.2.2.2.2.1 hc
    refine J_tsIn 102 (4) dX11_count_8 hc (by decide) (by decide) rfl (by decide) ?_
    refine J_aload_n 0 dX11_count_102 rfl rfl ?_
    obtain ⟨r_15, hf, h⟩ := h
    refine J_getR fl_RX11_36 dX11_count_103 hf ?_
    obtain ⟨ho, h⟩ := h
    refine J_cvi (As := []) md_X2_homeBits k_760 (rc_obj cl_2 ho) rfl rfl ⟨Nat.le_of_ble_eq_true rfl, Nat.le_of_ble_eq_true rfl⟩ ⟨Nat.le_of_ble_eq_true rfl, Nat.le_of_ble_eq_true rfl⟩ (Nat.le_of_ble_eq_true rfl) dX11_count_106 (ct_X2_homeBits  h) (fun z_16 st_17 h => ?_)
    exact J_xreti rfl dX11_count_109 h
  · have h := h.2.2.2.2.2.2.1 hc
    refine J_tsIn 110 (5) dX11_count_8 hc (by decide) (by decide) rfl (by decide) ?_
    refine J_aload_n 0 dX11_count_110 rfl rfl ?_
    obtain ⟨r_18, hf, h⟩ := h
    refine J_getR fl_RX11_36 dX11_count_111 hf ?_
    obtain ⟨ho, h⟩ := h
    refine J_cvi (As := []) md_X2_dogCount k_763 (rc_obj cl_2 ho) rfl rfl ⟨Nat.le_of_ble_eq_true rfl, Nat.le_of_ble_eq_true rfl⟩ ⟨Nat.le_of_ble_eq_true rfl, Nat.le_of_ble_eq_true rfl⟩ (Nat.le_of_ble_eq_true rfl) dX11_count_114 (ct_X2_dogCount  h) (fun z_19 st_20 h => ?_)
    exact J_xreti rfl dX11_count_117 h
  · have h := h.2.2.2.2.2.2.2.1 hc
    refine J_tsIn 118 (6) dX11_count_8 hc (by decide) (by decide) rfl (by decide) ?_
    refine J_aload_n 0 dX11_count_118 rfl rfl ?_
    obtain ⟨r_21, hf, h⟩ := h
    refine J_getR fl_RX11_36 dX11_count_119 hf ?_
    obtain ⟨ho, h⟩ := h
    refine J_cvi (As := []) md_X2_griefOfAll k_766 (rc_obj cl_2 ho) rfl rfl ⟨Nat.le_of_ble_eq_true rfl, Nat.le_of_ble_eq_true rfl⟩ ⟨Nat.le_of_ble_eq_true rfl, Nat.le_of_ble_eq_true rfl⟩ (Nat.le_of_ble_eq_true rfl) dX11_count_122 (ct_X2_griefOfAll  h) (fun z_22 st_23 h => ?_)
    exact J_xreti rfl dX11_count_125 h
  · have h := h.2.2.2.2.2.2.2.2.1 hc
    refine J_tsIn 126 (7) dX11_count_8 hc (by decide) (by decide) rfl (by decide) ?_
    refine J_aload_n 0 dX11_count_126 rfl rfl ?_
    obtain ⟨r_24, hf, h⟩ := h
    refine J_getR fl_RX11_25 dX11_count_127 hf ?_
    obtain ⟨r_25, hf, h⟩ := h
    refine J_getR fl_RX11_114 dX11_count_130 hf ?_
    obtain ⟨hf, h⟩ := h
    refine J_getI fl_RX11_155 dX11_count_133 hf ?_
    exact J_xreti rfl dX11_count_136 h
  · have h := h.2.2.2.2.2.2.2.2.2.1 hc
    refine J_tsIn 137 (8) dX11_count_8 hc (by decide) (by decide) rfl (by decide) ?_
    refine J_aload_n 0 dX11_count_137 rfl rfl ?_
    obtain ⟨r_26, hf, h⟩ := h
    refine J_getR fl_RX11_25 dX11_count_138 hf ?_
    obtain ⟨r_27, hf, h⟩ := h
    refine J_getR fl_RX11_56 dX11_count_141 hf ?_
    obtain ⟨hf, h⟩ := h
    refine J_getI fl_RX11_158 dX11_count_144 hf ?_
    exact J_xreti rfl dX11_count_147 h
  · have h := h.2.2.2.2.2.2.2.2.2.2.1 hc
    refine J_tsIn 148 (9) dX11_count_8 hc (by decide) (by decide) rfl (by decide) ?_
    refine J_aload_n 0 dX11_count_148 rfl rfl ?_
    obtain ⟨hf, h⟩ := h
    refine J_getI fl_RX11_80 dX11_count_149 hf ?_
    exact J_xreti rfl dX11_count_152 h
  · have h := h.1 (Or.inr hc)
    refine J_tsOut 153 dX11_count_8 (Or.inr hc) (by decide) ?_
    refine J_aload_n 0 dX11_count_153 rfl rfl ?_
    obtain ⟨r_3, hf, h⟩ := h
    refine J_getR fl_RX11_25 dX11_count_154 hf ?_
    obtain ⟨r_4, hf, h⟩ := h
    refine J_getR fl_RX11_159 dX11_count_157 hf ?_
    refine J_iload_n 1 dX11_count_160 rfl rfl ?_
    refine J_bipush 10 dX11_count_161 (by decide) ?_
    refine J_isub dX11_count_163 ?_
    obtain ⟨hi, h⟩ := h
    refine J_iald dX11_count_164 hi ?_
    exact J_xreti rfl dX11_count_165 h
/-! X11_person -/
def P_X11_person  (a0 : Nat) (a1 : Int32) (a2 : Int32) (st : St) (post : Int32 → St → Prop) (pex : String → St → Prop) : Prop := oC a0 11 ∧ P_X11_needPerson  a0 a1 st (fun st_2 => oC a0 11 ∧ P_X11_needWhat  a0 a2 5 st_2 (fun st_4 => ((((a2 : Int32).toInt < 0 ∨ 4 < (a2 : Int32).toInt) → ∃ r_5, rv st_4 a0 11 7 = some r_5 ∧ oC r_5 2 ∧ P_X2_bridesTiedTo  r_5 a1 st_4 (fun z_6 st_7 => post z_6 st_7)) ∧ ((a2 : Int32).toInt = 0 → ∃ r_8, rv st_4 a0 11 7 = some r_8 ∧ ∃ r_9, rv st_4 r_8 2 0 = some r_9 ∧ ∃ r_10, rv st_4 r_9 3 2 = some r_10 ∧ vp_in a1 (al 0 r_10) ∧ post (gA st_4 r_10 (a1 : Int32).toNatClampNeg) st_4) ∧ ((a2 : Int32).toInt = 1 → ∃ r_11, rv st_4 a0 11 7 = some r_11 ∧ oC r_11 2 ∧ P_X2_griefOf  r_11 a1 st_4 (fun z_12 st_13 => post z_12 st_13)) ∧ ((a2 : Int32).toInt = 2 → ∃ r_14, rv st_4 a0 11 7 = some r_14 ∧ oC r_14 2 ∧ P_X2_trainsOf  r_14 a1 st_4 (fun z_15 st_16 => post z_15 st_16)) ∧ ((a2 : Int32).toInt = 3 → ∃ r_17, rv st_4 a0 11 7 = some r_17 ∧ oC r_17 2 ∧ P_X2_onionsOf  r_17 a1 st_4 (fun z_18 st_19 => post z_18 st_19)) ∧ ((a2 : Int32).toInt = 4 → ∃ r_20, rv st_4 a0 11 7 = some r_20 ∧ oC r_20 2 ∧ P_X2_ledBits  r_20 a1 st_4 (fun z_21 st_22 => post z_21 st_22)) ∧ True)) pex) pex
set_option maxRecDepth 100000 in
set_option maxHeartbeats 4000000 in
theorem ct_X11_person {l : Launch} {E : En} (hl0 : l.stackTraces = false)  {a0 : Nat} {a1 : Int32} {a2 : Int32} {st : St} {post : Int32 → St → Prop} {pex : String → St → Prop} (h : P_X11_person  a0 a1 a2 st post pex) : CtXI l E (CFc E) 7 2 12 yX11_person cX11_person 3 (some .int) [.ref a0, .int a1, .int a2] st post pex := by
  refine ctXI_of (by decide) (Nat.le_of_ble_eq_true rfl) ?_
  show Jg l E (CFc E) (Rm 7 2 12) cX11_person 3 RX11 (some .int) XTn (QXI E post pex 2 12) 0 0 0 [(0, .ref a0), (1, .int a1), (2, .int a2)] [] st
  unfold P_X11_person at h
  refine J_aload_n 0 dX11_person_0 rfl rfl ?_
  refine J_iload_n 1 dX11_person_1 rfl rfl ?_
  obtain ⟨ho, h⟩ := h
  refine J_xcvI (As := [_]) md_X11_needPerson k_772 (rc_obj cl_11 ho) rfl rfl ⟨Nat.le_of_ble_eq_true rfl, Nat.le_of_ble_eq_true rfl⟩ ⟨Nat.le_of_ble_eq_true rfl, Nat.le_of_ble_eq_true rfl⟩ (Nat.le_of_ble_eq_true rfl) dX11_person_2 (ct_X11_needPerson hl0 h) (by decide) (by decide) (fun _ _ h => h) (fun st_2 h => ?_)
  refine J_aload_n 0 dX11_person_5 rfl rfl ?_
  refine J_iload_n 2 dX11_person_6 rfl rfl ?_
  refine J_iconst 5 dX11_person_7 (by decide) ?_
  obtain ⟨ho, h⟩ := h
  refine J_xcvI (As := [_, _]) md_X11_needWhat k_753 (rc_obj cl_11 ho) rfl rfl ⟨Nat.le_of_ble_eq_true rfl, Nat.le_of_ble_eq_true rfl⟩ ⟨Nat.le_of_ble_eq_true rfl, Nat.le_of_ble_eq_true rfl⟩ (Nat.le_of_ble_eq_true rfl) dX11_person_8 (ct_X11_needWhat hl0 h) (by decide) (by decide) (fun _ _ h => h) (fun st_4 h => ?_)
  refine J_iload_n 2 dX11_person_11 rfl rfl ?_
  rcases (show (a2 : Int32).toInt < 0 ∨ (a2 : Int32).toInt = 0 ∨ (a2 : Int32).toInt = 1 ∨ (a2 : Int32).toInt = 2 ∨ (a2 : Int32).toInt = 3 ∨ (a2 : Int32).toInt = 4 ∨ 4 < (a2 : Int32).toInt by omega) with hc | hc | hc | hc | hc | hc | hc
  · have h := h.1 (Or.inl hc)
    refine J_tsOut 97 dX11_person_12 (Or.inl hc) (by decide) ?_
    refine J_aload_n 0 dX11_person_97 rfl rfl ?_
    obtain ⟨r_5, hf, h⟩ := h
    refine J_getR fl_RX11_36 dX11_person_98 hf ?_
    refine J_iload_n 1 dX11_person_101 rfl rfl ?_
    obtain ⟨ho, h⟩ := h
    refine J_cvi (As := [_]) md_X2_bridesTiedTo k_779 (rc_obj cl_2 ho) rfl rfl ⟨Nat.le_of_ble_eq_true rfl, Nat.le_of_ble_eq_true rfl⟩ ⟨Nat.le_of_ble_eq_true rfl, Nat.le_of_ble_eq_true rfl⟩ (Nat.le_of_ble_eq_true rfl) dX11_person_102 (ct_X2_bridesTiedTo  h) (fun z_6 st_7 h => ?_)
    exact J_xreti rfl dX11_person_105 h
  · have h := h.2.1 hc
    refine J_tsIn 48 (0) dX11_person_12 hc (by decide) (by decide) rfl (by decide) ?_
    refine J_aload_n 0 dX11_person_48 rfl rfl ?_
    obtain ⟨r_8, hf, h⟩ := h
    refine J_getR fl_RX11_36 dX11_person_49 hf ?_
    obtain ⟨r_9, hf, h⟩ := h
    refine J_getR fl_RX11_108 dX11_person_52 hf ?_
    obtain ⟨r_10, hf, h⟩ := h
    refine J_getR fl_RX11_165 dX11_person_55 hf ?_
    refine J_iload_n 1 dX11_person_58 rfl rfl ?_
    obtain ⟨hi, h⟩ := h
    refine J_iald dX11_person_59 hi ?_
    exact J_xreti rfl dX11_person_60 h
  · have h := h.2.2.1 hc
    refine J_tsIn 61 (1) dX11_person_12 hc (by decide) (by decide) rfl (by decide) ?_
    refine J_aload_n 0 dX11_person_61 rfl rfl ?_
    obtain ⟨r_11, hf, h⟩ := h
    refine J_getR fl_RX11_36 dX11_person_62 hf ?_
    refine J_iload_n 1 dX11_person_65 rfl rfl ?_
    obtain ⟨ho, h⟩ := h
    refine J_cvi (As := [_]) md_X2_griefOf k_775 (rc_obj cl_2 ho) rfl rfl ⟨Nat.le_of_ble_eq_true rfl, Nat.le_of_ble_eq_true rfl⟩ ⟨Nat.le_of_ble_eq_true rfl, Nat.le_of_ble_eq_true rfl⟩ (Nat.le_of_ble_eq_true rfl) dX11_person_66 (ct_X2_griefOf  h) (fun z_12 st_13 h => ?_)
    exact J_xreti rfl dX11_person_69 h
  · have h := h.2.2.2.1 hc
    refine J_tsIn 70 (2) dX11_person_12 hc (by decide) (by decide) rfl (by decide) ?_
    refine J_aload_n 0 dX11_person_70 rfl rfl ?_
    obtain ⟨r_14, hf, h⟩ := h
    refine J_getR fl_RX11_36 dX11_person_71 hf ?_
    refine J_iload_n 1 dX11_person_74 rfl rfl ?_
    obtain ⟨ho, h⟩ := h
    refine J_cvi (As := [_]) md_X2_trainsOf k_776 (rc_obj cl_2 ho) rfl rfl ⟨Nat.le_of_ble_eq_true rfl, Nat.le_of_ble_eq_true rfl⟩ ⟨Nat.le_of_ble_eq_true rfl, Nat.le_of_ble_eq_true rfl⟩ (Nat.le_of_ble_eq_true rfl) dX11_person_75 (ct_X2_trainsOf  h) (fun z_15 st_16 h => ?_)
    exact J_xreti rfl dX11_person_78 h
  · have h := h.2.2.2.2.1 hc
    refine J_tsIn 79 (3) dX11_person_12 hc (by decide) (by decide) rfl (by decide) ?_
    refine J_aload_n 0 dX11_person_79 rfl rfl ?_
    obtain ⟨r_17, hf, h⟩ := h
    refine J_getR fl_RX11_36 dX11_person_80 hf ?_
    refine J_iload_n 1 dX11_person_83 rfl rfl ?_
    obtain ⟨ho, h⟩ := h
    refine J_cvi (As := [_]) md_X2_onionsOf k_777 (rc_obj cl_2 ho) rfl rfl ⟨Nat.le_of_ble_eq_true rfl, Nat.le_of_ble_eq_true rfl⟩ ⟨Nat.le_of_ble_eq_true rfl, Nat.le_of_ble_eq_true rfl⟩ (Nat.le_of_ble_eq_true rfl) dX11_person_84 (ct_X2_onionsOf  h) (fun z_18 st_19 h => ?_)
    exact J_xreti rfl dX11_person_87 h
  · have h := h.2.2.2.2.2.1 hc
    refine J_tsIn 88 (4) dX11_person_12 hc (by decide) (by decide) rfl (by decide) ?_
    refine J_aload_n 0 dX11_person_88 rfl rfl ?_
    obtain ⟨r_20, hf, h⟩ := h
    refine J_getR fl_RX11_36 dX11_person_89 hf ?_
    refine J_iload_n 1 dX11_person_92 rfl rfl ?_
    obtain ⟨ho, h⟩ := h
    refine J_cvi (As := [_]) md_X2_ledBits k_778 (rc_obj cl_2 ho) rfl rfl ⟨Nat.le_of_ble_eq_true rfl, Nat.le_of_ble_eq_true rfl⟩ ⟨Nat.le_of_ble_eq_true rfl, Nat.le_of_ble_eq_true rfl⟩ (Nat.le_of_ble_eq_true rfl) dX11_person_93 (ct_X2_ledBits  h) (fun z_21 st_22 h => ?_)
    exact J_xreti rfl dX11_person_96 h
  · have h := h.1 (Or.inr hc)
    refine J_tsOut 97 dX11_person_12 (Or.inr hc) (by decide) ?_
    refine J_aload_n 0 dX11_person_97 rfl rfl ?_
    obtain ⟨r_5, hf, h⟩ := h
    refine J_getR fl_RX11_36 dX11_person_98 hf ?_
    refine J_iload_n 1 dX11_person_101 rfl rfl ?_
    obtain ⟨ho, h⟩ := h
    refine J_cvi (As := [_]) md_X2_bridesTiedTo k_779 (rc_obj cl_2 ho) rfl rfl ⟨Nat.le_of_ble_eq_true rfl, Nat.le_of_ble_eq_true rfl⟩ ⟨Nat.le_of_ble_eq_true rfl, Nat.le_of_ble_eq_true rfl⟩ (Nat.le_of_ble_eq_true rfl) dX11_person_102 (ct_X2_bridesTiedTo  h) (fun z_6 st_7 h => ?_)
    exact J_xreti rfl dX11_person_105 h
/-! X11_years -/
def P_X11_years  (a0 : Nat) (a1 : Int32) (a2 : Int32) (st : St) (post : Int32 → St → Prop) (pex : String → St → Prop) : Prop := oC a0 11 ∧ P_X11_needPerson  a0 a1 st (fun st_2 => oC a0 11 ∧ P_X11_needBride  a0 a2 st_2 (fun st_4 => ∃ r_5, rv st_4 a0 11 7 = some r_5 ∧ oC r_5 2 ∧ P_X2_yearsOf  r_5 a1 a2 st_4 (fun z_6 st_7 => post z_6 st_7)) pex) pex
set_option maxRecDepth 100000 in
set_option maxHeartbeats 4000000 in
theorem ct_X11_years {l : Launch} {E : En} (hl0 : l.stackTraces = false)  {a0 : Nat} {a1 : Int32} {a2 : Int32} {st : St} {post : Int32 → St → Prop} {pex : String → St → Prop} (h : P_X11_years  a0 a1 a2 st post pex) : CtXI l E (CFc E) 7 2 12 yX11_years cX11_years 3 (some .int) [.ref a0, .int a1, .int a2] st post pex := by
  refine ctXI_of (by decide) (Nat.le_of_ble_eq_true rfl) ?_
  show Jg l E (CFc E) (Rm 7 2 12) cX11_years 3 RX11 (some .int) XTn (QXI E post pex 2 12) 0 0 0 [(0, .ref a0), (1, .int a1), (2, .int a2)] [] st
  unfold P_X11_years at h
  refine J_aload_n 0 dX11_years_0 rfl rfl ?_
  refine J_iload_n 1 dX11_years_1 rfl rfl ?_
  obtain ⟨ho, h⟩ := h
  refine J_xcvI (As := [_]) md_X11_needPerson k_772 (rc_obj cl_11 ho) rfl rfl ⟨Nat.le_of_ble_eq_true rfl, Nat.le_of_ble_eq_true rfl⟩ ⟨Nat.le_of_ble_eq_true rfl, Nat.le_of_ble_eq_true rfl⟩ (Nat.le_of_ble_eq_true rfl) dX11_years_2 (ct_X11_needPerson hl0 h) (by decide) (by decide) (fun _ _ h => h) (fun st_2 h => ?_)
  refine J_aload_n 0 dX11_years_5 rfl rfl ?_
  refine J_iload_n 2 dX11_years_6 rfl rfl ?_
  obtain ⟨ho, h⟩ := h
  refine J_xcvI (As := [_]) md_X11_needBride k_782 (rc_obj cl_11 ho) rfl rfl ⟨Nat.le_of_ble_eq_true rfl, Nat.le_of_ble_eq_true rfl⟩ ⟨Nat.le_of_ble_eq_true rfl, Nat.le_of_ble_eq_true rfl⟩ (Nat.le_of_ble_eq_true rfl) dX11_years_7 (ct_X11_needBride hl0 h) (by decide) (by decide) (fun _ _ h => h) (fun st_4 h => ?_)
  refine J_aload_n 0 dX11_years_10 rfl rfl ?_
  obtain ⟨r_5, hf, h⟩ := h
  refine J_getR fl_RX11_36 dX11_years_11 hf ?_
  refine J_iload_n 1 dX11_years_14 rfl rfl ?_
  refine J_iload_n 2 dX11_years_15 rfl rfl ?_
  obtain ⟨ho, h⟩ := h
  refine J_cvi (As := [_, _]) md_X2_yearsOf k_793 (rc_obj cl_2 ho) rfl rfl ⟨Nat.le_of_ble_eq_true rfl, Nat.le_of_ble_eq_true rfl⟩ ⟨Nat.le_of_ble_eq_true rfl, Nat.le_of_ble_eq_true rfl⟩ (Nat.le_of_ble_eq_true rfl) dX11_years_16 (ct_X2_yearsOf  h) (fun z_6 st_7 h => ?_)
  exact J_xreti rfl dX11_years_19 h
/-! X11_train -/
def P_X11_train_15  (a0 : Nat) (a1 : Int32) (a2 : Int32)  (post : Int32 → St → Prop) (pex : String → St → Prop)  (st : St) : Prop := oC a0 11 ∧ P_X11_refuse  a0 1 st (fun z_1 st_2 => post z_1 st_2)
def P_X11_train  (a0 : Nat) (a1 : Int32) (a2 : Int32) (st : St) (post : Int32 → St → Prop) (pex : String → St → Prop) : Prop := oC a0 11 ∧ P_X11_needPerson  a0 a1 st (fun st_2 => ((a2 < 0 → P_X11_train_15  a0 a1 a2  post pex st_2) ∧ (¬ a2 < 0 → ((a2 ≤ 9 → ∃ r_3, rv st_2 a0 11 4 = some r_3 ∧ oC r_3 1 ∧ P_X1_keepAct  r_3 st_2 (fun st_5 => ∃ r_6, rv st_5 a0 11 7 = some r_6 ∧ oC r_6 2 ∧ P_X2_trainsOf  r_6 a1 st_5 (fun z_7 st_8 => ∃ r_9, rv st_8 a0 11 7 = some r_9 ∧ oC r_9 2 ∧ P_X2_setTrains  r_9 a1 a2 st_8 (fun st_11 => post z_7 st_11)))) ∧ (¬ a2 ≤ 9 → P_X11_train_15  a0 a1 a2  post pex st_2))))) pex
set_option maxRecDepth 100000 in
set_option maxHeartbeats 4000000 in
theorem K_X11_train_15 {l : Launch} {E : En} (hl0 : l.stackTraces = false)  (a0 : Nat) (a1 : Int32) (a2 : Int32)  {post : Int32 → St → Prop} {pex : String → St → Prop}   (st : St) (h : P_X11_train_15  a0 a1 a2  post pex  st) : Jg l E (CFc E) (Rm 7 1 6) cX11_train 4 RX11 (some .int) XTn (QXI E post pex 1 6) 1 6 15 [(0, .ref a0), (1, .int a1), (2, .int a2)] [] st := by
  unfold P_X11_train_15 at h
  refine J_aload_n 0 dX11_train_15 rfl rfl ?_
  refine J_iconst 1 dX11_train_16 (by decide) ?_
  obtain ⟨ho, h⟩ := h
  refine J_cvi (As := [_]) md_X11_refuse k_736 (rc_obj cl_11 ho) rfl rfl ⟨Nat.le_of_ble_eq_true rfl, Nat.le_of_ble_eq_true rfl⟩ ⟨Nat.le_of_ble_eq_true rfl, Nat.le_of_ble_eq_true rfl⟩ (Nat.le_of_ble_eq_true rfl) dX11_train_17 (ct_X11_refuse  h) (fun z_1 st_2 h => ?_)
  exact J_xreti rfl dX11_train_20 h
set_option maxRecDepth 100000 in
set_option maxHeartbeats 4000000 in
theorem ct_X11_train {l : Launch} {E : En} (hl0 : l.stackTraces = false)  {a0 : Nat} {a1 : Int32} {a2 : Int32} {st : St} {post : Int32 → St → Prop} {pex : String → St → Prop} (h : P_X11_train  a0 a1 a2 st post pex) : CtXI l E (CFc E) 7 1 6 yX11_train cX11_train 4 (some .int) [.ref a0, .int a1, .int a2] st post pex := by
  refine ctXI_of (by decide) (Nat.le_of_ble_eq_true rfl) ?_
  show Jg l E (CFc E) (Rm 7 1 6) cX11_train 4 RX11 (some .int) XTn (QXI E post pex 1 6) 0 0 0 [(0, .ref a0), (1, .int a1), (2, .int a2)] [] st
  unfold P_X11_train at h
  refine J_aload_n 0 dX11_train_0 rfl rfl ?_
  refine J_iload_n 1 dX11_train_1 rfl rfl ?_
  obtain ⟨ho, h⟩ := h
  refine J_xcvI (As := [_]) md_X11_needPerson k_772 (rc_obj cl_11 ho) rfl rfl ⟨Nat.le_of_ble_eq_true rfl, Nat.le_of_ble_eq_true rfl⟩ ⟨Nat.le_of_ble_eq_true rfl, Nat.le_of_ble_eq_true rfl⟩ (Nat.le_of_ble_eq_true rfl) dX11_train_2 (ct_X11_needPerson hl0 h) (by decide) (by decide) (fun _ _ h => h) (fun st_2 h => ?_)
  refine J_iload_n 2 dX11_train_5 rfl rfl ?_
  refine J_if_lt 15 dX11_train_6 (by decide) (fun hc => ?_) (fun hc => ?_)
  · have h := h.1 hc
    exact J_lv [0, 1, 2] rfl (K_X11_train_15 hl0  a0 a1 a2  st_2 h)
  · have h := h.2 hc
    refine J_iload_n 2 dX11_train_9 rfl rfl ?_
    refine J_bipush 9 dX11_train_10 (by decide) ?_
    refine J_icmp_le 21 dX11_train_12 (by decide) (fun hc => ?_) (fun hc => ?_)
    · have h := h.1 hc
      refine J_aload_n 0 dX11_train_21 rfl rfl ?_
      obtain ⟨r_3, hf, h⟩ := h
      refine J_getR fl_RX11_25 dX11_train_22 hf ?_
      obtain ⟨ho, h⟩ := h
      refine J_cvv (As := []) md_X1_keepAct k_796 (rc_obj cl_1 ho) rfl rfl ⟨Nat.le_of_ble_eq_true rfl, Nat.le_of_ble_eq_true rfl⟩ ⟨Nat.le_of_ble_eq_true rfl, Nat.le_of_ble_eq_true rfl⟩ (Nat.le_of_ble_eq_true rfl) dX11_train_25 (ct_X1_keepAct  h) (fun st_5 h => ?_)
      refine J_aload_n 0 dX11_train_28 rfl rfl ?_
      obtain ⟨r_6, hf, h⟩ := h
      refine J_getR fl_RX11_36 dX11_train_29 hf ?_
      refine J_iload_n 1 dX11_train_32 rfl rfl ?_
      obtain ⟨ho, h⟩ := h
      refine J_cvi (As := [_]) md_X2_trainsOf k_776 (rc_obj cl_2 ho) rfl rfl ⟨Nat.le_of_ble_eq_true rfl, Nat.le_of_ble_eq_true rfl⟩ ⟨Nat.le_of_ble_eq_true rfl, Nat.le_of_ble_eq_true rfl⟩ (Nat.le_of_ble_eq_true rfl) dX11_train_33 (ct_X2_trainsOf  h) (fun z_7 st_8 h => ?_)
      refine J_istore_n _ dX11_train_36 rfl (by decide) rfl ?_
      refine J_aload_n 1 dX11_train_37 rfl rfl ?_
      obtain ⟨r_9, hf, h⟩ := h
      refine J_getR fl_RX11_36 dX11_train_38 hf ?_
      refine J_iload_n 2 dX11_train_41 rfl rfl ?_
      refine J_iload_n 3 dX11_train_42 rfl rfl ?_
      obtain ⟨ho, h⟩ := h
      refine J_cvv (As := [_, _]) md_X2_setTrains k_801 (rc_obj cl_2 ho) rfl rfl ⟨Nat.le_of_ble_eq_true rfl, Nat.le_of_ble_eq_true rfl⟩ ⟨Nat.le_of_ble_eq_true rfl, Nat.le_of_ble_eq_true rfl⟩ (Nat.le_of_ble_eq_true rfl) dX11_train_43 (ct_X2_setTrains  h) (fun st_11 h => ?_)
      refine J_iload_n 0 dX11_train_46 rfl rfl ?_
      exact J_xreti rfl dX11_train_47 h
    · have h := h.2 hc
      exact J_lv [0, 1, 2] rfl (K_X11_train_15 hl0  a0 a1 a2  st_2 h)
/-! X11_onions -/
def P_X11_onions_16  (a0 : Nat) (a1 : Int32) (a2 : Int32)  (post : Int32 → St → Prop) (pex : String → St → Prop)  (st : St) : Prop := oC a0 11 ∧ P_X11_refuse  a0 1 st (fun z_1 st_2 => post z_1 st_2)
def P_X11_onions  (a0 : Nat) (a1 : Int32) (a2 : Int32) (st : St) (post : Int32 → St → Prop) (pex : String → St → Prop) : Prop := oC a0 11 ∧ P_X11_needPerson  a0 a1 st (fun st_2 => ((a2 < 1 → P_X11_onions_16  a0 a1 a2  post pex st_2) ∧ (¬ a2 < 1 → ((a2 ≤ 9 → ∃ r_3, rv st_2 a0 11 4 = some r_3 ∧ oC r_3 1 ∧ P_X1_keepAct  r_3 st_2 (fun st_5 => ∃ r_6, rv st_5 a0 11 7 = some r_6 ∧ ∃ r_7, rv st_5 a0 11 7 = some r_7 ∧ oC r_7 2 ∧ P_X2_onionsOf  r_7 a1 st_5 (fun z_8 st_9 => oC r_6 2 ∧ P_X2_setOnions  r_6 a1 (if ((z_8 + a2) : Int32) < 9 then (z_8 + a2) else 9) st_9 (fun st_11 => ∃ r_12, rv st_11 a0 11 7 = some r_12 ∧ oC r_12 2 ∧ P_X2_onionsOf  r_12 a1 st_11 (fun z_13 st_14 => post z_13 st_14))))) ∧ (¬ a2 ≤ 9 → P_X11_onions_16  a0 a1 a2  post pex st_2))))) pex
set_option maxRecDepth 100000 in
set_option maxHeartbeats 4000000 in
theorem K_X11_onions_16 {l : Launch} {E : En} (hl0 : l.stackTraces = false)  (a0 : Nat) (a1 : Int32) (a2 : Int32)  {post : Int32 → St → Prop} {pex : String → St → Prop}   (st : St) (h : P_X11_onions_16  a0 a1 a2  post pex  st) : Jg l E (CFc E) (Rm 7 1 6) cX11_onions 3 RX11 (some .int) XTn (QXI E post pex 1 6) 1 6 16 [(0, .ref a0), (1, .int a1), (2, .int a2)] [] st := by
  unfold P_X11_onions_16 at h
  refine J_aload_n 0 dX11_onions_16 rfl rfl ?_
  refine J_iconst 1 dX11_onions_17 (by decide) ?_
  obtain ⟨ho, h⟩ := h
  refine J_cvi (As := [_]) md_X11_refuse k_736 (rc_obj cl_11 ho) rfl rfl ⟨Nat.le_of_ble_eq_true rfl, Nat.le_of_ble_eq_true rfl⟩ ⟨Nat.le_of_ble_eq_true rfl, Nat.le_of_ble_eq_true rfl⟩ (Nat.le_of_ble_eq_true rfl) dX11_onions_18 (ct_X11_refuse  h) (fun z_1 st_2 h => ?_)
  exact J_xreti rfl dX11_onions_21 h
set_option maxRecDepth 100000 in
set_option maxHeartbeats 4000000 in
theorem ct_X11_onions {l : Launch} {E : En} (hl0 : l.stackTraces = false)  {a0 : Nat} {a1 : Int32} {a2 : Int32} {st : St} {post : Int32 → St → Prop} {pex : String → St → Prop} (h : P_X11_onions  a0 a1 a2 st post pex) : CtXI l E (CFc E) 7 1 6 yX11_onions cX11_onions 3 (some .int) [.ref a0, .int a1, .int a2] st post pex := by
  refine ctXI_of (by decide) (Nat.le_of_ble_eq_true rfl) ?_
  show Jg l E (CFc E) (Rm 7 1 6) cX11_onions 3 RX11 (some .int) XTn (QXI E post pex 1 6) 0 0 0 [(0, .ref a0), (1, .int a1), (2, .int a2)] [] st
  unfold P_X11_onions at h
  refine J_aload_n 0 dX11_onions_0 rfl rfl ?_
  refine J_iload_n 1 dX11_onions_1 rfl rfl ?_
  obtain ⟨ho, h⟩ := h
  refine J_xcvI (As := [_]) md_X11_needPerson k_772 (rc_obj cl_11 ho) rfl rfl ⟨Nat.le_of_ble_eq_true rfl, Nat.le_of_ble_eq_true rfl⟩ ⟨Nat.le_of_ble_eq_true rfl, Nat.le_of_ble_eq_true rfl⟩ (Nat.le_of_ble_eq_true rfl) dX11_onions_2 (ct_X11_needPerson hl0 h) (by decide) (by decide) (fun _ _ h => h) (fun st_2 h => ?_)
  refine J_iload_n 2 dX11_onions_5 rfl rfl ?_
  refine J_iconst 1 dX11_onions_6 (by decide) ?_
  refine J_icmp_lt 16 dX11_onions_7 (by decide) (fun hc => ?_) (fun hc => ?_)
  · have h := h.1 hc
    exact J_lv [0, 1, 2] rfl (K_X11_onions_16 hl0  a0 a1 a2  st_2 h)
  · have h := h.2 hc
    refine J_iload_n 2 dX11_onions_10 rfl rfl ?_
    refine J_bipush 9 dX11_onions_11 (by decide) ?_
    refine J_icmp_le 22 dX11_onions_13 (by decide) (fun hc => ?_) (fun hc => ?_)
    · have h := h.1 hc
      refine J_aload_n 0 dX11_onions_22 rfl rfl ?_
      obtain ⟨r_3, hf, h⟩ := h
      refine J_getR fl_RX11_25 dX11_onions_23 hf ?_
      obtain ⟨ho, h⟩ := h
      refine J_cvv (As := []) md_X1_keepAct k_796 (rc_obj cl_1 ho) rfl rfl ⟨Nat.le_of_ble_eq_true rfl, Nat.le_of_ble_eq_true rfl⟩ ⟨Nat.le_of_ble_eq_true rfl, Nat.le_of_ble_eq_true rfl⟩ (Nat.le_of_ble_eq_true rfl) dX11_onions_26 (ct_X1_keepAct  h) (fun st_5 h => ?_)
      refine J_aload_n 0 dX11_onions_29 rfl rfl ?_
      obtain ⟨r_6, hf, h⟩ := h
      refine J_getR fl_RX11_36 dX11_onions_30 hf ?_
      refine J_iload_n 1 dX11_onions_33 rfl rfl ?_
      refine J_bipush 9 dX11_onions_34 (by decide) ?_
      refine J_aload_n 0 dX11_onions_36 rfl rfl ?_
      obtain ⟨r_7, hf, h⟩ := h
      refine J_getR fl_RX11_36 dX11_onions_37 hf ?_
      refine J_iload_n 1 dX11_onions_40 rfl rfl ?_
      obtain ⟨ho, h⟩ := h
      refine J_cvi (As := [_]) md_X2_onionsOf k_777 (rc_obj cl_2 ho) rfl rfl ⟨Nat.le_of_ble_eq_true rfl, Nat.le_of_ble_eq_true rfl⟩ ⟨Nat.le_of_ble_eq_true rfl, Nat.le_of_ble_eq_true rfl⟩ (Nat.le_of_ble_eq_true rfl) dX11_onions_41 (ct_X2_onionsOf  h) (fun z_8 st_9 h => ?_)
      refine J_iload_n 2 dX11_onions_44 rfl rfl ?_
      refine J_iadd dX11_onions_45 ?_
      refine J_mmin k_803 k_162 k_158 k_163 ⟨Nat.le_of_ble_eq_true rfl, Nat.le_of_ble_eq_true rfl, Nat.le_of_ble_eq_true rfl, Nat.le_of_ble_eq_true rfl⟩ dX11_onions_46 ?_
      obtain ⟨ho, h⟩ := h
      refine J_cvv (As := [_, _]) md_X2_setOnions k_804 (rc_obj cl_2 ho) rfl rfl ⟨Nat.le_of_ble_eq_true rfl, Nat.le_of_ble_eq_true rfl⟩ ⟨Nat.le_of_ble_eq_true rfl, Nat.le_of_ble_eq_true rfl⟩ (Nat.le_of_ble_eq_true rfl) dX11_onions_49 (ct_X2_setOnions  h) (fun st_11 h => ?_)
      refine J_aload_n 0 dX11_onions_52 rfl rfl ?_
      obtain ⟨r_12, hf, h⟩ := h
      refine J_getR fl_RX11_36 dX11_onions_53 hf ?_
      refine J_iload_n 1 dX11_onions_56 rfl rfl ?_
      obtain ⟨ho, h⟩ := h
      refine J_cvi (As := [_]) md_X2_onionsOf k_777 (rc_obj cl_2 ho) rfl rfl ⟨Nat.le_of_ble_eq_true rfl, Nat.le_of_ble_eq_true rfl⟩ ⟨Nat.le_of_ble_eq_true rfl, Nat.le_of_ble_eq_true rfl⟩ (Nat.le_of_ble_eq_true rfl) dX11_onions_57 (ct_X2_onionsOf  h) (fun z_13 st_14 h => ?_)
      exact J_xreti rfl dX11_onions_60 h
    · have h := h.2 hc
      exact J_lv [0, 1, 2] rfl (K_X11_onions_16 hl0  a0 a1 a2  st_2 h)
/-! X11_putOff -/
def P_X11_putOff_34  (a0 : Nat) (a1 : Int32) (a2 : Int32)  (post : Int32 → St → Prop) (pex : String → St → Prop)  (st : St) : Prop := oC a0 11 ∧ P_X11_refuse  a0 1 st (fun z_1 st_2 => post z_1 st_2)
def P_X11_putOff  (a0 : Nat) (a1 : Int32) (a2 : Int32) (st : St) (post : Int32 → St → Prop) (pex : String → St → Prop) : Prop := oC a0 11 ∧ P_X11_needBride  a0 a1 st (fun st_2 => ∃ r_3, rv st_2 a0 11 7 = some r_3 ∧ oC r_3 2 ∧ P_X2_isHome  r_3 a1 st_2 (fun z_4 st_5 => ((z_4 = 0 → P_X11_putOff_34  a0 a1 a2  post pex st_5) ∧ (¬ z_4 = 0 → ∃ r_6, rv st_5 a0 11 7 = some r_6 ∧ oC r_6 2 ∧ P_X2_today  r_6 st_5 (fun z_7 st_8 => ((a2 < z_7 → P_X11_putOff_34  a0 a1 a2  post pex st_8) ∧ (¬ a2 < z_7 → ((a2 ≤ 999 → ∃ r_9, rv st_8 a0 11 4 = some r_9 ∧ oC r_9 1 ∧ P_X1_keepAct  r_9 st_8 (fun st_11 => ∃ r_12, rv st_11 a0 11 7 = some r_12 ∧ oC r_12 2 ∧ P_X2_weddingOf  r_12 a1 st_11 (fun z_13 st_14 => ∃ r_15, rv st_14 a0 11 7 = some r_15 ∧ oC r_15 2 ∧ P_X2_setWedding  r_15 a1 a2 st_14 (fun st_17 => post z_13 st_17)))) ∧ (¬ a2 ≤ 999 → P_X11_putOff_34  a0 a1 a2  post pex st_8))))))))) pex
set_option maxRecDepth 100000 in
set_option maxHeartbeats 4000000 in
theorem K_X11_putOff_34 {l : Launch} {E : En} (hl0 : l.stackTraces = false)  (a0 : Nat) (a1 : Int32) (a2 : Int32)  {post : Int32 → St → Prop} {pex : String → St → Prop}   (st : St) (h : P_X11_putOff_34  a0 a1 a2  post pex  st) : Jg l E (CFc E) (Rm 7 1 6) cX11_putOff 4 RX11 (some .int) XTn (QXI E post pex 1 6) 1 6 34 [(0, .ref a0), (1, .int a1), (2, .int a2)] [] st := by
  unfold P_X11_putOff_34 at h
  refine J_aload_n 0 dX11_putOff_34 rfl rfl ?_
  refine J_iconst 1 dX11_putOff_35 (by decide) ?_
  obtain ⟨ho, h⟩ := h
  refine J_cvi (As := [_]) md_X11_refuse k_736 (rc_obj cl_11 ho) rfl rfl ⟨Nat.le_of_ble_eq_true rfl, Nat.le_of_ble_eq_true rfl⟩ ⟨Nat.le_of_ble_eq_true rfl, Nat.le_of_ble_eq_true rfl⟩ (Nat.le_of_ble_eq_true rfl) dX11_putOff_36 (ct_X11_refuse  h) (fun z_1 st_2 h => ?_)
  exact J_xreti rfl dX11_putOff_39 h
set_option maxRecDepth 100000 in
set_option maxHeartbeats 4000000 in
theorem ct_X11_putOff {l : Launch} {E : En} (hl0 : l.stackTraces = false)  {a0 : Nat} {a1 : Int32} {a2 : Int32} {st : St} {post : Int32 → St → Prop} {pex : String → St → Prop} (h : P_X11_putOff  a0 a1 a2 st post pex) : CtXI l E (CFc E) 7 1 6 yX11_putOff cX11_putOff 4 (some .int) [.ref a0, .int a1, .int a2] st post pex := by
  refine ctXI_of (by decide) (Nat.le_of_ble_eq_true rfl) ?_
  show Jg l E (CFc E) (Rm 7 1 6) cX11_putOff 4 RX11 (some .int) XTn (QXI E post pex 1 6) 0 0 0 [(0, .ref a0), (1, .int a1), (2, .int a2)] [] st
  unfold P_X11_putOff at h
  refine J_aload_n 0 dX11_putOff_0 rfl rfl ?_
  refine J_iload_n 1 dX11_putOff_1 rfl rfl ?_
  obtain ⟨ho, h⟩ := h
  refine J_xcvI (As := [_]) md_X11_needBride k_782 (rc_obj cl_11 ho) rfl rfl ⟨Nat.le_of_ble_eq_true rfl, Nat.le_of_ble_eq_true rfl⟩ ⟨Nat.le_of_ble_eq_true rfl, Nat.le_of_ble_eq_true rfl⟩ (Nat.le_of_ble_eq_true rfl) dX11_putOff_2 (ct_X11_needBride hl0 h) (by decide) (by decide) (fun _ _ h => h) (fun st_2 h => ?_)
  refine J_aload_n 0 dX11_putOff_5 rfl rfl ?_
  obtain ⟨r_3, hf, h⟩ := h
  refine J_getR fl_RX11_36 dX11_putOff_6 hf ?_
  refine J_iload_n 1 dX11_putOff_9 rfl rfl ?_
  obtain ⟨ho, h⟩ := h
  refine J_cvi (As := [_]) md_X2_isHome k_786 (rc_obj cl_2 ho) rfl rfl ⟨Nat.le_of_ble_eq_true rfl, Nat.le_of_ble_eq_true rfl⟩ ⟨Nat.le_of_ble_eq_true rfl, Nat.le_of_ble_eq_true rfl⟩ (Nat.le_of_ble_eq_true rfl) dX11_putOff_10 (ct_X2_isHome  h) (fun z_4 st_5 h => ?_)
  refine J_if_eq 34 dX11_putOff_13 (by decide) (fun hc => ?_) (fun hc => ?_)
  · have h := h.1 hc
    exact J_lv [0, 1, 2] rfl (K_X11_putOff_34 hl0  a0 a1 a2  st_5 h)
  · have h := h.2 hc
    refine J_iload_n 2 dX11_putOff_16 rfl rfl ?_
    refine J_aload_n 0 dX11_putOff_17 rfl rfl ?_
    obtain ⟨r_6, hf, h⟩ := h
    refine J_getR fl_RX11_36 dX11_putOff_18 hf ?_
    obtain ⟨ho, h⟩ := h
    refine J_cvi (As := []) md_X2_today k_759 (rc_obj cl_2 ho) rfl rfl ⟨Nat.le_of_ble_eq_true rfl, Nat.le_of_ble_eq_true rfl⟩ ⟨Nat.le_of_ble_eq_true rfl, Nat.le_of_ble_eq_true rfl⟩ (Nat.le_of_ble_eq_true rfl) dX11_putOff_21 (ct_X2_today  h) (fun z_7 st_8 h => ?_)
    refine J_icmp_lt 34 dX11_putOff_24 (by decide) (fun hc => ?_) (fun hc => ?_)
    · have h := h.1 hc
      exact J_lv [0, 1, 2] rfl (K_X11_putOff_34 hl0  a0 a1 a2  st_8 h)
    · have h := h.2 hc
      refine J_iload_n 2 dX11_putOff_27 rfl rfl ?_
      refine J_sipush 999 dX11_putOff_28 (by decide) ?_
      refine J_icmp_le 40 dX11_putOff_31 (by decide) (fun hc => ?_) (fun hc => ?_)
      · have h := h.1 hc
        refine J_aload_n 0 dX11_putOff_40 rfl rfl ?_
        obtain ⟨r_9, hf, h⟩ := h
        refine J_getR fl_RX11_25 dX11_putOff_41 hf ?_
        obtain ⟨ho, h⟩ := h
        refine J_cvv (As := []) md_X1_keepAct k_796 (rc_obj cl_1 ho) rfl rfl ⟨Nat.le_of_ble_eq_true rfl, Nat.le_of_ble_eq_true rfl⟩ ⟨Nat.le_of_ble_eq_true rfl, Nat.le_of_ble_eq_true rfl⟩ (Nat.le_of_ble_eq_true rfl) dX11_putOff_44 (ct_X1_keepAct  h) (fun st_11 h => ?_)
        refine J_aload_n 0 dX11_putOff_47 rfl rfl ?_
        obtain ⟨r_12, hf, h⟩ := h
        refine J_getR fl_RX11_36 dX11_putOff_48 hf ?_
        refine J_iload_n 1 dX11_putOff_51 rfl rfl ?_
        obtain ⟨ho, h⟩ := h
        refine J_cvi (As := [_]) md_X2_weddingOf k_785 (rc_obj cl_2 ho) rfl rfl ⟨Nat.le_of_ble_eq_true rfl, Nat.le_of_ble_eq_true rfl⟩ ⟨Nat.le_of_ble_eq_true rfl, Nat.le_of_ble_eq_true rfl⟩ (Nat.le_of_ble_eq_true rfl) dX11_putOff_52 (ct_X2_weddingOf  h) (fun z_13 st_14 h => ?_)
        refine J_istore_n _ dX11_putOff_55 rfl (by decide) rfl ?_
        refine J_aload_n 1 dX11_putOff_56 rfl rfl ?_
        obtain ⟨r_15, hf, h⟩ := h
        refine J_getR fl_RX11_36 dX11_putOff_57 hf ?_
        refine J_iload_n 2 dX11_putOff_60 rfl rfl ?_
        refine J_iload_n 3 dX11_putOff_61 rfl rfl ?_
        obtain ⟨ho, h⟩ := h
        refine J_cvv (As := [_, _]) md_X2_setWedding k_806 (rc_obj cl_2 ho) rfl rfl ⟨Nat.le_of_ble_eq_true rfl, Nat.le_of_ble_eq_true rfl⟩ ⟨Nat.le_of_ble_eq_true rfl, Nat.le_of_ble_eq_true rfl⟩ (Nat.le_of_ble_eq_true rfl) dX11_putOff_62 (ct_X2_setWedding  h) (fun st_17 h => ?_)
        refine J_iload_n 0 dX11_putOff_65 rfl rfl ?_
        exact J_xreti rfl dX11_putOff_66 h
      · have h := h.2 hc
        exact J_lv [0, 1, 2] rfl (K_X11_putOff_34 hl0  a0 a1 a2  st_8 h)
/-! X11_tie -/
def P_X11_tie_21  (a0 : Nat) (a1 : Int32) (a2 : Int32) (a3 : Int32)  (post : Int32 → St → Prop) (pex : String → St → Prop)  (st : St) : Prop := oC a0 11 ∧ P_X11_refuse  a0 1 st (fun z_1 st_2 => post z_1 st_2)
def P_X11_tie  (a0 : Nat) (a1 : Int32) (a2 : Int32) (a3 : Int32) (st : St) (post : Int32 → St → Prop) (pex : String → St → Prop) : Prop := oC a0 11 ∧ P_X11_needPerson  a0 a1 st (fun st_2 => oC a0 11 ∧ P_X11_needBride  a0 a2 st_2 (fun st_4 => ((a3 < 1 → P_X11_tie_21  a0 a1 a2 a3  post pex st_4) ∧ (¬ a3 < 1 → ((a3 ≤ 40 → ∃ r_5, rv st_4 a0 11 4 = some r_5 ∧ oC r_5 1 ∧ P_X1_keepAct  r_5 st_4 (fun st_7 => ∃ r_8, rv st_7 a0 11 7 = some r_8 ∧ oC r_8 2 ∧ P_X2_yearsOf  r_8 a1 a2 st_7 (fun z_9 st_10 => ∃ r_11, rv st_10 a0 11 7 = some r_11 ∧ oC r_11 2 ∧ P_X2_setYears  r_11 a1 a2 a3 st_10 (fun st_13 => post z_9 st_13)))) ∧ (¬ a3 ≤ 40 → P_X11_tie_21  a0 a1 a2 a3  post pex st_4))))) pex) pex
set_option maxRecDepth 100000 in
set_option maxHeartbeats 4000000 in
theorem K_X11_tie_21 {l : Launch} {E : En} (hl0 : l.stackTraces = false)  (a0 : Nat) (a1 : Int32) (a2 : Int32) (a3 : Int32)  {post : Int32 → St → Prop} {pex : String → St → Prop}   (st : St) (h : P_X11_tie_21  a0 a1 a2 a3  post pex  st) : Jg l E (CFc E) (Rm 7 2 12) cX11_tie 5 RX11 (some .int) XTn (QXI E post pex 2 12) 2 12 21 [(0, .ref a0), (1, .int a1), (2, .int a2), (3, .int a3)] [] st := by
  unfold P_X11_tie_21 at h
  refine J_aload_n 0 dX11_tie_21 rfl rfl ?_
  refine J_iconst 1 dX11_tie_22 (by decide) ?_
  obtain ⟨ho, h⟩ := h
  refine J_cvi (As := [_]) md_X11_refuse k_736 (rc_obj cl_11 ho) rfl rfl ⟨Nat.le_of_ble_eq_true rfl, Nat.le_of_ble_eq_true rfl⟩ ⟨Nat.le_of_ble_eq_true rfl, Nat.le_of_ble_eq_true rfl⟩ (Nat.le_of_ble_eq_true rfl) dX11_tie_23 (ct_X11_refuse  h) (fun z_1 st_2 h => ?_)
  exact J_xreti rfl dX11_tie_26 h
set_option maxRecDepth 100000 in
set_option maxHeartbeats 4000000 in
theorem ct_X11_tie {l : Launch} {E : En} (hl0 : l.stackTraces = false)  {a0 : Nat} {a1 : Int32} {a2 : Int32} {a3 : Int32} {st : St} {post : Int32 → St → Prop} {pex : String → St → Prop} (h : P_X11_tie  a0 a1 a2 a3 st post pex) : CtXI l E (CFc E) 7 2 12 yX11_tie cX11_tie 5 (some .int) [.ref a0, .int a1, .int a2, .int a3] st post pex := by
  refine ctXI_of (by decide) (Nat.le_of_ble_eq_true rfl) ?_
  show Jg l E (CFc E) (Rm 7 2 12) cX11_tie 5 RX11 (some .int) XTn (QXI E post pex 2 12) 0 0 0 [(0, .ref a0), (1, .int a1), (2, .int a2), (3, .int a3)] [] st
  unfold P_X11_tie at h
  refine J_aload_n 0 dX11_tie_0 rfl rfl ?_
  refine J_iload_n 1 dX11_tie_1 rfl rfl ?_
  obtain ⟨ho, h⟩ := h
  refine J_xcvI (As := [_]) md_X11_needPerson k_772 (rc_obj cl_11 ho) rfl rfl ⟨Nat.le_of_ble_eq_true rfl, Nat.le_of_ble_eq_true rfl⟩ ⟨Nat.le_of_ble_eq_true rfl, Nat.le_of_ble_eq_true rfl⟩ (Nat.le_of_ble_eq_true rfl) dX11_tie_2 (ct_X11_needPerson hl0 h) (by decide) (by decide) (fun _ _ h => h) (fun st_2 h => ?_)
  refine J_aload_n 0 dX11_tie_5 rfl rfl ?_
  refine J_iload_n 2 dX11_tie_6 rfl rfl ?_
  obtain ⟨ho, h⟩ := h
  refine J_xcvI (As := [_]) md_X11_needBride k_782 (rc_obj cl_11 ho) rfl rfl ⟨Nat.le_of_ble_eq_true rfl, Nat.le_of_ble_eq_true rfl⟩ ⟨Nat.le_of_ble_eq_true rfl, Nat.le_of_ble_eq_true rfl⟩ (Nat.le_of_ble_eq_true rfl) dX11_tie_7 (ct_X11_needBride hl0 h) (by decide) (by decide) (fun _ _ h => h) (fun st_4 h => ?_)
  refine J_iload_n 3 dX11_tie_10 rfl rfl ?_
  refine J_iconst 1 dX11_tie_11 (by decide) ?_
  refine J_icmp_lt 21 dX11_tie_12 (by decide) (fun hc => ?_) (fun hc => ?_)
  · have h := h.1 hc
    exact J_lv [0, 1, 2, 3] rfl (K_X11_tie_21 hl0  a0 a1 a2 a3  st_4 h)
  · have h := h.2 hc
    refine J_iload_n 3 dX11_tie_15 rfl rfl ?_
    refine J_bipush 40 dX11_tie_16 (by decide) ?_
    refine J_icmp_le 27 dX11_tie_18 (by decide) (fun hc => ?_) (fun hc => ?_)
    · have h := h.1 hc
      refine J_aload_n 0 dX11_tie_27 rfl rfl ?_
      obtain ⟨r_5, hf, h⟩ := h
      refine J_getR fl_RX11_25 dX11_tie_28 hf ?_
      obtain ⟨ho, h⟩ := h
      refine J_cvv (As := []) md_X1_keepAct k_796 (rc_obj cl_1 ho) rfl rfl ⟨Nat.le_of_ble_eq_true rfl, Nat.le_of_ble_eq_true rfl⟩ ⟨Nat.le_of_ble_eq_true rfl, Nat.le_of_ble_eq_true rfl⟩ (Nat.le_of_ble_eq_true rfl) dX11_tie_31 (ct_X1_keepAct  h) (fun st_7 h => ?_)
      refine J_aload_n 0 dX11_tie_34 rfl rfl ?_
      obtain ⟨r_8, hf, h⟩ := h
      refine J_getR fl_RX11_36 dX11_tie_35 hf ?_
      refine J_iload_n 1 dX11_tie_38 rfl rfl ?_
      refine J_iload_n 2 dX11_tie_39 rfl rfl ?_
      obtain ⟨ho, h⟩ := h
      refine J_cvi (As := [_, _]) md_X2_yearsOf k_793 (rc_obj cl_2 ho) rfl rfl ⟨Nat.le_of_ble_eq_true rfl, Nat.le_of_ble_eq_true rfl⟩ ⟨Nat.le_of_ble_eq_true rfl, Nat.le_of_ble_eq_true rfl⟩ (Nat.le_of_ble_eq_true rfl) dX11_tie_40 (ct_X2_yearsOf  h) (fun z_9 st_10 h => ?_)
      refine J_istore _ dX11_tie_43 (by decide) rfl ?_
      refine J_aload_n 1 dX11_tie_45 rfl rfl ?_
      obtain ⟨r_11, hf, h⟩ := h
      refine J_getR fl_RX11_36 dX11_tie_46 hf ?_
      refine J_iload_n 2 dX11_tie_49 rfl rfl ?_
      refine J_iload_n 3 dX11_tie_50 rfl rfl ?_
      refine J_iload_n 4 dX11_tie_51 rfl rfl ?_
      obtain ⟨ho, h⟩ := h
      refine J_cvv (As := [_, _, _]) md_X2_setYears k_808 (rc_obj cl_2 ho) rfl rfl ⟨Nat.le_of_ble_eq_true rfl, Nat.le_of_ble_eq_true rfl⟩ ⟨Nat.le_of_ble_eq_true rfl, Nat.le_of_ble_eq_true rfl⟩ (Nat.le_of_ble_eq_true rfl) dX11_tie_52 (ct_X2_setYears  h) (fun st_13 h => ?_)
      refine J_iload 0 dX11_tie_55 rfl ?_
      exact J_xreti rfl dX11_tie_57 h
    · have h := h.2 hc
      exact J_lv [0, 1, 2, 3] rfl (K_X11_tie_21 hl0  a0 a1 a2 a3  st_4 h)
/-! X11_undo -/
def P_X11_undo  (a0 : Nat) (st : St) (post : Int32 → St → Prop) : Prop := ∃ r_1, rv st a0 11 4 = some r_1 ∧ oC r_1 1 ∧ P_X1_undoAct  r_1 st (fun z_2 st_3 => post z_2 st_3)
set_option maxRecDepth 100000 in
set_option maxHeartbeats 4000000 in
theorem ct_X11_undo {l : Launch} {E : En}  {a0 : Nat} {st : St} {post : Int32 → St → Prop} (h : P_X11_undo  a0 st post) : CtI l E (CFc E) 4 0 0 yX11_undo cX11_undo 1 (some .int) [.ref a0] st post := by
  refine ctI_of (by decide) (Nat.le_of_ble_eq_true rfl) ?_
  show Jg l E (CFc E) (Rm 4 0 0) cX11_undo 1 RX11 (some .int) (fun _ => True) (QI E post 0 0) 0 0 0 [(0, .ref a0)] [] st
  unfold P_X11_undo at h
  refine J_aload_n 0 dX11_undo_0 rfl rfl ?_
  obtain ⟨r_1, hf, h⟩ := h
  refine J_getR fl_RX11_25 dX11_undo_1 hf ?_
  obtain ⟨ho, h⟩ := h
  refine J_cvi (As := []) md_X1_undoAct k_810 (rc_obj cl_1 ho) rfl rfl ⟨Nat.le_of_ble_eq_true rfl, Nat.le_of_ble_eq_true rfl⟩ ⟨Nat.le_of_ble_eq_true rfl, Nat.le_of_ble_eq_true rfl⟩ (Nat.le_of_ble_eq_true rfl) dX11_undo_4 (ct_X1_undoAct  h) (fun z_2 st_3 h => ?_)
  exact J_reti rfl dX11_undo_7 h
/-! X11_steps -/
def P_X11_steps_17  (a0 : Nat) (a1 : Int32) (a2 : Int32)  (post : Int32 → St → Prop) (pex : String → St → Prop) : Nat → Int32 → Int32 → St → Prop
  | 0, _, _, _ => False
  | n9 + 1, x3, x4, st => ((9 ≤ x4 → post (-1) st) ∧ (¬ 9 ≤ x4 → ((¬ (((x3 : Int32) >>> ((a2 : Int32) &&& 31)) &&& 1) = 1 → ∃ r_1, rv st a0 11 7 = some r_1 ∧ oC r_1 2 ∧ P_X2_peopleBeside  r_1 x3 st (fun z_2 st_3 => P_X11_steps_17  a0 a1 a2  post pex n9 (x3 ||| z_2) (x4 + 1) st_3)) ∧ ((((x3 : Int32) >>> ((a2 : Int32) &&& 31)) &&& 1) = 1 → post x4 st))))
def P_X11_steps  (a0 : Nat) (a1 : Int32) (a2 : Int32) (st : St) (post : Int32 → St → Prop) (pex : String → St → Prop) : Prop := oC a0 11 ∧ P_X11_needPerson  a0 a1 st (fun st_2 => oC a0 11 ∧ P_X11_needPerson  a0 a2 st_2 (fun st_4 => ∃ n8, P_X11_steps_17  a0 a1 a2  post pex n8 ((1 : Int32) <<< ((a1 : Int32) &&& 31)) 0 st_4) pex) pex
set_option maxRecDepth 100000 in
set_option maxHeartbeats 4000000 in
theorem K_X11_steps_17 {l : Launch} {E : En} (hl0 : l.stackTraces = false)  (a0 : Nat) (a1 : Int32) (a2 : Int32)  {post : Int32 → St → Prop} {pex : String → St → Prop}  : ∀ (n9 : Nat) (x3 : Int32) (x4 : Int32) (st : St), P_X11_steps_17  a0 a1 a2  post pex n9 x3 x4 st → Jg l E (CFc E) (Rm 7 2 12) cX11_steps 5 RX11 (some .int) XTn (QXI E post pex 2 12) 2 12 17 [(0, .ref a0), (1, .int a1), (2, .int a2), (3, .int x3), (4, .int x4)] [] st := by
  intro n9
  induction n9 with
  | zero => intro x3 x4 st h; exact h.elim
  | succ n9 ih =>
    intro x3 x4 st h
    unfold P_X11_steps_17 at h
    refine J_iload 4 dX11_steps_17 rfl ?_
    refine J_bipush 9 dX11_steps_19 (by decide) ?_
    refine J_icmp_ge 53 dX11_steps_21 (by decide) (fun hc => ?_) (fun hc => ?_)
    · have h := h.1 hc
      refine J_iconst (-1) dX11_steps_53 (by decide) ?_
      exact J_xreti rfl dX11_steps_54 h
    · have h := h.2 hc
      refine J_iload_n 3 dX11_steps_24 rfl rfl ?_
      refine J_iload_n 2 dX11_steps_25 rfl rfl ?_
      refine J_ishr dX11_steps_26 ?_
      refine J_iconst 1 dX11_steps_27 (by decide) ?_
      refine J_iand dX11_steps_28 ?_
      refine J_iconst 1 dX11_steps_29 (by decide) ?_
      refine J_icmp_ne 36 dX11_steps_30 (by decide) (fun hc => ?_) (fun hc => ?_)
      · have h := h.1 hc
        refine J_iload_n 3 dX11_steps_36 rfl rfl ?_
        refine J_aload_n 0 dX11_steps_37 rfl rfl ?_
        obtain ⟨r_1, hf, h⟩ := h
        refine J_getR fl_RX11_36 dX11_steps_38 hf ?_
        refine J_iload_n 3 dX11_steps_41 rfl rfl ?_
        obtain ⟨ho, h⟩ := h
        refine J_cvi (As := [_]) md_X2_peopleBeside k_862 (rc_obj cl_2 ho) rfl rfl ⟨Nat.le_of_ble_eq_true rfl, Nat.le_of_ble_eq_true rfl⟩ ⟨Nat.le_of_ble_eq_true rfl, Nat.le_of_ble_eq_true rfl⟩ (Nat.le_of_ble_eq_true rfl) dX11_steps_42 (ct_X2_peopleBeside  h) (fun z_2 st_3 h => ?_)
        refine J_ior dX11_steps_45 ?_
        refine J_istore_n _ dX11_steps_46 rfl (by decide) rfl ?_
        refine J_iinc 4 (x4 + 1) _ dX11_steps_47 rfl (by rfl) (by decide) rfl ?_
        refine J_goto 17 dX11_steps_50 (by decide) ?_
        exact J_lv [2, 3, 4, 1, 0] rfl (ih (x3 ||| z_2) (x4 + 1) st_3 h)
      · have h := h.2 hc
        refine J_iload 4 dX11_steps_33 rfl ?_
        exact J_xreti rfl dX11_steps_35 h
set_option maxRecDepth 100000 in
set_option maxHeartbeats 4000000 in
theorem ct_X11_steps {l : Launch} {E : En} (hl0 : l.stackTraces = false)  {a0 : Nat} {a1 : Int32} {a2 : Int32} {st : St} {post : Int32 → St → Prop} {pex : String → St → Prop} (h : P_X11_steps  a0 a1 a2 st post pex) : CtXI l E (CFc E) 7 2 12 yX11_steps cX11_steps 5 (some .int) [.ref a0, .int a1, .int a2] st post pex := by
  refine ctXI_of (by decide) (Nat.le_of_ble_eq_true rfl) ?_
  show Jg l E (CFc E) (Rm 7 2 12) cX11_steps 5 RX11 (some .int) XTn (QXI E post pex 2 12) 0 0 0 [(0, .ref a0), (1, .int a1), (2, .int a2)] [] st
  unfold P_X11_steps at h
  refine J_aload_n 0 dX11_steps_0 rfl rfl ?_
  refine J_iload_n 1 dX11_steps_1 rfl rfl ?_
  obtain ⟨ho, h⟩ := h
  refine J_xcvI (As := [_]) md_X11_needPerson k_772 (rc_obj cl_11 ho) rfl rfl ⟨Nat.le_of_ble_eq_true rfl, Nat.le_of_ble_eq_true rfl⟩ ⟨Nat.le_of_ble_eq_true rfl, Nat.le_of_ble_eq_true rfl⟩ (Nat.le_of_ble_eq_true rfl) dX11_steps_2 (ct_X11_needPerson hl0 h) (by decide) (by decide) (fun _ _ h => h) (fun st_2 h => ?_)
  refine J_aload_n 0 dX11_steps_5 rfl rfl ?_
  refine J_iload_n 2 dX11_steps_6 rfl rfl ?_
  obtain ⟨ho, h⟩ := h
  refine J_xcvI (As := [_]) md_X11_needPerson k_772 (rc_obj cl_11 ho) rfl rfl ⟨Nat.le_of_ble_eq_true rfl, Nat.le_of_ble_eq_true rfl⟩ ⟨Nat.le_of_ble_eq_true rfl, Nat.le_of_ble_eq_true rfl⟩ (Nat.le_of_ble_eq_true rfl) dX11_steps_7 (ct_X11_needPerson hl0 h) (by decide) (by decide) (fun _ _ h => h) (fun st_4 h => ?_)
  refine J_iconst 1 dX11_steps_10 (by decide) ?_
  refine J_iload_n 1 dX11_steps_11 rfl rfl ?_
  refine J_ishl dX11_steps_12 ?_
  refine J_istore_n _ dX11_steps_13 rfl (by decide) rfl ?_
  refine J_iconst 0 dX11_steps_14 (by decide) ?_
  refine J_istore _ dX11_steps_15 (by decide) rfl ?_
  obtain ⟨n8, h⟩ := h
  exact J_lv [2, 3, 4, 1, 0] rfl (K_X11_steps_17 hl0  a0 a1 a2  n8 ((1 : Int32) <<< ((a1 : Int32) &&& 31)) 0 st_4 h)
/-! X11_crowd -/
def P_X11_crowd_105  (a0 : Nat) (a1 : Int32)  (post : Int32 → St → Prop) (pex : String → St → Prop) (s0 : Int32) (st : St) : Prop := post s0 st
def P_X11_crowd_90  (a0 : Nat) (a1 : Int32) (k13 : Int32 → Int32 → Int32 → St → Prop) (post : Int32 → St → Prop) (pex : String → St → Prop) (x2 : Int32) (x3 : Int32) (x4 : Int32) (st : St) : Prop := k13 x2 x3 (x4 + 1) st
def P_X11_crowd_84  (a0 : Nat) (a1 : Int32) (k13 : Int32 → Int32 → Int32 → St → Prop) (post : Int32 → St → Prop) (pex : String → St → Prop) (x4 : Int32) (x5 : Int32) (x6 : Int32) (st : St) : Prop := P_X11_crowd_90  a0 a1 k13 post pex x5 x6 x4 st
def P_X11_crowd_64  (a0 : Nat) (a1 : Int32) (k13 : Int32 → Int32 → Int32 → St → Prop) (post : Int32 → St → Prop) (pex : String → St → Prop) (x2 : Int32) (x3 : Int32) (x4 : Int32) (x5 : Int32) (s0 : Int32) (st : St) : Prop := ((x3 < s0 → P_X11_crowd_84  a0 a1 k13 post pex x4 x5 s0 st) ∧ (¬ x3 < s0 → ((¬ s0 = x3 → P_X11_crowd_90  a0 a1 k13 post pex x2 x3 x4 st) ∧ (s0 = x3 → ((x2 ≤ x5 → P_X11_crowd_90  a0 a1 k13 post pex x2 x3 x4 st) ∧ (¬ x2 ≤ x5 → P_X11_crowd_84  a0 a1 k13 post pex x4 x5 s0 st))))))
def P_X11_crowd_13  (a0 : Nat) (a1 : Int32)  (post : Int32 → St → Prop) (pex : String → St → Prop) : Nat → Int32 → Int32 → Int32 → St → Prop
  | 0, _, _, _, _ => False
  | n9 + 1, x2, x3, x4, st => ∃ r_1, rv st a0 11 7 = some r_1 ∧ ∃ r_2, rv st r_1 2 0 = some r_2 ∧ fk r_2 3 1 = some 0 ∧ (((gI st r_2 1) ≤ x4 → ((¬ a1 = 0 → P_X11_crowd_105  a0 a1  post pex x3 st) ∧ (a1 = 0 → P_X11_crowd_105  a0 a1  post pex x2 st))) ∧ (¬ (gI st r_2 1) ≤ x4 → ∃ r_3, rv st a0 11 7 = some r_3 ∧ oC r_3 2 ∧ P_X2_weddingOf  r_3 x4 st (fun z_4 st_5 => ∃ r_6, rv st_5 a0 11 7 = some r_6 ∧ oC r_6 2 ∧ P_X2_isHome  r_6 x4 st_5 (fun z_7 st_8 => ((z_7 = 0 → P_X11_crowd_64  a0 a1 (fun x2 x3 x4 st => P_X11_crowd_13  a0 a1  post pex n9 x2 x3 x4 st) post pex x2 x3 x4 z_4 0 st_8) ∧ (¬ z_7 = 0 → ∃ r_9, rv st_8 a0 11 7 = some r_9 ∧ oC r_9 2 ∧ P_X2_weddingsOn  r_9 z_4 st_8 (fun z_10 st_11 => P_X11_crowd_64  a0 a1 (fun x2 x3 x4 st => P_X11_crowd_13  a0 a1  post pex n9 x2 x3 x4 st) post pex x2 x3 x4 z_4 z_10 st_11)))))))
def P_X11_crowd  (a0 : Nat) (a1 : Int32) (st : St) (post : Int32 → St → Prop) (pex : String → St → Prop) : Prop := oC a0 11 ∧ P_X11_needWhat  a0 a1 1 st (fun st_2 => ∃ n8, P_X11_crowd_13  a0 a1  post pex n8 (-1) 0 0 st_2) pex
set_option maxRecDepth 100000 in
set_option maxHeartbeats 4000000 in
theorem K_X11_crowd_105 {l : Launch} {E : En} (hl0 : l.stackTraces = false)  (a0 : Nat) (a1 : Int32)  {post : Int32 → St → Prop} {pex : String → St → Prop}  (s0 : Int32) (st : St) (h : P_X11_crowd_105  a0 a1  post pex s0 st) : Jg l E (CFc E) (Rm 7 1 6) cX11_crowd 7 RX11 (some .int) XTn (QXI E post pex 1 6) 1 6 105 [(0, .ref a0), (1, .int a1)] [.int s0] st := by
  unfold P_X11_crowd_105 at h
  exact J_xreti rfl dX11_crowd_105 h
set_option maxRecDepth 100000 in
set_option maxHeartbeats 4000000 in
theorem K_X11_crowd_90 {l : Launch} {E : En} (hl0 : l.stackTraces = false)  (a0 : Nat) (a1 : Int32) {k13 : Int32 → Int32 → Int32 → St → Prop} {post : Int32 → St → Prop} {pex : String → St → Prop} (hk13 : ∀ (x2 : Int32) (x3 : Int32) (x4 : Int32) (st : St), k13 x2 x3 x4 st → Jg l E (CFc E) (Rm 7 1 6) cX11_crowd 7 RX11 (some .int) XTn (QXI E post pex 1 6) 1 6 13 [(0, .ref a0), (1, .int a1), (2, .int x2), (3, .int x3), (4, .int x4)] [] st) (x2 : Int32) (x3 : Int32) (x4 : Int32) (st : St) (h : P_X11_crowd_90  a0 a1 k13 post pex x2 x3 x4 st) : Jg l E (CFc E) (Rm 7 1 6) cX11_crowd 7 RX11 (some .int) XTn (QXI E post pex 1 6) 1 6 90 [(0, .ref a0), (1, .int a1), (2, .int x2), (3, .int x3), (4, .int x4)] [] st := by
  unfold P_X11_crowd_90 at h
  refine J_iinc 4 (x4 + 1) _ dX11_crowd_90 rfl (by rfl) (by decide) rfl ?_
  refine J_goto 13 dX11_crowd_93 (by decide) ?_
  exact J_lv [1, 2, 3, 4, 0] rfl (hk13 x2 x3 (x4 + 1) st h)
set_option maxRecDepth 100000 in
set_option maxHeartbeats 4000000 in
theorem K_X11_crowd_84 {l : Launch} {E : En} (hl0 : l.stackTraces = false)  (a0 : Nat) (a1 : Int32) {k13 : Int32 → Int32 → Int32 → St → Prop} {post : Int32 → St → Prop} {pex : String → St → Prop} (hk13 : ∀ (x2 : Int32) (x3 : Int32) (x4 : Int32) (st : St), k13 x2 x3 x4 st → Jg l E (CFc E) (Rm 7 1 6) cX11_crowd 7 RX11 (some .int) XTn (QXI E post pex 1 6) 1 6 13 [(0, .ref a0), (1, .int a1), (2, .int x2), (3, .int x3), (4, .int x4)] [] st) (x4 : Int32) (x5 : Int32) (x6 : Int32) (st : St) (h : P_X11_crowd_84  a0 a1 k13 post pex x4 x5 x6 st) : Jg l E (CFc E) (Rm 7 1 6) cX11_crowd 7 RX11 (some .int) XTn (QXI E post pex 1 6) 1 6 84 [(0, .ref a0), (1, .int a1), (4, .int x4), (5, .int x5), (6, .int x6)] [] st := by
  unfold P_X11_crowd_84 at h
  refine J_iload 4 dX11_crowd_84 rfl ?_
  refine J_istore_n _ dX11_crowd_86 rfl (by decide) rfl ?_
  refine J_iload 4 dX11_crowd_87 rfl ?_
  refine J_istore_n _ dX11_crowd_89 rfl (by decide) rfl ?_
  exact J_lv [2, 3, 0, 1, 4] rfl (K_X11_crowd_90 hl0  a0 a1 hk13 x5 x6 x4 st h)
set_option maxRecDepth 100000 in
set_option maxHeartbeats 4000000 in
theorem K_X11_crowd_64 {l : Launch} {E : En} (hl0 : l.stackTraces = false)  (a0 : Nat) (a1 : Int32) {k13 : Int32 → Int32 → Int32 → St → Prop} {post : Int32 → St → Prop} {pex : String → St → Prop} (hk13 : ∀ (x2 : Int32) (x3 : Int32) (x4 : Int32) (st : St), k13 x2 x3 x4 st → Jg l E (CFc E) (Rm 7 1 6) cX11_crowd 7 RX11 (some .int) XTn (QXI E post pex 1 6) 1 6 13 [(0, .ref a0), (1, .int a1), (2, .int x2), (3, .int x3), (4, .int x4)] [] st) (x2 : Int32) (x3 : Int32) (x4 : Int32) (x5 : Int32) (s0 : Int32) (st : St) (h : P_X11_crowd_64  a0 a1 k13 post pex x2 x3 x4 x5 s0 st) : Jg l E (CFc E) (Rm 7 1 6) cX11_crowd 7 RX11 (some .int) XTn (QXI E post pex 1 6) 1 6 64 [(0, .ref a0), (1, .int a1), (2, .int x2), (3, .int x3), (4, .int x4), (5, .int x5)] [.int s0] st := by
  unfold P_X11_crowd_64 at h
  refine J_istore _ dX11_crowd_64 (by decide) rfl ?_
  refine J_iload 0 dX11_crowd_66 rfl ?_
  refine J_iload_n 4 dX11_crowd_68 rfl rfl ?_
  refine J_icmp_gt 84 dX11_crowd_69 (by decide) (fun hc => ?_) (fun hc => ?_)
  · have h := h.1 hc
    exact J_lv [1, 2, 5, 6, 0] rfl (K_X11_crowd_84 hl0  a0 a1 hk13 x4 x5 s0 st h)
  · have h := h.2 hc
    refine J_iload 0 dX11_crowd_72 rfl ?_
    refine J_iload_n 4 dX11_crowd_74 rfl rfl ?_
    refine J_icmp_ne 90 dX11_crowd_75 (by decide) (fun hc => ?_) (fun hc => ?_)
    · have h := h.1 hc
      exact J_lv [1, 2, 3, 4, 5] rfl (K_X11_crowd_90 hl0  a0 a1 hk13 x2 x3 x4 st h)
    · have h := h.2 hc
      refine J_iload 6 dX11_crowd_78 rfl ?_
      refine J_iload_n 3 dX11_crowd_80 rfl rfl ?_
      refine J_icmp_ge 90 dX11_crowd_81 (by decide) (fun hc => ?_) (fun hc => ?_)
      · have h := h.1 hc
        exact J_lv [1, 2, 3, 4, 5] rfl (K_X11_crowd_90 hl0  a0 a1 hk13 x2 x3 x4 st h)
      · have h := h.2 hc
        exact J_lv [1, 2, 5, 6, 0] rfl (K_X11_crowd_84 hl0  a0 a1 hk13 x4 x5 s0 st h)
set_option maxRecDepth 100000 in
set_option maxHeartbeats 4000000 in
theorem K_X11_crowd_13 {l : Launch} {E : En} (hl0 : l.stackTraces = false)  (a0 : Nat) (a1 : Int32)  {post : Int32 → St → Prop} {pex : String → St → Prop}  : ∀ (n9 : Nat) (x2 : Int32) (x3 : Int32) (x4 : Int32) (st : St), P_X11_crowd_13  a0 a1  post pex n9 x2 x3 x4 st → Jg l E (CFc E) (Rm 7 1 6) cX11_crowd 7 RX11 (some .int) XTn (QXI E post pex 1 6) 1 6 13 [(0, .ref a0), (1, .int a1), (2, .int x2), (3, .int x3), (4, .int x4)] [] st := by
  intro n9
  induction n9 with
  | zero => intro x2 x3 x4 st h; exact h.elim
  | succ n9 ih =>
    intro x2 x3 x4 st h
    unfold P_X11_crowd_13 at h
    refine J_iload 4 dX11_crowd_13 rfl ?_
    refine J_aload_n 0 dX11_crowd_15 rfl rfl ?_
    obtain ⟨r_1, hf, h⟩ := h
    refine J_getR fl_RX11_36 dX11_crowd_16 hf ?_
    obtain ⟨r_2, hf, h⟩ := h
    refine J_getR fl_RX11_108 dX11_crowd_19 hf ?_
    obtain ⟨hf, h⟩ := h
    refine J_getI fl_RX11_137 dX11_crowd_22 hf ?_
    refine J_icmp_ge 96 dX11_crowd_25 (by decide) (fun hc => ?_) (fun hc => ?_)
    · have h := h.1 hc
      refine J_iload_n 1 dX11_crowd_96 rfl rfl ?_
      refine J_if_ne 104 dX11_crowd_97 (by decide) (fun hc => ?_) (fun hc => ?_)
      · have h := h.1 hc
        refine J_iload_n 3 dX11_crowd_104 rfl rfl ?_
        exact J_lv [0, 1] rfl (K_X11_crowd_105 hl0  a0 a1  x3 st h)
      · have h := h.2 hc
        refine J_iload_n 2 dX11_crowd_100 rfl rfl ?_
        refine J_goto 105 dX11_crowd_101 (by decide) ?_
        exact J_lv [0, 1] rfl (K_X11_crowd_105 hl0  a0 a1  x2 st h)
    · have h := h.2 hc
      refine J_aload_n 0 dX11_crowd_28 rfl rfl ?_
      obtain ⟨r_3, hf, h⟩ := h
      refine J_getR fl_RX11_36 dX11_crowd_29 hf ?_
      refine J_iload 4 dX11_crowd_32 rfl ?_
      obtain ⟨ho, h⟩ := h
      refine J_cvi (As := [_]) md_X2_weddingOf k_785 (rc_obj cl_2 ho) rfl rfl ⟨Nat.le_of_ble_eq_true rfl, Nat.le_of_ble_eq_true rfl⟩ ⟨Nat.le_of_ble_eq_true rfl, Nat.le_of_ble_eq_true rfl⟩ (Nat.le_of_ble_eq_true rfl) dX11_crowd_34 (ct_X2_weddingOf  h) (fun z_4 st_5 h => ?_)
      refine J_istore _ dX11_crowd_37 (by decide) rfl ?_
      refine J_aload_n 1 dX11_crowd_39 rfl rfl ?_
      obtain ⟨r_6, hf, h⟩ := h
      refine J_getR fl_RX11_36 dX11_crowd_40 hf ?_
      refine J_iload 5 dX11_crowd_43 rfl ?_
      obtain ⟨ho, h⟩ := h
      refine J_cvi (As := [_]) md_X2_isHome k_786 (rc_obj cl_2 ho) rfl rfl ⟨Nat.le_of_ble_eq_true rfl, Nat.le_of_ble_eq_true rfl⟩ ⟨Nat.le_of_ble_eq_true rfl, Nat.le_of_ble_eq_true rfl⟩ (Nat.le_of_ble_eq_true rfl) dX11_crowd_45 (ct_X2_isHome  h) (fun z_7 st_8 h => ?_)
      refine J_if_eq 63 dX11_crowd_48 (by decide) (fun hc => ?_) (fun hc => ?_)
      · have h := h.1 hc
        refine J_iconst 0 dX11_crowd_63 (by decide) ?_
        exact J_lv [1, 2, 3, 4, 5, 0] rfl (K_X11_crowd_64 hl0  a0 a1 (fun x2 x3 x4 st h => ih x2 x3 x4 st h) x2 x3 x4 z_4 0 st_8 h)
      · have h := h.2 hc
        refine J_aload_n 1 dX11_crowd_51 rfl rfl ?_
        obtain ⟨r_9, hf, h⟩ := h
        refine J_getR fl_RX11_36 dX11_crowd_52 hf ?_
        refine J_iload 0 dX11_crowd_55 rfl ?_
        obtain ⟨ho, h⟩ := h
        refine J_cvi (As := [_]) md_X2_weddingsOn k_866 (rc_obj cl_2 ho) rfl rfl ⟨Nat.le_of_ble_eq_true rfl, Nat.le_of_ble_eq_true rfl⟩ ⟨Nat.le_of_ble_eq_true rfl, Nat.le_of_ble_eq_true rfl⟩ (Nat.le_of_ble_eq_true rfl) dX11_crowd_57 (ct_X2_weddingsOn  h) (fun z_10 st_11 h => ?_)
        refine J_goto 64 dX11_crowd_60 (by decide) ?_
        exact J_lv [1, 2, 3, 4, 5, 0] rfl (K_X11_crowd_64 hl0  a0 a1 (fun x2 x3 x4 st h => ih x2 x3 x4 st h) x2 x3 x4 z_4 z_10 st_11 h)
set_option maxRecDepth 100000 in
set_option maxHeartbeats 4000000 in
theorem ct_X11_crowd {l : Launch} {E : En} (hl0 : l.stackTraces = false)  {a0 : Nat} {a1 : Int32} {st : St} {post : Int32 → St → Prop} {pex : String → St → Prop} (h : P_X11_crowd  a0 a1 st post pex) : CtXI l E (CFc E) 7 1 6 yX11_crowd cX11_crowd 7 (some .int) [.ref a0, .int a1] st post pex := by
  refine ctXI_of (by decide) (Nat.le_of_ble_eq_true rfl) ?_
  show Jg l E (CFc E) (Rm 7 1 6) cX11_crowd 7 RX11 (some .int) XTn (QXI E post pex 1 6) 0 0 0 [(0, .ref a0), (1, .int a1)] [] st
  unfold P_X11_crowd at h
  refine J_aload_n 0 dX11_crowd_0 rfl rfl ?_
  refine J_iload_n 1 dX11_crowd_1 rfl rfl ?_
  refine J_iconst 1 dX11_crowd_2 (by decide) ?_
  obtain ⟨ho, h⟩ := h
  refine J_xcvI (As := [_, _]) md_X11_needWhat k_753 (rc_obj cl_11 ho) rfl rfl ⟨Nat.le_of_ble_eq_true rfl, Nat.le_of_ble_eq_true rfl⟩ ⟨Nat.le_of_ble_eq_true rfl, Nat.le_of_ble_eq_true rfl⟩ (Nat.le_of_ble_eq_true rfl) dX11_crowd_3 (ct_X11_needWhat hl0 h) (by decide) (by decide) (fun _ _ h => h) (fun st_2 h => ?_)
  refine J_iconst (-1) dX11_crowd_6 (by decide) ?_
  refine J_istore_n _ dX11_crowd_7 rfl (by decide) rfl ?_
  refine J_iconst 0 dX11_crowd_8 (by decide) ?_
  refine J_istore_n _ dX11_crowd_9 rfl (by decide) rfl ?_
  refine J_iconst 0 dX11_crowd_10 (by decide) ?_
  refine J_istore _ dX11_crowd_11 (by decide) rfl ?_
  obtain ⟨n8, h⟩ := h
  exact J_lv [3, 4, 2, 1, 0] rfl (K_X11_crowd_13 hl0  a0 a1  n8 (-1) 0 0 st_2 h)
/-! X11_common -/
def P_X11_common  (a0 : Nat) (a1 : Int32) (a2 : Int32) (st : St) (post : Int32 → St → Prop) (pex : String → St → Prop) : Prop := oC a0 11 ∧ P_X11_needPerson  a0 a1 st (fun st_2 => oC a0 11 ∧ P_X11_needPerson  a0 a2 st_2 (fun st_4 => ∃ r_5, rv st_4 a0 11 7 = some r_5 ∧ oC r_5 2 ∧ P_X2_bridesTiedTo  r_5 a1 st_4 (fun z_6 st_7 => ∃ r_8, rv st_7 a0 11 7 = some r_8 ∧ oC r_8 2 ∧ P_X2_bridesTiedTo  r_8 a2 st_7 (fun z_9 st_10 => post (z_6 &&& z_9) st_10))) pex) pex
set_option maxRecDepth 100000 in
set_option maxHeartbeats 4000000 in
theorem ct_X11_common {l : Launch} {E : En} (hl0 : l.stackTraces = false)  {a0 : Nat} {a1 : Int32} {a2 : Int32} {st : St} {post : Int32 → St → Prop} {pex : String → St → Prop} (h : P_X11_common  a0 a1 a2 st post pex) : CtXI l E (CFc E) 7 2 12 yX11_common cX11_common 3 (some .int) [.ref a0, .int a1, .int a2] st post pex := by
  refine ctXI_of (by decide) (Nat.le_of_ble_eq_true rfl) ?_
  show Jg l E (CFc E) (Rm 7 2 12) cX11_common 3 RX11 (some .int) XTn (QXI E post pex 2 12) 0 0 0 [(0, .ref a0), (1, .int a1), (2, .int a2)] [] st
  unfold P_X11_common at h
  refine J_aload_n 0 dX11_common_0 rfl rfl ?_
  refine J_iload_n 1 dX11_common_1 rfl rfl ?_
  obtain ⟨ho, h⟩ := h
  refine J_xcvI (As := [_]) md_X11_needPerson k_772 (rc_obj cl_11 ho) rfl rfl ⟨Nat.le_of_ble_eq_true rfl, Nat.le_of_ble_eq_true rfl⟩ ⟨Nat.le_of_ble_eq_true rfl, Nat.le_of_ble_eq_true rfl⟩ (Nat.le_of_ble_eq_true rfl) dX11_common_2 (ct_X11_needPerson hl0 h) (by decide) (by decide) (fun _ _ h => h) (fun st_2 h => ?_)
  refine J_aload_n 0 dX11_common_5 rfl rfl ?_
  refine J_iload_n 2 dX11_common_6 rfl rfl ?_
  obtain ⟨ho, h⟩ := h
  refine J_xcvI (As := [_]) md_X11_needPerson k_772 (rc_obj cl_11 ho) rfl rfl ⟨Nat.le_of_ble_eq_true rfl, Nat.le_of_ble_eq_true rfl⟩ ⟨Nat.le_of_ble_eq_true rfl, Nat.le_of_ble_eq_true rfl⟩ (Nat.le_of_ble_eq_true rfl) dX11_common_7 (ct_X11_needPerson hl0 h) (by decide) (by decide) (fun _ _ h => h) (fun st_4 h => ?_)
  refine J_aload_n 0 dX11_common_10 rfl rfl ?_
  obtain ⟨r_5, hf, h⟩ := h
  refine J_getR fl_RX11_36 dX11_common_11 hf ?_
  refine J_iload_n 1 dX11_common_14 rfl rfl ?_
  obtain ⟨ho, h⟩ := h
  refine J_cvi (As := [_]) md_X2_bridesTiedTo k_779 (rc_obj cl_2 ho) rfl rfl ⟨Nat.le_of_ble_eq_true rfl, Nat.le_of_ble_eq_true rfl⟩ ⟨Nat.le_of_ble_eq_true rfl, Nat.le_of_ble_eq_true rfl⟩ (Nat.le_of_ble_eq_true rfl) dX11_common_15 (ct_X2_bridesTiedTo  h) (fun z_6 st_7 h => ?_)
  refine J_aload_n 0 dX11_common_18 rfl rfl ?_
  obtain ⟨r_8, hf, h⟩ := h
  refine J_getR fl_RX11_36 dX11_common_19 hf ?_
  refine J_iload_n 2 dX11_common_22 rfl rfl ?_
  obtain ⟨ho, h⟩ := h
  refine J_cvi (As := [_]) md_X2_bridesTiedTo k_779 (rc_obj cl_2 ho) rfl rfl ⟨Nat.le_of_ble_eq_true rfl, Nat.le_of_ble_eq_true rfl⟩ ⟨Nat.le_of_ble_eq_true rfl, Nat.le_of_ble_eq_true rfl⟩ (Nat.le_of_ble_eq_true rfl) dX11_common_23 (ct_X2_bridesTiedTo  h) (fun z_9 st_10 h => ?_)
  refine J_iand dX11_common_26 ?_
  exact J_xreti rfl dX11_common_27 h
/-! X11_see -/
def P_X11_see_47  (a0 : Nat) (a1 : Int32) (a2 : Int32) (a3 : Int32) (a4 : Int32) (a5 : Int32)  (post : Int32 → St → Prop) (pex : String → St → Prop)  (st : St) : Prop := oC a0 11 ∧ P_X11_refuse  a0 2 st (fun z_1 st_2 => post z_1 st_2)
def P_X11_see  (a0 : Nat) (a1 : Int32) (a2 : Int32) (a3 : Int32) (a4 : Int32) (a5 : Int32) (st : St) (post : Int32 → St → Prop) (pex : String → St → Prop) : Prop := oC a0 11 ∧ P_X11_needBride  a0 a1 st (fun st_2 => oC a0 11 ∧ P_X11_needPerson  a0 a3 st_2 (fun st_4 => oC a0 11 ∧ P_X11_needPerson  a0 a4 st_4 (fun st_6 => ∃ r_7, rv st_6 a0 11 4 = some r_7 ∧ ∃ r_8, rv st_6 r_7 1 2 = some r_8 ∧ fk r_8 7 5 = some 0 ∧ ((8 ≤ (gI st_6 r_8 5) → P_X11_see_47  a0 a1 a2 a3 a4 a5  post pex st_6) ∧ (¬ 8 ≤ (gI st_6 r_8 5) → ((a2 < 0 → P_X11_see_47  a0 a1 a2 a3 a4 a5  post pex st_6) ∧ (¬ a2 < 0 → ((20 < a2 → P_X11_see_47  a0 a1 a2 a3 a4 a5  post pex st_6) ∧ (¬ 20 < a2 → ((¬ a3 = a4 → ∃ r_9, rv st_6 a0 11 4 = some r_9 ∧ ∃ r_10, rv st_6 r_9 1 2 = some r_10 ∧ oC r_10 7 ∧ P_X7_add  r_10 a1 a2 a3 a4 a5 st_6 (fun st_12 => ∃ r_13, rv st_12 a0 11 4 = some r_13 ∧ ∃ r_14, rv st_12 r_13 1 2 = some r_14 ∧ fk r_14 7 5 = some 0 ∧ post (gI st_12 r_14 5) st_12)) ∧ (a3 = a4 → P_X11_see_47  a0 a1 a2 a3 a4 a5  post pex st_6))))))))) pex) pex) pex
set_option maxRecDepth 100000 in
set_option maxHeartbeats 4000000 in
theorem K_X11_see_47 {l : Launch} {E : En} (hl0 : l.stackTraces = false)  (a0 : Nat) (a1 : Int32) (a2 : Int32) (a3 : Int32) (a4 : Int32) (a5 : Int32)  {post : Int32 → St → Prop} {pex : String → St → Prop}   (st : St) (h : P_X11_see_47  a0 a1 a2 a3 a4 a5  post pex  st) : Jg l E (CFc E) (Rm 7 3 18) cX11_see 6 RX11 (some .int) XTn (QXI E post pex 3 18) 3 18 47 [(0, .ref a0), (1, .int a1), (2, .int a2), (3, .int a3), (4, .int a4), (5, .int a5)] [] st := by
  unfold P_X11_see_47 at h
  refine J_aload_n 0 dX11_see_47 rfl rfl ?_
  refine J_iconst 2 dX11_see_48 (by decide) ?_
  obtain ⟨ho, h⟩ := h
  refine J_cvi (As := [_]) md_X11_refuse k_736 (rc_obj cl_11 ho) rfl rfl ⟨Nat.le_of_ble_eq_true rfl, Nat.le_of_ble_eq_true rfl⟩ ⟨Nat.le_of_ble_eq_true rfl, Nat.le_of_ble_eq_true rfl⟩ (Nat.le_of_ble_eq_true rfl) dX11_see_49 (ct_X11_refuse  h) (fun z_1 st_2 h => ?_)
  exact J_xreti rfl dX11_see_52 h
set_option maxRecDepth 100000 in
set_option maxHeartbeats 4000000 in
theorem ct_X11_see {l : Launch} {E : En} (hl0 : l.stackTraces = false)  {a0 : Nat} {a1 : Int32} {a2 : Int32} {a3 : Int32} {a4 : Int32} {a5 : Int32} {st : St} {post : Int32 → St → Prop} {pex : String → St → Prop} (h : P_X11_see  a0 a1 a2 a3 a4 a5 st post pex) : CtXI l E (CFc E) 7 3 18 yX11_see cX11_see 6 (some .int) [.ref a0, .int a1, .int a2, .int a3, .int a4, .int a5] st post pex := by
  refine ctXI_of (by decide) (Nat.le_of_ble_eq_true rfl) ?_
  show Jg l E (CFc E) (Rm 7 3 18) cX11_see 6 RX11 (some .int) XTn (QXI E post pex 3 18) 0 0 0 [(0, .ref a0), (1, .int a1), (2, .int a2), (3, .int a3), (4, .int a4), (5, .int a5)] [] st
  unfold P_X11_see at h
  refine J_aload_n 0 dX11_see_0 rfl rfl ?_
  refine J_iload_n 1 dX11_see_1 rfl rfl ?_
  obtain ⟨ho, h⟩ := h
  refine J_xcvI (As := [_]) md_X11_needBride k_782 (rc_obj cl_11 ho) rfl rfl ⟨Nat.le_of_ble_eq_true rfl, Nat.le_of_ble_eq_true rfl⟩ ⟨Nat.le_of_ble_eq_true rfl, Nat.le_of_ble_eq_true rfl⟩ (Nat.le_of_ble_eq_true rfl) dX11_see_2 (ct_X11_needBride hl0 h) (by decide) (by decide) (fun _ _ h => h) (fun st_2 h => ?_)
  refine J_aload_n 0 dX11_see_5 rfl rfl ?_
  refine J_iload_n 3 dX11_see_6 rfl rfl ?_
  obtain ⟨ho, h⟩ := h
  refine J_xcvI (As := [_]) md_X11_needPerson k_772 (rc_obj cl_11 ho) rfl rfl ⟨Nat.le_of_ble_eq_true rfl, Nat.le_of_ble_eq_true rfl⟩ ⟨Nat.le_of_ble_eq_true rfl, Nat.le_of_ble_eq_true rfl⟩ (Nat.le_of_ble_eq_true rfl) dX11_see_7 (ct_X11_needPerson hl0 h) (by decide) (by decide) (fun _ _ h => h) (fun st_4 h => ?_)
  refine J_aload_n 0 dX11_see_10 rfl rfl ?_
  refine J_iload 4 dX11_see_11 rfl ?_
  obtain ⟨ho, h⟩ := h
  refine J_xcvI (As := [_]) md_X11_needPerson k_772 (rc_obj cl_11 ho) rfl rfl ⟨Nat.le_of_ble_eq_true rfl, Nat.le_of_ble_eq_true rfl⟩ ⟨Nat.le_of_ble_eq_true rfl, Nat.le_of_ble_eq_true rfl⟩ (Nat.le_of_ble_eq_true rfl) dX11_see_13 (ct_X11_needPerson hl0 h) (by decide) (by decide) (fun _ _ h => h) (fun st_6 h => ?_)
  refine J_aload_n 0 dX11_see_16 rfl rfl ?_
  obtain ⟨r_7, hf, h⟩ := h
  refine J_getR fl_RX11_25 dX11_see_17 hf ?_
  obtain ⟨r_8, hf, h⟩ := h
  refine J_getR fl_RX11_56 dX11_see_20 hf ?_
  obtain ⟨hf, h⟩ := h
  refine J_getI fl_RX11_158 dX11_see_23 hf ?_
  refine J_bipush 8 dX11_see_26 (by decide) ?_
  refine J_icmp_ge 47 dX11_see_28 (by decide) (fun hc => ?_) (fun hc => ?_)
  · have h := h.1 hc
    exact J_lv [0, 1, 2, 3, 4, 5] rfl (K_X11_see_47 hl0  a0 a1 a2 a3 a4 a5  st_6 h)
  · have h := h.2 hc
    refine J_iload_n 2 dX11_see_31 rfl rfl ?_
    refine J_if_lt 47 dX11_see_32 (by decide) (fun hc => ?_) (fun hc => ?_)
    · have h := h.1 hc
      exact J_lv [0, 1, 2, 3, 4, 5] rfl (K_X11_see_47 hl0  a0 a1 a2 a3 a4 a5  st_6 h)
    · have h := h.2 hc
      refine J_iload_n 2 dX11_see_35 rfl rfl ?_
      refine J_bipush 20 dX11_see_36 (by decide) ?_
      refine J_icmp_gt 47 dX11_see_38 (by decide) (fun hc => ?_) (fun hc => ?_)
      · have h := h.1 hc
        exact J_lv [0, 1, 2, 3, 4, 5] rfl (K_X11_see_47 hl0  a0 a1 a2 a3 a4 a5  st_6 h)
      · have h := h.2 hc
        refine J_iload_n 3 dX11_see_41 rfl rfl ?_
        refine J_iload 4 dX11_see_42 rfl ?_
        refine J_icmp_ne 53 dX11_see_44 (by decide) (fun hc => ?_) (fun hc => ?_)
        · have h := h.1 hc
          refine J_aload_n 0 dX11_see_53 rfl rfl ?_
          obtain ⟨r_9, hf, h⟩ := h
          refine J_getR fl_RX11_25 dX11_see_54 hf ?_
          obtain ⟨r_10, hf, h⟩ := h
          refine J_getR fl_RX11_56 dX11_see_57 hf ?_
          refine J_iload_n 1 dX11_see_60 rfl rfl ?_
          refine J_iload_n 2 dX11_see_61 rfl rfl ?_
          refine J_iload_n 3 dX11_see_62 rfl rfl ?_
          refine J_iload 4 dX11_see_63 rfl ?_
          refine J_iload 5 dX11_see_65 rfl ?_
          obtain ⟨ho, h⟩ := h
          refine J_cvv (As := [_, _, _, _, _]) md_X7_add k_871 (rc_obj cl_7 ho) rfl rfl ⟨Nat.le_of_ble_eq_true rfl, Nat.le_of_ble_eq_true rfl⟩ ⟨Nat.le_of_ble_eq_true rfl, Nat.le_of_ble_eq_true rfl⟩ (Nat.le_of_ble_eq_true rfl) dX11_see_67 (ct_X7_add  h) (fun st_12 h => ?_)
          refine J_aload_n 0 dX11_see_70 rfl rfl ?_
          obtain ⟨r_13, hf, h⟩ := h
          refine J_getR fl_RX11_25 dX11_see_71 hf ?_
          obtain ⟨r_14, hf, h⟩ := h
          refine J_getR fl_RX11_56 dX11_see_74 hf ?_
          obtain ⟨hf, h⟩ := h
          refine J_getI fl_RX11_158 dX11_see_77 hf ?_
          exact J_xreti rfl dX11_see_80 h
        · have h := h.2 hc
          exact J_lv [0, 1, 2, 3, 4, 5] rfl (K_X11_see_47 hl0  a0 a1 a2 a3 a4 a5  st_6 h)
/-! X11_image -/
def P_X11_image  (a0 : Nat) (st : St) (post : St → Prop) : Prop := ∃ r_1, rv st a0 11 5 = some r_1 ∧ ∃ r_2, rv st a0 11 4 = some r_2 ∧ oC r_1 1 ∧ P_X1_copyFrom  r_1 r_2 st (fun st_4 => fk a0 11 6 = some 0 ∧ post (sI st_4 a0 6 1))
set_option maxRecDepth 100000 in
set_option maxHeartbeats 4000000 in
theorem ct_X11_image {l : Launch} {E : En}  {a0 : Nat} {st : St} {post : St → Prop} (h : P_X11_image  a0 st post) : CtV l E (CFc E) 4 0 0 yX11_image cX11_image 1 none [.ref a0] st post := by
  refine ctV_of (by decide) (Nat.le_of_ble_eq_true rfl) ?_
  show Jg l E (CFc E) (Rm 4 0 0) cX11_image 1 RX11 none (fun _ => True) (QV E post 0 0) 0 0 0 [(0, .ref a0)] [] st
  unfold P_X11_image at h
  refine J_aload_n 0 dX11_image_0 rfl rfl ?_
  obtain ⟨r_1, hf, h⟩ := h
  refine J_getR fl_RX11_29 dX11_image_1 hf ?_
  refine J_aload_n 0 dX11_image_4 rfl rfl ?_
  obtain ⟨r_2, hf, h⟩ := h
  refine J_getR fl_RX11_25 dX11_image_5 hf ?_
  obtain ⟨ho, h⟩ := h
  refine J_cvv (As := [_]) md_X1_copyFrom k_907 (rc_obj cl_1 ho) rfl rfl ⟨Nat.le_of_ble_eq_true rfl, Nat.le_of_ble_eq_true rfl⟩ ⟨Nat.le_of_ble_eq_true rfl, Nat.le_of_ble_eq_true rfl⟩ (Nat.le_of_ble_eq_true rfl) dX11_image_8 (ct_X1_copyFrom  h) (fun st_4 h => ?_)
  refine J_aload_n 0 dX11_image_11 rfl rfl ?_
  refine J_iconst 1 dX11_image_12 (by decide) ?_
  obtain ⟨hf, h⟩ := h
  refine J_putZ fp_RX11_126 dX11_image_13 rfl (Or.inr rfl) hf ?_
  exact J_retv rfl dX11_image_16 h
/-! X11_restore -/
def P_X11_restore  (a0 : Nat) (st : St) (post : Int32 → St → Prop) : Prop := fk a0 11 6 = some 0 ∧ ((¬ (gI st a0 6) = 0 → ∃ r_1, rv st a0 11 4 = some r_1 ∧ ∃ r_2, rv st a0 11 5 = some r_2 ∧ oC r_1 1 ∧ P_X1_copyFrom  r_1 r_2 st (fun st_4 => post 1 st_4)) ∧ ((gI st a0 6) = 0 → post 0 st))
set_option maxRecDepth 100000 in
set_option maxHeartbeats 4000000 in
theorem ct_X11_restore {l : Launch} {E : En}  {a0 : Nat} {st : St} {post : Int32 → St → Prop} (h : P_X11_restore  a0 st post) : CtI l E (CFc E) 4 0 0 yX11_restore cX11_restore 1 (some .boolean) [.ref a0] st post := by
  refine ctI_of (by decide) (Nat.le_of_ble_eq_true rfl) ?_
  show Jg l E (CFc E) (Rm 4 0 0) cX11_restore 1 RX11 (some .boolean) (fun _ => True) (QI E post 0 0) 0 0 0 [(0, .ref a0)] [] st
  unfold P_X11_restore at h
  refine J_aload_n 0 dX11_restore_0 rfl rfl ?_
  obtain ⟨hf, h⟩ := h
  refine J_getI fl_RX11_126 dX11_restore_1 hf ?_
  refine J_if_ne 9 dX11_restore_4 (by decide) (fun hc => ?_) (fun hc => ?_)
  · have h := h.1 hc
    refine J_aload_n 0 dX11_restore_9 rfl rfl ?_
    obtain ⟨r_1, hf, h⟩ := h
    refine J_getR fl_RX11_25 dX11_restore_10 hf ?_
    refine J_aload_n 0 dX11_restore_13 rfl rfl ?_
    obtain ⟨r_2, hf, h⟩ := h
    refine J_getR fl_RX11_29 dX11_restore_14 hf ?_
    obtain ⟨ho, h⟩ := h
    refine J_cvv (As := [_]) md_X1_copyFrom k_907 (rc_obj cl_1 ho) rfl rfl ⟨Nat.le_of_ble_eq_true rfl, Nat.le_of_ble_eq_true rfl⟩ ⟨Nat.le_of_ble_eq_true rfl, Nat.le_of_ble_eq_true rfl⟩ (Nat.le_of_ble_eq_true rfl) dX11_restore_17 (ct_X1_copyFrom  h) (fun st_4 h => ?_)
    refine J_iconst 1 dX11_restore_20 (by decide) ?_
    exact J_retz rfl (Or.inr rfl) dX11_restore_21 h
  · have h := h.2 hc
    refine J_iconst 0 dX11_restore_7 (by decide) ?_
    exact J_retz rfl (Or.inl rfl) dX11_restore_8 h
/-! X11_bride -/
def P_X11_bride_73  (a0 : Nat) (a1 : Int32) (a2 : Int32)  (post : Int32 → St → Prop) (pex : String → St → Prop) (s0 : Int32) (st : St) : Prop := post s0 st
def P_X11_bride  (a0 : Nat) (a1 : Int32) (a2 : Int32) (st : St) (post : Int32 → St → Prop) (pex : String → St → Prop) : Prop := oC a0 11 ∧ P_X11_needBride  a0 a1 st (fun st_2 => oC a0 11 ∧ P_X11_needWhat  a0 a2 5 st_2 (fun st_4 => ((((a2 : Int32).toInt < 0 ∨ 4 < (a2 : Int32).toInt) → ∃ r_5, rv st_4 a0 11 7 = some r_5 ∧ oC r_5 2 ∧ P_X2_rivalsFor  r_5 a1 st_4 (fun z_6 st_7 => post z_6 st_7)) ∧ ((a2 : Int32).toInt = 0 → ∃ r_8, rv st_4 a0 11 7 = some r_8 ∧ oC r_8 2 ∧ P_X2_weddingOf  r_8 a1 st_4 (fun z_9 st_10 => post z_9 st_10)) ∧ ((a2 : Int32).toInt = 1 → ∃ r_11, rv st_4 a0 11 7 = some r_11 ∧ oC r_11 2 ∧ P_X2_isHome  r_11 a1 st_4 (fun z_12 st_13 => ((z_12 = 0 → P_X11_bride_73  a0 a1 a2  post pex 0 st_13) ∧ (¬ z_12 = 0 → P_X11_bride_73  a0 a1 a2  post pex 1 st_13)))) ∧ ((a2 : Int32).toInt = 2 → ∃ r_14, rv st_4 a0 11 7 = some r_14 ∧ oC r_14 2 ∧ P_X2_whoLed  r_14 a1 st_4 (fun z_15 st_16 => post z_15 st_16)) ∧ ((a2 : Int32).toInt = 3 → ∃ r_17, rv st_4 a0 11 7 = some r_17 ∧ oC r_17 2 ∧ P_X2_peopleTiedTo  r_17 a1 st_4 (fun z_18 st_19 => post z_18 st_19)) ∧ ((a2 : Int32).toInt = 4 → ∃ r_20, rv st_4 a0 11 7 = some r_20 ∧ oC r_20 2 ∧ P_X2_heaviestFor  r_20 a1 st_4 (fun z_21 st_22 => post z_21 st_22)) ∧ True)) pex) pex
set_option maxRecDepth 100000 in
set_option maxHeartbeats 4000000 in
theorem K_X11_bride_73 {l : Launch} {E : En} (hl0 : l.stackTraces = false)  (a0 : Nat) (a1 : Int32) (a2 : Int32)  {post : Int32 → St → Prop} {pex : String → St → Prop}  (s0 : Int32) (st : St) (h : P_X11_bride_73  a0 a1 a2  post pex s0 st) : Jg l E (CFc E) (Rm 7 2 12) cX11_bride 3 RX11 (some .int) XTn (QXI E post pex 2 12) 2 12 73 [(0, .ref a0), (1, .int a1), (2, .int a2)] [.int s0] st := by
  unfold P_X11_bride_73 at h
  exact J_xreti rfl dX11_bride_73 h
set_option maxRecDepth 100000 in
set_option maxHeartbeats 4000000 in
theorem ct_X11_bride {l : Launch} {E : En} (hl0 : l.stackTraces = false)  {a0 : Nat} {a1 : Int32} {a2 : Int32} {st : St} {post : Int32 → St → Prop} {pex : String → St → Prop} (h : P_X11_bride  a0 a1 a2 st post pex) : CtXI l E (CFc E) 7 2 12 yX11_bride cX11_bride 3 (some .int) [.ref a0, .int a1, .int a2] st post pex := by
  refine ctXI_of (by decide) (Nat.le_of_ble_eq_true rfl) ?_
  show Jg l E (CFc E) (Rm 7 2 12) cX11_bride 3 RX11 (some .int) XTn (QXI E post pex 2 12) 0 0 0 [(0, .ref a0), (1, .int a1), (2, .int a2)] [] st
  unfold P_X11_bride at h
  refine J_aload_n 0 dX11_bride_0 rfl rfl ?_
  refine J_iload_n 1 dX11_bride_1 rfl rfl ?_
  obtain ⟨ho, h⟩ := h
  refine J_xcvI (As := [_]) md_X11_needBride k_782 (rc_obj cl_11 ho) rfl rfl ⟨Nat.le_of_ble_eq_true rfl, Nat.le_of_ble_eq_true rfl⟩ ⟨Nat.le_of_ble_eq_true rfl, Nat.le_of_ble_eq_true rfl⟩ (Nat.le_of_ble_eq_true rfl) dX11_bride_2 (ct_X11_needBride hl0 h) (by decide) (by decide) (fun _ _ h => h) (fun st_2 h => ?_)
  refine J_aload_n 0 dX11_bride_5 rfl rfl ?_
  refine J_iload_n 2 dX11_bride_6 rfl rfl ?_
  refine J_iconst 5 dX11_bride_7 (by decide) ?_
  obtain ⟨ho, h⟩ := h
  refine J_xcvI (As := [_, _]) md_X11_needWhat k_753 (rc_obj cl_11 ho) rfl rfl ⟨Nat.le_of_ble_eq_true rfl, Nat.le_of_ble_eq_true rfl⟩ ⟨Nat.le_of_ble_eq_true rfl, Nat.le_of_ble_eq_true rfl⟩ (Nat.le_of_ble_eq_true rfl) dX11_bride_8 (ct_X11_needWhat hl0 h) (by decide) (by decide) (fun _ _ h => h) (fun st_4 h => ?_)
  refine J_iload_n 2 dX11_bride_11 rfl rfl ?_
  rcases (show (a2 : Int32).toInt < 0 ∨ (a2 : Int32).toInt = 0 ∨ (a2 : Int32).toInt = 1 ∨ (a2 : Int32).toInt = 2 ∨ (a2 : Int32).toInt = 3 ∨ (a2 : Int32).toInt = 4 ∨ 4 < (a2 : Int32).toInt by omega) with hc | hc | hc | hc | hc | hc | hc
  · have h := h.1 (Or.inl hc)
    refine J_tsOut 101 dX11_bride_12 (Or.inl hc) (by decide) ?_
    refine J_aload_n 0 dX11_bride_101 rfl rfl ?_
    obtain ⟨r_5, hf, h⟩ := h
    refine J_getR fl_RX11_36 dX11_bride_102 hf ?_
    refine J_iload_n 1 dX11_bride_105 rfl rfl ?_
    obtain ⟨ho, h⟩ := h
    refine J_cvi (As := [_]) md_X2_rivalsFor k_790 (rc_obj cl_2 ho) rfl rfl ⟨Nat.le_of_ble_eq_true rfl, Nat.le_of_ble_eq_true rfl⟩ ⟨Nat.le_of_ble_eq_true rfl, Nat.le_of_ble_eq_true rfl⟩ (Nat.le_of_ble_eq_true rfl) dX11_bride_106 (ct_X2_rivalsFor  h) (fun z_6 st_7 h => ?_)
    exact J_xreti rfl dX11_bride_109 h
  · have h := h.2.1 hc
    refine J_tsIn 48 (0) dX11_bride_12 hc (by decide) (by decide) rfl (by decide) ?_
    refine J_aload_n 0 dX11_bride_48 rfl rfl ?_
    obtain ⟨r_8, hf, h⟩ := h
    refine J_getR fl_RX11_36 dX11_bride_49 hf ?_
    refine J_iload_n 1 dX11_bride_52 rfl rfl ?_
    obtain ⟨ho, h⟩ := h
    refine J_cvi (As := [_]) md_X2_weddingOf k_785 (rc_obj cl_2 ho) rfl rfl ⟨Nat.le_of_ble_eq_true rfl, Nat.le_of_ble_eq_true rfl⟩ ⟨Nat.le_of_ble_eq_true rfl, Nat.le_of_ble_eq_true rfl⟩ (Nat.le_of_ble_eq_true rfl) dX11_bride_53 (ct_X2_weddingOf  h) (fun z_9 st_10 h => ?_)
    exact J_xreti rfl dX11_bride_56 h
  · have h := h.2.2.1 hc
    refine J_tsIn 57 (1) dX11_bride_12 hc (by decide) (by decide) rfl (by decide) ?_
    refine J_aload_n 0 dX11_bride_57 rfl rfl ?_
    obtain ⟨r_11, hf, h⟩ := h
    refine J_getR fl_RX11_36 dX11_bride_58 hf ?_
    refine J_iload_n 1 dX11_bride_61 rfl rfl ?_
    obtain ⟨ho, h⟩ := h
    refine J_cvi (As := [_]) md_X2_isHome k_786 (rc_obj cl_2 ho) rfl rfl ⟨Nat.le_of_ble_eq_true rfl, Nat.le_of_ble_eq_true rfl⟩ ⟨Nat.le_of_ble_eq_true rfl, Nat.le_of_ble_eq_true rfl⟩ (Nat.le_of_ble_eq_true rfl) dX11_bride_62 (ct_X2_isHome  h) (fun z_12 st_13 h => ?_)
    refine J_if_eq 72 dX11_bride_65 (by decide) (fun hc => ?_) (fun hc => ?_)
    · have h := h.1 hc
      refine J_iconst 0 dX11_bride_72 (by decide) ?_
      exact J_lv [0, 1, 2] rfl (K_X11_bride_73 hl0  a0 a1 a2  0 st_13 h)
    · have h := h.2 hc
      refine J_iconst 1 dX11_bride_68 (by decide) ?_
      refine J_goto 73 dX11_bride_69 (by decide) ?_
      exact J_lv [0, 1, 2] rfl (K_X11_bride_73 hl0  a0 a1 a2  1 st_13 h)
  · have h := h.2.2.2.1 hc
    refine J_tsIn 74 (2) dX11_bride_12 hc (by decide) (by decide) rfl (by decide) ?_
    refine J_aload_n 0 dX11_bride_74 rfl rfl ?_
    obtain ⟨r_14, hf, h⟩ := h
    refine J_getR fl_RX11_36 dX11_bride_75 hf ?_
    refine J_iload_n 1 dX11_bride_78 rfl rfl ?_
    obtain ⟨ho, h⟩ := h
    refine J_cvi (As := [_]) md_X2_whoLed k_787 (rc_obj cl_2 ho) rfl rfl ⟨Nat.le_of_ble_eq_true rfl, Nat.le_of_ble_eq_true rfl⟩ ⟨Nat.le_of_ble_eq_true rfl, Nat.le_of_ble_eq_true rfl⟩ (Nat.le_of_ble_eq_true rfl) dX11_bride_79 (ct_X2_whoLed  h) (fun z_15 st_16 h => ?_)
    exact J_xreti rfl dX11_bride_82 h
  · have h := h.2.2.2.2.1 hc
    refine J_tsIn 83 (3) dX11_bride_12 hc (by decide) (by decide) rfl (by decide) ?_
    refine J_aload_n 0 dX11_bride_83 rfl rfl ?_
    obtain ⟨r_17, hf, h⟩ := h
    refine J_getR fl_RX11_36 dX11_bride_84 hf ?_
    refine J_iload_n 1 dX11_bride_87 rfl rfl ?_
    obtain ⟨ho, h⟩ := h
    refine J_cvi (As := [_]) md_X2_peopleTiedTo k_788 (rc_obj cl_2 ho) rfl rfl ⟨Nat.le_of_ble_eq_true rfl, Nat.le_of_ble_eq_true rfl⟩ ⟨Nat.le_of_ble_eq_true rfl, Nat.le_of_ble_eq_true rfl⟩ (Nat.le_of_ble_eq_true rfl) dX11_bride_88 (ct_X2_peopleTiedTo  h) (fun z_18 st_19 h => ?_)
    exact J_xreti rfl dX11_bride_91 h
  · have h := h.2.2.2.2.2.1 hc
    refine J_tsIn 92 (4) dX11_bride_12 hc (by decide) (by decide) rfl (by decide) ?_
    refine J_aload_n 0 dX11_bride_92 rfl rfl ?_
    obtain ⟨r_20, hf, h⟩ := h
    refine J_getR fl_RX11_36 dX11_bride_93 hf ?_
    refine J_iload_n 1 dX11_bride_96 rfl rfl ?_
    obtain ⟨ho, h⟩ := h
    refine J_cvi (As := [_]) md_X2_heaviestFor k_789 (rc_obj cl_2 ho) rfl rfl ⟨Nat.le_of_ble_eq_true rfl, Nat.le_of_ble_eq_true rfl⟩ ⟨Nat.le_of_ble_eq_true rfl, Nat.le_of_ble_eq_true rfl⟩ (Nat.le_of_ble_eq_true rfl) dX11_bride_97 (ct_X2_heaviestFor  h) (fun z_21 st_22 h => ?_)
    exact J_xreti rfl dX11_bride_100 h
  · have h := h.1 (Or.inr hc)
    refine J_tsOut 101 dX11_bride_12 (Or.inr hc) (by decide) ?_
    refine J_aload_n 0 dX11_bride_101 rfl rfl ?_
    obtain ⟨r_5, hf, h⟩ := h
    refine J_getR fl_RX11_36 dX11_bride_102 hf ?_
    refine J_iload_n 1 dX11_bride_105 rfl rfl ?_
    obtain ⟨ho, h⟩ := h
    refine J_cvi (As := [_]) md_X2_rivalsFor k_790 (rc_obj cl_2 ho) rfl rfl ⟨Nat.le_of_ble_eq_true rfl, Nat.le_of_ble_eq_true rfl⟩ ⟨Nat.le_of_ble_eq_true rfl, Nat.le_of_ble_eq_true rfl⟩ (Nat.le_of_ble_eq_true rfl) dX11_bride_106 (ct_X2_rivalsFor  h) (fun z_6 st_7 h => ?_)
    exact J_xreti rfl dX11_bride_109 h
/-! X11_weight -/
def P_X11_weight  (a0 : Nat) (a1 : Int32) (a2 : Int32) (st : St) (post : Int32 → St → Prop) (pex : String → St → Prop) : Prop := oC a0 11 ∧ P_X11_needPerson  a0 a1 st (fun st_2 => oC a0 11 ∧ P_X11_needBride  a0 a2 st_2 (fun st_4 => ∃ r_5, rv st_4 a0 11 7 = some r_5 ∧ oC r_5 2 ∧ P_X2_weigh  r_5 a1 a2 st_4 (fun z_6 st_7 => post z_6 st_7)) pex) pex
set_option maxRecDepth 100000 in
set_option maxHeartbeats 4000000 in
theorem ct_X11_weight {l : Launch} {E : En} (hl0 : l.stackTraces = false)  {a0 : Nat} {a1 : Int32} {a2 : Int32} {st : St} {post : Int32 → St → Prop} {pex : String → St → Prop} (h : P_X11_weight  a0 a1 a2 st post pex) : CtXI l E (CFc E) 7 2 12 yX11_weight cX11_weight 3 (some .int) [.ref a0, .int a1, .int a2] st post pex := by
  refine ctXI_of (by decide) (Nat.le_of_ble_eq_true rfl) ?_
  show Jg l E (CFc E) (Rm 7 2 12) cX11_weight 3 RX11 (some .int) XTn (QXI E post pex 2 12) 0 0 0 [(0, .ref a0), (1, .int a1), (2, .int a2)] [] st
  unfold P_X11_weight at h
  refine J_aload_n 0 dX11_weight_0 rfl rfl ?_
  refine J_iload_n 1 dX11_weight_1 rfl rfl ?_
  obtain ⟨ho, h⟩ := h
  refine J_xcvI (As := [_]) md_X11_needPerson k_772 (rc_obj cl_11 ho) rfl rfl ⟨Nat.le_of_ble_eq_true rfl, Nat.le_of_ble_eq_true rfl⟩ ⟨Nat.le_of_ble_eq_true rfl, Nat.le_of_ble_eq_true rfl⟩ (Nat.le_of_ble_eq_true rfl) dX11_weight_2 (ct_X11_needPerson hl0 h) (by decide) (by decide) (fun _ _ h => h) (fun st_2 h => ?_)
  refine J_aload_n 0 dX11_weight_5 rfl rfl ?_
  refine J_iload_n 2 dX11_weight_6 rfl rfl ?_
  obtain ⟨ho, h⟩ := h
  refine J_xcvI (As := [_]) md_X11_needBride k_782 (rc_obj cl_11 ho) rfl rfl ⟨Nat.le_of_ble_eq_true rfl, Nat.le_of_ble_eq_true rfl⟩ ⟨Nat.le_of_ble_eq_true rfl, Nat.le_of_ble_eq_true rfl⟩ (Nat.le_of_ble_eq_true rfl) dX11_weight_7 (ct_X11_needBride hl0 h) (by decide) (by decide) (fun _ _ h => h) (fun st_4 h => ?_)
  refine J_aload_n 0 dX11_weight_10 rfl rfl ?_
  obtain ⟨r_5, hf, h⟩ := h
  refine J_getR fl_RX11_36 dX11_weight_11 hf ?_
  refine J_iload_n 1 dX11_weight_14 rfl rfl ?_
  refine J_iload_n 2 dX11_weight_15 rfl rfl ?_
  obtain ⟨ho, h⟩ := h
  refine J_cvi (As := [_, _]) md_X2_weigh k_794 (rc_obj cl_2 ho) rfl rfl ⟨Nat.le_of_ble_eq_true rfl, Nat.le_of_ble_eq_true rfl⟩ ⟨Nat.le_of_ble_eq_true rfl, Nat.le_of_ble_eq_true rfl⟩ (Nat.le_of_ble_eq_true rfl) dX11_weight_16 (ct_X2_weigh  h) (fun z_6 st_7 h => ?_)
  exact J_xreti rfl dX11_weight_19 h
/-! X11_rank -/
def P_X11_rank  (a0 : Nat) (a1 : Int32) (a2 : Int32) (st : St) (post : Int32 → St → Prop) (pex : String → St → Prop) : Prop := oC a0 11 ∧ P_X11_needPerson  a0 a1 st (fun st_2 => oC a0 11 ∧ P_X11_needBride  a0 a2 st_2 (fun st_4 => ∃ r_5, rv st_4 a0 11 11 = some r_5 ∧ oC r_5 6 ∧ P_X6_rankOf  r_5 a1 a2 st_4 (fun z_6 st_7 => post z_6 st_7)) pex) pex
set_option maxRecDepth 100000 in
set_option maxHeartbeats 4000000 in
theorem ct_X11_rank {l : Launch} {E : En} (hl0 : l.stackTraces = false)  {a0 : Nat} {a1 : Int32} {a2 : Int32} {st : St} {post : Int32 → St → Prop} {pex : String → St → Prop} (h : P_X11_rank  a0 a1 a2 st post pex) : CtXI l E (CFc E) 7 2 12 yX11_rank cX11_rank 3 (some .int) [.ref a0, .int a1, .int a2] st post pex := by
  refine ctXI_of (by decide) (Nat.le_of_ble_eq_true rfl) ?_
  show Jg l E (CFc E) (Rm 7 2 12) cX11_rank 3 RX11 (some .int) XTn (QXI E post pex 2 12) 0 0 0 [(0, .ref a0), (1, .int a1), (2, .int a2)] [] st
  unfold P_X11_rank at h
  refine J_aload_n 0 dX11_rank_0 rfl rfl ?_
  refine J_iload_n 1 dX11_rank_1 rfl rfl ?_
  obtain ⟨ho, h⟩ := h
  refine J_xcvI (As := [_]) md_X11_needPerson k_772 (rc_obj cl_11 ho) rfl rfl ⟨Nat.le_of_ble_eq_true rfl, Nat.le_of_ble_eq_true rfl⟩ ⟨Nat.le_of_ble_eq_true rfl, Nat.le_of_ble_eq_true rfl⟩ (Nat.le_of_ble_eq_true rfl) dX11_rank_2 (ct_X11_needPerson hl0 h) (by decide) (by decide) (fun _ _ h => h) (fun st_2 h => ?_)
  refine J_aload_n 0 dX11_rank_5 rfl rfl ?_
  refine J_iload_n 2 dX11_rank_6 rfl rfl ?_
  obtain ⟨ho, h⟩ := h
  refine J_xcvI (As := [_]) md_X11_needBride k_782 (rc_obj cl_11 ho) rfl rfl ⟨Nat.le_of_ble_eq_true rfl, Nat.le_of_ble_eq_true rfl⟩ ⟨Nat.le_of_ble_eq_true rfl, Nat.le_of_ble_eq_true rfl⟩ (Nat.le_of_ble_eq_true rfl) dX11_rank_7 (ct_X11_needBride hl0 h) (by decide) (by decide) (fun _ _ h => h) (fun st_4 h => ?_)
  refine J_aload_n 0 dX11_rank_10 rfl rfl ?_
  obtain ⟨r_5, hf, h⟩ := h
  refine J_getR fl_RX11_72 dX11_rank_11 hf ?_
  refine J_iload_n 1 dX11_rank_14 rfl rfl ?_
  refine J_iload_n 2 dX11_rank_15 rfl rfl ?_
  obtain ⟨ho, h⟩ := h
  refine J_cvi (As := [_, _]) md_X6_rankOf k_831 (rc_obj cl_6 ho) rfl rfl ⟨Nat.le_of_ble_eq_true rfl, Nat.le_of_ble_eq_true rfl⟩ ⟨Nat.le_of_ble_eq_true rfl, Nat.le_of_ble_eq_true rfl⟩ (Nat.le_of_ble_eq_true rfl) dX11_rank_16 (ct_X6_rankOf  h) (fun z_6 st_7 h => ?_)
  exact J_xreti rfl dX11_rank_19 h
/-! X11_choice -/
def P_X11_choice  (a0 : Nat) (a1 : Int32) (st : St) (post : Int32 → St → Prop) (pex : String → St → Prop) : Prop := ((¬ a1 = (-1) → oC a0 11 ∧ P_X11_needBride  a0 a1 st (fun st_2 => ∃ r_3, rv st_2 a0 11 11 = some r_3 ∧ oC r_3 6 ∧ P_X6_chosenFor  r_3 a1 st_2 (fun z_4 st_5 => post z_4 st_5)) pex) ∧ (a1 = (-1) → ∃ r_6, rv st a0 11 11 = some r_6 ∧ oC r_6 6 ∧ P_X6_mostTogether  r_6 st (fun z_7 st_8 => post z_7 st_8)))
set_option maxRecDepth 100000 in
set_option maxHeartbeats 4000000 in
theorem ct_X11_choice {l : Launch} {E : En} (hl0 : l.stackTraces = false)  {a0 : Nat} {a1 : Int32} {st : St} {post : Int32 → St → Prop} {pex : String → St → Prop} (h : P_X11_choice  a0 a1 st post pex) : CtXI l E (CFc E) 8 1 6 yX11_choice cX11_choice 2 (some .int) [.ref a0, .int a1] st post pex := by
  refine ctXI_of (by decide) (Nat.le_of_ble_eq_true rfl) ?_
  show Jg l E (CFc E) (Rm 8 1 6) cX11_choice 2 RX11 (some .int) XTn (QXI E post pex 1 6) 0 0 0 [(0, .ref a0), (1, .int a1)] [] st
  unfold P_X11_choice at h
  refine J_iload_n 1 dX11_choice_0 rfl rfl ?_
  refine J_iconst (-1) dX11_choice_1 (by decide) ?_
  refine J_icmp_ne 13 dX11_choice_2 (by decide) (fun hc => ?_) (fun hc => ?_)
  · have h := h.1 hc
    refine J_aload_n 0 dX11_choice_13 rfl rfl ?_
    refine J_iload_n 1 dX11_choice_14 rfl rfl ?_
    obtain ⟨ho, h⟩ := h
    refine J_xcvI (As := [_]) md_X11_needBride k_782 (rc_obj cl_11 ho) rfl rfl ⟨Nat.le_of_ble_eq_true rfl, Nat.le_of_ble_eq_true rfl⟩ ⟨Nat.le_of_ble_eq_true rfl, Nat.le_of_ble_eq_true rfl⟩ (Nat.le_of_ble_eq_true rfl) dX11_choice_15 (ct_X11_needBride hl0 h) (by decide) (by decide) (fun _ _ h => h) (fun st_2 h => ?_)
    refine J_aload_n 0 dX11_choice_18 rfl rfl ?_
    obtain ⟨r_3, hf, h⟩ := h
    refine J_getR fl_RX11_72 dX11_choice_19 hf ?_
    refine J_iload_n 1 dX11_choice_22 rfl rfl ?_
    obtain ⟨ho, h⟩ := h
    refine J_cvi (As := [_]) md_X6_chosenFor k_848 (rc_obj cl_6 ho) rfl rfl ⟨Nat.le_of_ble_eq_true rfl, Nat.le_of_ble_eq_true rfl⟩ ⟨Nat.le_of_ble_eq_true rfl, Nat.le_of_ble_eq_true rfl⟩ (Nat.le_of_ble_eq_true rfl) dX11_choice_23 (ct_X6_chosenFor  h) (fun z_4 st_5 h => ?_)
    exact J_xreti rfl dX11_choice_26 h
  · have h := h.2 hc
    refine J_aload_n 0 dX11_choice_5 rfl rfl ?_
    obtain ⟨r_6, hf, h⟩ := h
    refine J_getR fl_RX11_72 dX11_choice_6 hf ?_
    obtain ⟨ho, h⟩ := h
    refine J_cvi (As := []) md_X6_mostTogether k_847 (rc_obj cl_6 ho) rfl rfl ⟨Nat.le_of_ble_eq_true rfl, Nat.le_of_ble_eq_true rfl⟩ ⟨Nat.le_of_ble_eq_true rfl, Nat.le_of_ble_eq_true rfl⟩ (Nat.le_of_ble_eq_true rfl) dX11_choice_9 (ct_X6_mostTogether  h) (fun z_7 st_8 h => ?_)
    refine J_widen (k2 := 1) (n2 := 6) (Nat.le_of_ble_eq_true rfl) (Nat.le_of_ble_eq_true rfl) ?_
    exact J_xreti rfl dX11_choice_12 h
/-! X11_tug -/
def P_X11_tug  (a0 : Nat) (a1 : Int32) (st : St) (post : Int32 → St → Prop) (pex : String → St → Prop) : Prop := oC a0 11 ∧ P_X11_needBride  a0 a1 st (fun st_2 => ∃ r_3, rv st_2 a0 11 11 = some r_3 ∧ oC r_3 6 ∧ P_X6_fewestThatPull  r_3 a1 st_2 (fun z_4 st_5 => post z_4 st_5)) pex
set_option maxRecDepth 100000 in
set_option maxHeartbeats 4000000 in
theorem ct_X11_tug {l : Launch} {E : En} (hl0 : l.stackTraces = false)  {a0 : Nat} {a1 : Int32} {st : St} {post : Int32 → St → Prop} {pex : String → St → Prop} (h : P_X11_tug  a0 a1 st post pex) : CtXI l E (CFc E) 7 1 6 yX11_tug cX11_tug 2 (some .int) [.ref a0, .int a1] st post pex := by
  refine ctXI_of (by decide) (Nat.le_of_ble_eq_true rfl) ?_
  show Jg l E (CFc E) (Rm 7 1 6) cX11_tug 2 RX11 (some .int) XTn (QXI E post pex 1 6) 0 0 0 [(0, .ref a0), (1, .int a1)] [] st
  unfold P_X11_tug at h
  refine J_aload_n 0 dX11_tug_0 rfl rfl ?_
  refine J_iload_n 1 dX11_tug_1 rfl rfl ?_
  obtain ⟨ho, h⟩ := h
  refine J_xcvI (As := [_]) md_X11_needBride k_782 (rc_obj cl_11 ho) rfl rfl ⟨Nat.le_of_ble_eq_true rfl, Nat.le_of_ble_eq_true rfl⟩ ⟨Nat.le_of_ble_eq_true rfl, Nat.le_of_ble_eq_true rfl⟩ (Nat.le_of_ble_eq_true rfl) dX11_tug_2 (ct_X11_needBride hl0 h) (by decide) (by decide) (fun _ _ h => h) (fun st_2 h => ?_)
  refine J_aload_n 0 dX11_tug_5 rfl rfl ?_
  obtain ⟨r_3, hf, h⟩ := h
  refine J_getR fl_RX11_72 dX11_tug_6 hf ?_
  refine J_iload_n 1 dX11_tug_9 rfl rfl ?_
  obtain ⟨ho, h⟩ := h
  refine J_cvi (As := [_]) md_X6_fewestThatPull k_853 (rc_obj cl_6 ho) rfl rfl ⟨Nat.le_of_ble_eq_true rfl, Nat.le_of_ble_eq_true rfl⟩ ⟨Nat.le_of_ble_eq_true rfl, Nat.le_of_ble_eq_true rfl⟩ (Nat.le_of_ble_eq_true rfl) dX11_tug_10 (ct_X6_fewestThatPull  h) (fun z_4 st_5 h => ?_)
  exact J_xreti rfl dX11_tug_13 h
/-! X11_decisive -/
def P_X11_decisive  (a0 : Nat) (a1 : Int32) (a2 : Int32) (st : St) (post : Int32 → St → Prop) (pex : String → St → Prop) : Prop := oC a0 11 ∧ P_X11_needPerson  a0 a1 st (fun st_2 => oC a0 11 ∧ P_X11_needBride  a0 a2 st_2 (fun st_4 => ∃ r_5, rv st_4 a0 11 11 = some r_5 ∧ oC r_5 6 ∧ P_X6_setsDecidedBy  r_5 a1 a2 st_4 (fun z_6 st_7 => post z_6 st_7)) pex) pex
set_option maxRecDepth 100000 in
set_option maxHeartbeats 4000000 in
theorem ct_X11_decisive {l : Launch} {E : En} (hl0 : l.stackTraces = false)  {a0 : Nat} {a1 : Int32} {a2 : Int32} {st : St} {post : Int32 → St → Prop} {pex : String → St → Prop} (h : P_X11_decisive  a0 a1 a2 st post pex) : CtXI l E (CFc E) 7 2 12 yX11_decisive cX11_decisive 3 (some .int) [.ref a0, .int a1, .int a2] st post pex := by
  refine ctXI_of (by decide) (Nat.le_of_ble_eq_true rfl) ?_
  show Jg l E (CFc E) (Rm 7 2 12) cX11_decisive 3 RX11 (some .int) XTn (QXI E post pex 2 12) 0 0 0 [(0, .ref a0), (1, .int a1), (2, .int a2)] [] st
  unfold P_X11_decisive at h
  refine J_aload_n 0 dX11_decisive_0 rfl rfl ?_
  refine J_iload_n 1 dX11_decisive_1 rfl rfl ?_
  obtain ⟨ho, h⟩ := h
  refine J_xcvI (As := [_]) md_X11_needPerson k_772 (rc_obj cl_11 ho) rfl rfl ⟨Nat.le_of_ble_eq_true rfl, Nat.le_of_ble_eq_true rfl⟩ ⟨Nat.le_of_ble_eq_true rfl, Nat.le_of_ble_eq_true rfl⟩ (Nat.le_of_ble_eq_true rfl) dX11_decisive_2 (ct_X11_needPerson hl0 h) (by decide) (by decide) (fun _ _ h => h) (fun st_2 h => ?_)
  refine J_aload_n 0 dX11_decisive_5 rfl rfl ?_
  refine J_iload_n 2 dX11_decisive_6 rfl rfl ?_
  obtain ⟨ho, h⟩ := h
  refine J_xcvI (As := [_]) md_X11_needBride k_782 (rc_obj cl_11 ho) rfl rfl ⟨Nat.le_of_ble_eq_true rfl, Nat.le_of_ble_eq_true rfl⟩ ⟨Nat.le_of_ble_eq_true rfl, Nat.le_of_ble_eq_true rfl⟩ (Nat.le_of_ble_eq_true rfl) dX11_decisive_7 (ct_X11_needBride hl0 h) (by decide) (by decide) (fun _ _ h => h) (fun st_4 h => ?_)
  refine J_aload_n 0 dX11_decisive_10 rfl rfl ?_
  obtain ⟨r_5, hf, h⟩ := h
  refine J_getR fl_RX11_72 dX11_decisive_11 hf ?_
  refine J_iload_n 1 dX11_decisive_14 rfl rfl ?_
  refine J_iload_n 2 dX11_decisive_15 rfl rfl ?_
  obtain ⟨ho, h⟩ := h
  refine J_cvi (As := [_, _]) md_X6_setsDecidedBy k_857 (rc_obj cl_6 ho) rfl rfl ⟨Nat.le_of_ble_eq_true rfl, Nat.le_of_ble_eq_true rfl⟩ ⟨Nat.le_of_ble_eq_true rfl, Nat.le_of_ble_eq_true rfl⟩ (Nat.le_of_ble_eq_true rfl) dX11_decisive_16 (ct_X6_setsDecidedBy  h) (fun z_6 st_7 h => ?_)
  exact J_xreti rfl dX11_decisive_19 h
/-! X11_days -/
def P_X11_days_41  (a0 : Nat) (a1 : Int32)  (post : Int32 → St → Prop) : Nat → Int32 → St → Prop
  | 0, _, _ => False
  | n9 + 1, x2, st => ((a1 ≤ x2 → ∃ r_1, rv st a0 11 7 = some r_1 ∧ oC r_1 2 ∧ P_X2_today  r_1 st (fun z_2 st_3 => post z_2 st_3)) ∧ (¬ a1 ≤ x2 → ∃ r_4, rv st a0 11 7 = some r_4 ∧ oC r_4 2 ∧ P_X2_passDay  r_4 st (fun st_6 => P_X11_days_41  a0 a1  post n9 (x2 + 1) st_6)))
def P_X11_days_26  (a0 : Nat) (a1 : Int32)  (post : Int32 → St → Prop)  (st : St) : Prop := oC a0 11 ∧ P_X11_refuse  a0 1 st (fun z_1 st_2 => post z_1 st_2)
def P_X11_days  (a0 : Nat) (a1 : Int32) (st : St) (post : Int32 → St → Prop) : Prop := ((a1 < 1 → P_X11_days_26  a0 a1  post st) ∧ (¬ a1 < 1 → ((20 < a1 → P_X11_days_26  a0 a1  post st) ∧ (¬ 20 < a1 → ∃ r_1, rv st a0 11 7 = some r_1 ∧ oC r_1 2 ∧ P_X2_today  r_1 st (fun z_2 st_3 => (((z_2 + a1) ≤ 999 → ∃ r_4, rv st_3 a0 11 4 = some r_4 ∧ oC r_4 1 ∧ P_X1_keepAct  r_4 st_3 (fun st_6 => ∃ n8, P_X11_days_41  a0 a1  post n8 0 st_6)) ∧ (¬ (z_2 + a1) ≤ 999 → P_X11_days_26  a0 a1  post st_3)))))))
set_option maxRecDepth 100000 in
set_option maxHeartbeats 4000000 in
theorem K_X11_days_41 {l : Launch} {E : En}   (a0 : Nat) (a1 : Int32)  {post : Int32 → St → Prop}   : ∀ (n9 : Nat) (x2 : Int32) (st : St), P_X11_days_41  a0 a1  post n9 x2 st → Jg l E (CFc E) (Rm 6 0 0) cX11_days 3 RX11 (some .int) (fun _ => True) (QI E post 0 0) 0 0 41 [(0, .ref a0), (1, .int a1), (2, .int x2)] [] st := by
  intro n9
  induction n9 with
  | zero => intro x2 st h; exact h.elim
  | succ n9 ih =>
    intro x2 st h
    unfold P_X11_days_41 at h
    refine J_iload_n 2 dX11_days_41 rfl rfl ?_
    refine J_iload_n 1 dX11_days_42 rfl rfl ?_
    refine J_icmp_ge 59 dX11_days_43 (by decide) (fun hc => ?_) (fun hc => ?_)
    · have h := h.1 hc
      refine J_aload_n 0 dX11_days_59 rfl rfl ?_
      obtain ⟨r_1, hf, h⟩ := h
      refine J_getR fl_RX11_36 dX11_days_60 hf ?_
      obtain ⟨ho, h⟩ := h
      refine J_cvi (As := []) md_X2_today k_759 (rc_obj cl_2 ho) rfl rfl ⟨Nat.le_of_ble_eq_true rfl, Nat.le_of_ble_eq_true rfl⟩ ⟨Nat.le_of_ble_eq_true rfl, Nat.le_of_ble_eq_true rfl⟩ (Nat.le_of_ble_eq_true rfl) dX11_days_63 (ct_X2_today  h) (fun z_2 st_3 h => ?_)
      exact J_reti rfl dX11_days_66 h
    · have h := h.2 hc
      refine J_aload_n 0 dX11_days_46 rfl rfl ?_
      obtain ⟨r_4, hf, h⟩ := h
      refine J_getR fl_RX11_36 dX11_days_47 hf ?_
      obtain ⟨ho, h⟩ := h
      refine J_cvv (As := []) md_X2_passDay k_799 (rc_obj cl_2 ho) rfl rfl ⟨Nat.le_of_ble_eq_true rfl, Nat.le_of_ble_eq_true rfl⟩ ⟨Nat.le_of_ble_eq_true rfl, Nat.le_of_ble_eq_true rfl⟩ (Nat.le_of_ble_eq_true rfl) dX11_days_50 (ct_X2_passDay  h) (fun st_6 h => ?_)
      refine J_iinc 2 (x2 + 1) _ dX11_days_53 rfl (by rfl) (by decide) rfl ?_
      refine J_goto 41 dX11_days_56 (by decide) ?_
      exact J_lv [1, 2, 0] rfl (ih (x2 + 1) st_6 h)
set_option maxRecDepth 100000 in
set_option maxHeartbeats 4000000 in
theorem K_X11_days_26 {l : Launch} {E : En}   (a0 : Nat) (a1 : Int32)  {post : Int32 → St → Prop}    (st : St) (h : P_X11_days_26  a0 a1  post  st) : Jg l E (CFc E) (Rm 6 0 0) cX11_days 3 RX11 (some .int) (fun _ => True) (QI E post 0 0) 0 0 26 [(0, .ref a0), (1, .int a1)] [] st := by
  unfold P_X11_days_26 at h
  refine J_aload_n 0 dX11_days_26 rfl rfl ?_
  refine J_iconst 1 dX11_days_27 (by decide) ?_
  obtain ⟨ho, h⟩ := h
  refine J_cvi (As := [_]) md_X11_refuse k_736 (rc_obj cl_11 ho) rfl rfl ⟨Nat.le_of_ble_eq_true rfl, Nat.le_of_ble_eq_true rfl⟩ ⟨Nat.le_of_ble_eq_true rfl, Nat.le_of_ble_eq_true rfl⟩ (Nat.le_of_ble_eq_true rfl) dX11_days_28 (ct_X11_refuse  h) (fun z_1 st_2 h => ?_)
  exact J_reti rfl dX11_days_31 h
set_option maxRecDepth 100000 in
set_option maxHeartbeats 4000000 in
theorem ct_X11_days {l : Launch} {E : En}  {a0 : Nat} {a1 : Int32} {st : St} {post : Int32 → St → Prop} (h : P_X11_days  a0 a1 st post) : CtI l E (CFc E) 6 0 0 yX11_days cX11_days 3 (some .int) [.ref a0, .int a1] st post := by
  refine ctI_of (by decide) (Nat.le_of_ble_eq_true rfl) ?_
  show Jg l E (CFc E) (Rm 6 0 0) cX11_days 3 RX11 (some .int) (fun _ => True) (QI E post 0 0) 0 0 0 [(0, .ref a0), (1, .int a1)] [] st
  unfold P_X11_days at h
  refine J_iload_n 1 dX11_days_0 rfl rfl ?_
  refine J_iconst 1 dX11_days_1 (by decide) ?_
  refine J_icmp_lt 26 dX11_days_2 (by decide) (fun hc => ?_) (fun hc => ?_)
  · have h := h.1 hc
    exact J_lv [0, 1] rfl (K_X11_days_26   a0 a1  st h)
  · have h := h.2 hc
    refine J_iload_n 1 dX11_days_5 rfl rfl ?_
    refine J_bipush 20 dX11_days_6 (by decide) ?_
    refine J_icmp_gt 26 dX11_days_8 (by decide) (fun hc => ?_) (fun hc => ?_)
    · have h := h.1 hc
      exact J_lv [0, 1] rfl (K_X11_days_26   a0 a1  st h)
    · have h := h.2 hc
      refine J_aload_n 0 dX11_days_11 rfl rfl ?_
      obtain ⟨r_1, hf, h⟩ := h
      refine J_getR fl_RX11_36 dX11_days_12 hf ?_
      obtain ⟨ho, h⟩ := h
      refine J_cvi (As := []) md_X2_today k_759 (rc_obj cl_2 ho) rfl rfl ⟨Nat.le_of_ble_eq_true rfl, Nat.le_of_ble_eq_true rfl⟩ ⟨Nat.le_of_ble_eq_true rfl, Nat.le_of_ble_eq_true rfl⟩ (Nat.le_of_ble_eq_true rfl) dX11_days_15 (ct_X2_today  h) (fun z_2 st_3 h => ?_)
      refine J_iload_n 1 dX11_days_18 rfl rfl ?_
      refine J_iadd dX11_days_19 ?_
      refine J_sipush 999 dX11_days_20 (by decide) ?_
      refine J_icmp_le 32 dX11_days_23 (by decide) (fun hc => ?_) (fun hc => ?_)
      · have h := h.1 hc
        refine J_aload_n 0 dX11_days_32 rfl rfl ?_
        obtain ⟨r_4, hf, h⟩ := h
        refine J_getR fl_RX11_25 dX11_days_33 hf ?_
        obtain ⟨ho, h⟩ := h
        refine J_cvv (As := []) md_X1_keepAct k_796 (rc_obj cl_1 ho) rfl rfl ⟨Nat.le_of_ble_eq_true rfl, Nat.le_of_ble_eq_true rfl⟩ ⟨Nat.le_of_ble_eq_true rfl, Nat.le_of_ble_eq_true rfl⟩ (Nat.le_of_ble_eq_true rfl) dX11_days_36 (ct_X1_keepAct  h) (fun st_6 h => ?_)
        refine J_iconst 0 dX11_days_39 (by decide) ?_
        refine J_istore_n _ dX11_days_40 rfl (by decide) rfl ?_
        obtain ⟨n8, h⟩ := h
        exact J_lv [1, 2, 0] rfl (K_X11_days_41   a0 a1  n8 0 st_6 h)
      · have h := h.2 hc
        exact J_lv [0, 1] rfl (K_X11_days_26   a0 a1  st_3 h)
/-! X11_leader -/
def P_X11_leader  (a0 : Nat) (a1 : Int32) (st : St) (post : Int32 → St → Prop) (pex : String → St → Prop) : Prop := oC a0 11 ∧ P_X11_needBride  a0 a1 st (fun st_2 => ∃ r_3, rv st_2 a0 11 10 = some r_3 ∧ oC r_3 9 ∧ P_X9_leaderNow  r_3 a1 st_2 (fun z_4 st_5 => post z_4 st_5)) pex
set_option maxRecDepth 100000 in
set_option maxHeartbeats 4000000 in
theorem ct_X11_leader {l : Launch} {E : En} (hl0 : l.stackTraces = false)  {a0 : Nat} {a1 : Int32} {st : St} {post : Int32 → St → Prop} {pex : String → St → Prop} (h : P_X11_leader  a0 a1 st post pex) : CtXI l E (CFc E) 8 1 6 yX11_leader cX11_leader 2 (some .int) [.ref a0, .int a1] st post pex := by
  refine ctXI_of (by decide) (Nat.le_of_ble_eq_true rfl) ?_
  show Jg l E (CFc E) (Rm 8 1 6) cX11_leader 2 RX11 (some .int) XTn (QXI E post pex 1 6) 0 0 0 [(0, .ref a0), (1, .int a1)] [] st
  unfold P_X11_leader at h
  refine J_aload_n 0 dX11_leader_0 rfl rfl ?_
  refine J_iload_n 1 dX11_leader_1 rfl rfl ?_
  obtain ⟨ho, h⟩ := h
  refine J_xcvI (As := [_]) md_X11_needBride k_782 (rc_obj cl_11 ho) rfl rfl ⟨Nat.le_of_ble_eq_true rfl, Nat.le_of_ble_eq_true rfl⟩ ⟨Nat.le_of_ble_eq_true rfl, Nat.le_of_ble_eq_true rfl⟩ (Nat.le_of_ble_eq_true rfl) dX11_leader_2 (ct_X11_needBride hl0 h) (by decide) (by decide) (fun _ _ h => h) (fun st_2 h => ?_)
  refine J_aload_n 0 dX11_leader_5 rfl rfl ?_
  obtain ⟨r_3, hf, h⟩ := h
  refine J_getR fl_RX11_63 dX11_leader_6 hf ?_
  refine J_iload_n 1 dX11_leader_9 rfl rfl ?_
  obtain ⟨ho, h⟩ := h
  refine J_cvi (As := [_]) md_X9_leaderNow k_814 (rc_obj cl_9 ho) rfl rfl ⟨Nat.le_of_ble_eq_true rfl, Nat.le_of_ble_eq_true rfl⟩ ⟨Nat.le_of_ble_eq_true rfl, Nat.le_of_ble_eq_true rfl⟩ (Nat.le_of_ble_eq_true rfl) dX11_leader_10 (ct_X9_leaderNow  h) (fun z_4 st_5 h => ?_)
  exact J_xreti rfl dX11_leader_13 h
/-! X11_then -/
def P_X11_then  (a0 : Nat) (a1 : Int32) (a2 : Int32) (st : St) (post : Int32 → St → Prop) (pex : String → St → Prop) : Prop := oC a0 11 ∧ P_X11_needPerson  a0 a1 st (fun st_2 => oC a0 11 ∧ P_X11_needForesight  a0 a2 st_2 (fun st_4 => ∃ r_5, rv st_4 a0 11 10 = some r_5 ∧ oC r_5 9 ∧ P_X9_letPass  r_5 a2 st_4 (fun st_7 => ∃ r_8, rv st_7 a0 11 8 = some r_8 ∧ oC r_8 2 ∧ P_X2_griefOf  r_8 a1 st_7 (fun z_9 st_10 => post z_9 st_10))) pex) pex
set_option maxRecDepth 100000 in
set_option maxHeartbeats 4000000 in
theorem ct_X11_then {l : Launch} {E : En} (hl0 : l.stackTraces = false)  {a0 : Nat} {a1 : Int32} {a2 : Int32} {st : St} {post : Int32 → St → Prop} {pex : String → St → Prop} (h : P_X11_then  a0 a1 a2 st post pex) : CtXI l E (CFc E) 7 2 12 yX11_then cX11_then 3 (some .int) [.ref a0, .int a1, .int a2] st post pex := by
  refine ctXI_of (by decide) (Nat.le_of_ble_eq_true rfl) ?_
  show Jg l E (CFc E) (Rm 7 2 12) cX11_then 3 RX11 (some .int) XTn (QXI E post pex 2 12) 0 0 0 [(0, .ref a0), (1, .int a1), (2, .int a2)] [] st
  unfold P_X11_then at h
  refine J_aload_n 0 dX11_then_0 rfl rfl ?_
  refine J_iload_n 1 dX11_then_1 rfl rfl ?_
  obtain ⟨ho, h⟩ := h
  refine J_xcvI (As := [_]) md_X11_needPerson k_772 (rc_obj cl_11 ho) rfl rfl ⟨Nat.le_of_ble_eq_true rfl, Nat.le_of_ble_eq_true rfl⟩ ⟨Nat.le_of_ble_eq_true rfl, Nat.le_of_ble_eq_true rfl⟩ (Nat.le_of_ble_eq_true rfl) dX11_then_2 (ct_X11_needPerson hl0 h) (by decide) (by decide) (fun _ _ h => h) (fun st_2 h => ?_)
  refine J_aload_n 0 dX11_then_5 rfl rfl ?_
  refine J_iload_n 2 dX11_then_6 rfl rfl ?_
  obtain ⟨ho, h⟩ := h
  refine J_xcvI (As := [_]) md_X11_needForesight k_819 (rc_obj cl_11 ho) rfl rfl ⟨Nat.le_of_ble_eq_true rfl, Nat.le_of_ble_eq_true rfl⟩ ⟨Nat.le_of_ble_eq_true rfl, Nat.le_of_ble_eq_true rfl⟩ (Nat.le_of_ble_eq_true rfl) dX11_then_7 (ct_X11_needForesight hl0 h) (by decide) (by decide) (fun _ _ h => h) (fun st_4 h => ?_)
  refine J_aload_n 0 dX11_then_10 rfl rfl ?_
  obtain ⟨r_5, hf, h⟩ := h
  refine J_getR fl_RX11_63 dX11_then_11 hf ?_
  refine J_iload_n 2 dX11_then_14 rfl rfl ?_
  obtain ⟨ho, h⟩ := h
  refine J_cvv (As := [_]) md_X9_letPass k_822 (rc_obj cl_9 ho) rfl rfl ⟨Nat.le_of_ble_eq_true rfl, Nat.le_of_ble_eq_true rfl⟩ ⟨Nat.le_of_ble_eq_true rfl, Nat.le_of_ble_eq_true rfl⟩ (Nat.le_of_ble_eq_true rfl) dX11_then_15 (ct_X9_letPass  h) (fun st_7 h => ?_)
  refine J_aload_n 0 dX11_then_18 rfl rfl ?_
  obtain ⟨r_8, hf, h⟩ := h
  refine J_getR fl_RX11_42 dX11_then_19 hf ?_
  refine J_iload_n 1 dX11_then_22 rfl rfl ?_
  obtain ⟨ho, h⟩ := h
  refine J_cvi (As := [_]) md_X2_griefOf k_775 (rc_obj cl_2 ho) rfl rfl ⟨Nat.le_of_ble_eq_true rfl, Nat.le_of_ble_eq_true rfl⟩ ⟨Nat.le_of_ble_eq_true rfl, Nat.le_of_ble_eq_true rfl⟩ (Nat.le_of_ble_eq_true rfl) dX11_then_23 (ct_X2_griefOf  h) (fun z_9 st_10 h => ?_)
  exact J_xreti rfl dX11_then_26 h
/-! X11_led -/
def P_X11_led  (a0 : Nat) (a1 : Int32) (a2 : Int32) (st : St) (post : Int32 → St → Prop) (pex : String → St → Prop) : Prop := oC a0 11 ∧ P_X11_needPerson  a0 a1 st (fun st_2 => oC a0 11 ∧ P_X11_needForesight  a0 a2 st_2 (fun st_4 => ∃ r_5, rv st_4 a0 11 10 = some r_5 ∧ oC r_5 9 ∧ P_X9_letPass  r_5 a2 st_4 (fun st_7 => ∃ r_8, rv st_7 a0 11 10 = some r_8 ∧ oC r_8 9 ∧ P_X9_newlyLed  r_8 a1 st_7 (fun z_9 st_10 => post z_9 st_10))) pex) pex
set_option maxRecDepth 100000 in
set_option maxHeartbeats 4000000 in
theorem ct_X11_led {l : Launch} {E : En} (hl0 : l.stackTraces = false)  {a0 : Nat} {a1 : Int32} {a2 : Int32} {st : St} {post : Int32 → St → Prop} {pex : String → St → Prop} (h : P_X11_led  a0 a1 a2 st post pex) : CtXI l E (CFc E) 7 2 12 yX11_led cX11_led 3 (some .int) [.ref a0, .int a1, .int a2] st post pex := by
  refine ctXI_of (by decide) (Nat.le_of_ble_eq_true rfl) ?_
  show Jg l E (CFc E) (Rm 7 2 12) cX11_led 3 RX11 (some .int) XTn (QXI E post pex 2 12) 0 0 0 [(0, .ref a0), (1, .int a1), (2, .int a2)] [] st
  unfold P_X11_led at h
  refine J_aload_n 0 dX11_led_0 rfl rfl ?_
  refine J_iload_n 1 dX11_led_1 rfl rfl ?_
  obtain ⟨ho, h⟩ := h
  refine J_xcvI (As := [_]) md_X11_needPerson k_772 (rc_obj cl_11 ho) rfl rfl ⟨Nat.le_of_ble_eq_true rfl, Nat.le_of_ble_eq_true rfl⟩ ⟨Nat.le_of_ble_eq_true rfl, Nat.le_of_ble_eq_true rfl⟩ (Nat.le_of_ble_eq_true rfl) dX11_led_2 (ct_X11_needPerson hl0 h) (by decide) (by decide) (fun _ _ h => h) (fun st_2 h => ?_)
  refine J_aload_n 0 dX11_led_5 rfl rfl ?_
  refine J_iload_n 2 dX11_led_6 rfl rfl ?_
  obtain ⟨ho, h⟩ := h
  refine J_xcvI (As := [_]) md_X11_needForesight k_819 (rc_obj cl_11 ho) rfl rfl ⟨Nat.le_of_ble_eq_true rfl, Nat.le_of_ble_eq_true rfl⟩ ⟨Nat.le_of_ble_eq_true rfl, Nat.le_of_ble_eq_true rfl⟩ (Nat.le_of_ble_eq_true rfl) dX11_led_7 (ct_X11_needForesight hl0 h) (by decide) (by decide) (fun _ _ h => h) (fun st_4 h => ?_)
  refine J_aload_n 0 dX11_led_10 rfl rfl ?_
  obtain ⟨r_5, hf, h⟩ := h
  refine J_getR fl_RX11_63 dX11_led_11 hf ?_
  refine J_iload_n 2 dX11_led_14 rfl rfl ?_
  obtain ⟨ho, h⟩ := h
  refine J_cvv (As := [_]) md_X9_letPass k_822 (rc_obj cl_9 ho) rfl rfl ⟨Nat.le_of_ble_eq_true rfl, Nat.le_of_ble_eq_true rfl⟩ ⟨Nat.le_of_ble_eq_true rfl, Nat.le_of_ble_eq_true rfl⟩ (Nat.le_of_ble_eq_true rfl) dX11_led_15 (ct_X9_letPass  h) (fun st_7 h => ?_)
  refine J_aload_n 0 dX11_led_18 rfl rfl ?_
  obtain ⟨r_8, hf, h⟩ := h
  refine J_getR fl_RX11_63 dX11_led_19 hf ?_
  refine J_iload_n 1 dX11_led_22 rfl rfl ?_
  obtain ⟨ho, h⟩ := h
  refine J_cvi (As := [_]) md_X9_newlyLed k_826 (rc_obj cl_9 ho) rfl rfl ⟨Nat.le_of_ble_eq_true rfl, Nat.le_of_ble_eq_true rfl⟩ ⟨Nat.le_of_ble_eq_true rfl, Nat.le_of_ble_eq_true rfl⟩ (Nat.le_of_ble_eq_true rfl) dX11_led_23 (ct_X9_newlyLed  h) (fun z_9 st_10 h => ?_)
  exact J_xreti rfl dX11_led_26 h
/-! X11_dog -/
def P_X11_dog  (a0 : Nat) (st : St) (post : Int32 → St → Prop) : Prop := ∃ r_1, rv st a0 11 10 = some r_1 ∧ oC r_1 9 ∧ P_X9_letPass  r_1 60 st (fun st_3 => ∃ r_4, rv st_3 a0 11 8 = some r_4 ∧ oC r_4 2 ∧ P_X2_dogCount  r_4 st_3 (fun z_5 st_6 => ∃ r_7, rv st_6 a0 11 7 = some r_7 ∧ oC r_7 2 ∧ P_X2_dogCount  r_7 st_6 (fun z_8 st_9 => post (z_5 - z_8) st_9)))
set_option maxRecDepth 100000 in
set_option maxHeartbeats 4000000 in
theorem ct_X11_dog {l : Launch} {E : En}  {a0 : Nat} {st : St} {post : Int32 → St → Prop} (h : P_X11_dog  a0 st post) : CtI l E (CFc E) 7 0 0 yX11_dog cX11_dog 1 (some .int) [.ref a0] st post := by
  refine ctI_of (by decide) (Nat.le_of_ble_eq_true rfl) ?_
  show Jg l E (CFc E) (Rm 7 0 0) cX11_dog 1 RX11 (some .int) (fun _ => True) (QI E post 0 0) 0 0 0 [(0, .ref a0)] [] st
  unfold P_X11_dog at h
  refine J_aload_n 0 dX11_dog_0 rfl rfl ?_
  obtain ⟨r_1, hf, h⟩ := h
  refine J_getR fl_RX11_63 dX11_dog_1 hf ?_
  refine J_bipush 60 dX11_dog_4 (by decide) ?_
  obtain ⟨ho, h⟩ := h
  refine J_cvv (As := [_]) md_X9_letPass k_822 (rc_obj cl_9 ho) rfl rfl ⟨Nat.le_of_ble_eq_true rfl, Nat.le_of_ble_eq_true rfl⟩ ⟨Nat.le_of_ble_eq_true rfl, Nat.le_of_ble_eq_true rfl⟩ (Nat.le_of_ble_eq_true rfl) dX11_dog_6 (ct_X9_letPass  h) (fun st_3 h => ?_)
  refine J_aload_n 0 dX11_dog_9 rfl rfl ?_
  obtain ⟨r_4, hf, h⟩ := h
  refine J_getR fl_RX11_42 dX11_dog_10 hf ?_
  obtain ⟨ho, h⟩ := h
  refine J_cvi (As := []) md_X2_dogCount k_763 (rc_obj cl_2 ho) rfl rfl ⟨Nat.le_of_ble_eq_true rfl, Nat.le_of_ble_eq_true rfl⟩ ⟨Nat.le_of_ble_eq_true rfl, Nat.le_of_ble_eq_true rfl⟩ (Nat.le_of_ble_eq_true rfl) dX11_dog_13 (ct_X2_dogCount  h) (fun z_5 st_6 h => ?_)
  refine J_aload_n 0 dX11_dog_16 rfl rfl ?_
  obtain ⟨r_7, hf, h⟩ := h
  refine J_getR fl_RX11_36 dX11_dog_17 hf ?_
  obtain ⟨ho, h⟩ := h
  refine J_cvi (As := []) md_X2_dogCount k_763 (rc_obj cl_2 ho) rfl rfl ⟨Nat.le_of_ble_eq_true rfl, Nat.le_of_ble_eq_true rfl⟩ ⟨Nat.le_of_ble_eq_true rfl, Nat.le_of_ble_eq_true rfl⟩ (Nat.le_of_ble_eq_true rfl) dX11_dog_20 (ct_X2_dogCount  h) (fun z_8 st_9 h => ?_)
  refine J_isub dX11_dog_23 ?_
  exact J_reti rfl dX11_dog_24 h
/-! X11_toTrain -/
def P_X11_toTrain  (a0 : Nat) (a1 : Int32) (a2 : Int32) (st : St) (post : Int32 → St → Prop) (pex : String → St → Prop) : Prop := oC a0 11 ∧ P_X11_needPerson  a0 a1 st (fun st_2 => oC a0 11 ∧ P_X11_needBride  a0 a2 st_2 (fun st_4 => ∃ r_5, rv st_4 a0 11 10 = some r_5 ∧ oC r_5 9 ∧ P_X9_leastTrains  r_5 a1 a2 st_4 (fun z_6 st_7 => post z_6 st_7)) pex) pex
set_option maxRecDepth 100000 in
set_option maxHeartbeats 4000000 in
theorem ct_X11_toTrain {l : Launch} {E : En} (hl0 : l.stackTraces = false)  {a0 : Nat} {a1 : Int32} {a2 : Int32} {st : St} {post : Int32 → St → Prop} {pex : String → St → Prop} (h : P_X11_toTrain  a0 a1 a2 st post pex) : CtXI l E (CFc E) 8 2 12 yX11_toTrain cX11_toTrain 3 (some .int) [.ref a0, .int a1, .int a2] st post pex := by
  refine ctXI_of (by decide) (Nat.le_of_ble_eq_true rfl) ?_
  show Jg l E (CFc E) (Rm 8 2 12) cX11_toTrain 3 RX11 (some .int) XTn (QXI E post pex 2 12) 0 0 0 [(0, .ref a0), (1, .int a1), (2, .int a2)] [] st
  unfold P_X11_toTrain at h
  refine J_aload_n 0 dX11_toTrain_0 rfl rfl ?_
  refine J_iload_n 1 dX11_toTrain_1 rfl rfl ?_
  obtain ⟨ho, h⟩ := h
  refine J_xcvI (As := [_]) md_X11_needPerson k_772 (rc_obj cl_11 ho) rfl rfl ⟨Nat.le_of_ble_eq_true rfl, Nat.le_of_ble_eq_true rfl⟩ ⟨Nat.le_of_ble_eq_true rfl, Nat.le_of_ble_eq_true rfl⟩ (Nat.le_of_ble_eq_true rfl) dX11_toTrain_2 (ct_X11_needPerson hl0 h) (by decide) (by decide) (fun _ _ h => h) (fun st_2 h => ?_)
  refine J_aload_n 0 dX11_toTrain_5 rfl rfl ?_
  refine J_iload_n 2 dX11_toTrain_6 rfl rfl ?_
  obtain ⟨ho, h⟩ := h
  refine J_xcvI (As := [_]) md_X11_needBride k_782 (rc_obj cl_11 ho) rfl rfl ⟨Nat.le_of_ble_eq_true rfl, Nat.le_of_ble_eq_true rfl⟩ ⟨Nat.le_of_ble_eq_true rfl, Nat.le_of_ble_eq_true rfl⟩ (Nat.le_of_ble_eq_true rfl) dX11_toTrain_7 (ct_X11_needBride hl0 h) (by decide) (by decide) (fun _ _ h => h) (fun st_4 h => ?_)
  refine J_aload_n 0 dX11_toTrain_10 rfl rfl ?_
  obtain ⟨r_5, hf, h⟩ := h
  refine J_getR fl_RX11_63 dX11_toTrain_11 hf ?_
  refine J_iload_n 1 dX11_toTrain_14 rfl rfl ?_
  refine J_iload_n 2 dX11_toTrain_15 rfl rfl ?_
  obtain ⟨ho, h⟩ := h
  refine J_cvi (As := [_, _]) md_X9_leastTrains k_835 (rc_obj cl_9 ho) rfl rfl ⟨Nat.le_of_ble_eq_true rfl, Nat.le_of_ble_eq_true rfl⟩ ⟨Nat.le_of_ble_eq_true rfl, Nat.le_of_ble_eq_true rfl⟩ (Nat.le_of_ble_eq_true rfl) dX11_toTrain_16 (ct_X9_leastTrains  h) (fun z_6 st_7 h => ?_)
  exact J_xreti rfl dX11_toTrain_19 h
/-! X11_instead -/
def P_X11_instead  (a0 : Nat) (a1 : Int32) (st : St) (post : Int32 → St → Prop) (pex : String → St → Prop) : Prop := oC a0 11 ∧ P_X11_needPerson  a0 a1 st (fun st_2 => ∃ r_3, rv st_2 a0 11 10 = some r_3 ∧ oC r_3 9 ∧ P_X9_otherwiseWithout  r_3 a1 st_2 (fun z_4 st_5 => post z_4 st_5)) pex
set_option maxRecDepth 100000 in
set_option maxHeartbeats 4000000 in
theorem ct_X11_instead {l : Launch} {E : En} (hl0 : l.stackTraces = false)  {a0 : Nat} {a1 : Int32} {st : St} {post : Int32 → St → Prop} {pex : String → St → Prop} (h : P_X11_instead  a0 a1 st post pex) : CtXI l E (CFc E) 8 1 6 yX11_instead cX11_instead 2 (some .int) [.ref a0, .int a1] st post pex := by
  refine ctXI_of (by decide) (Nat.le_of_ble_eq_true rfl) ?_
  show Jg l E (CFc E) (Rm 8 1 6) cX11_instead 2 RX11 (some .int) XTn (QXI E post pex 1 6) 0 0 0 [(0, .ref a0), (1, .int a1)] [] st
  unfold P_X11_instead at h
  refine J_aload_n 0 dX11_instead_0 rfl rfl ?_
  refine J_iload_n 1 dX11_instead_1 rfl rfl ?_
  obtain ⟨ho, h⟩ := h
  refine J_xcvI (As := [_]) md_X11_needPerson k_772 (rc_obj cl_11 ho) rfl rfl ⟨Nat.le_of_ble_eq_true rfl, Nat.le_of_ble_eq_true rfl⟩ ⟨Nat.le_of_ble_eq_true rfl, Nat.le_of_ble_eq_true rfl⟩ (Nat.le_of_ble_eq_true rfl) dX11_instead_2 (ct_X11_needPerson hl0 h) (by decide) (by decide) (fun _ _ h => h) (fun st_2 h => ?_)
  refine J_aload_n 0 dX11_instead_5 rfl rfl ?_
  obtain ⟨r_3, hf, h⟩ := h
  refine J_getR fl_RX11_63 dX11_instead_6 hf ?_
  refine J_iload_n 1 dX11_instead_9 rfl rfl ?_
  obtain ⟨ho, h⟩ := h
  refine J_cvi (As := [_]) md_X9_otherwiseWithout k_839 (rc_obj cl_9 ho) rfl rfl ⟨Nat.le_of_ble_eq_true rfl, Nat.le_of_ble_eq_true rfl⟩ ⟨Nat.le_of_ble_eq_true rfl, Nat.le_of_ble_eq_true rfl⟩ (Nat.le_of_ble_eq_true rfl) dX11_instead_10 (ct_X9_otherwiseWithout  h) (fun z_4 st_5 h => ?_)
  exact J_xreti rfl dX11_instead_13 h
/-! X11_busiest -/
def P_X11_busiest_58  (a0 : Nat) (a1 : Int32) (k20 : Int32 → Int32 → Int32 → St → Prop) (post : Int32 → St → Prop) (pex : String → St → Prop) (x2 : Int32) (x3 : Int32) (x4 : Int32) (st : St) : Prop := k20 x2 x3 (x4 + 1) st
def P_X11_busiest_20  (a0 : Nat) (a1 : Int32)  (post : Int32 → St → Prop) (pex : String → St → Prop) : Nat → Int32 → Int32 → Int32 → St → Prop
  | 0, _, _, _, _ => False
  | n9 + 1, x2, x3, x4, st => ∃ r_1, rv st a0 11 7 = some r_1 ∧ ∃ r_2, rv st r_1 2 0 = some r_2 ∧ fk r_2 3 0 = some 0 ∧ (((gI st r_2 0) ≤ x4 → post x2 st) ∧ (¬ (gI st r_2 0) ≤ x4 → ∃ r_3, rv st a0 11 10 = some r_3 ∧ oC r_3 9 ∧ P_X9_newlyLed  r_3 x4 st (fun z_4 st_5 => ((z_4 ≤ x3 → P_X11_busiest_58  a0 a1 (fun x2 x3 x4 st => P_X11_busiest_20  a0 a1  post pex n9 x2 x3 x4 st) post pex x2 x3 x4 st_5) ∧ (¬ z_4 ≤ x3 → P_X11_busiest_58  a0 a1 (fun x2 x3 x4 st => P_X11_busiest_20  a0 a1  post pex n9 x2 x3 x4 st) post pex x4 z_4 x4 st_5)))))
def P_X11_busiest  (a0 : Nat) (a1 : Int32) (st : St) (post : Int32 → St → Prop) (pex : String → St → Prop) : Prop := oC a0 11 ∧ P_X11_needForesight  a0 a1 st (fun st_2 => ∃ r_3, rv st_2 a0 11 10 = some r_3 ∧ oC r_3 9 ∧ P_X9_letPass  r_3 a1 st_2 (fun st_5 => ∃ n8, P_X11_busiest_20  a0 a1  post pex n8 (-1) 0 0 st_5)) pex
set_option maxRecDepth 100000 in
set_option maxHeartbeats 4000000 in
theorem K_X11_busiest_58 {l : Launch} {E : En} (hl0 : l.stackTraces = false)  (a0 : Nat) (a1 : Int32) {k20 : Int32 → Int32 → Int32 → St → Prop} {post : Int32 → St → Prop} {pex : String → St → Prop} (hk20 : ∀ (x2 : Int32) (x3 : Int32) (x4 : Int32) (st : St), k20 x2 x3 x4 st → Jg l E (CFc E) (Rm 7 1 6) cX11_busiest 6 RX11 (some .int) XTn (QXI E post pex 1 6) 1 6 20 [(0, .ref a0), (1, .int a1), (2, .int x2), (3, .int x3), (4, .int x4)] [] st) (x2 : Int32) (x3 : Int32) (x4 : Int32) (st : St) (h : P_X11_busiest_58  a0 a1 k20 post pex x2 x3 x4 st) : Jg l E (CFc E) (Rm 7 1 6) cX11_busiest 6 RX11 (some .int) XTn (QXI E post pex 1 6) 1 6 58 [(0, .ref a0), (1, .int a1), (2, .int x2), (3, .int x3), (4, .int x4)] [] st := by
  unfold P_X11_busiest_58 at h
  refine J_iinc 4 (x4 + 1) _ dX11_busiest_58 rfl (by rfl) (by decide) rfl ?_
  refine J_goto 20 dX11_busiest_61 (by decide) ?_
  exact J_lv [1, 2, 3, 4, 0] rfl (hk20 x2 x3 (x4 + 1) st h)
set_option maxRecDepth 100000 in
set_option maxHeartbeats 4000000 in
theorem K_X11_busiest_20 {l : Launch} {E : En} (hl0 : l.stackTraces = false)  (a0 : Nat) (a1 : Int32)  {post : Int32 → St → Prop} {pex : String → St → Prop}  : ∀ (n9 : Nat) (x2 : Int32) (x3 : Int32) (x4 : Int32) (st : St), P_X11_busiest_20  a0 a1  post pex n9 x2 x3 x4 st → Jg l E (CFc E) (Rm 7 1 6) cX11_busiest 6 RX11 (some .int) XTn (QXI E post pex 1 6) 1 6 20 [(0, .ref a0), (1, .int a1), (2, .int x2), (3, .int x3), (4, .int x4)] [] st := by
  intro n9
  induction n9 with
  | zero => intro x2 x3 x4 st h; exact h.elim
  | succ n9 ih =>
    intro x2 x3 x4 st h
    unfold P_X11_busiest_20 at h
    refine J_iload 4 dX11_busiest_20 rfl ?_
    refine J_aload_n 0 dX11_busiest_22 rfl rfl ?_
    obtain ⟨r_1, hf, h⟩ := h
    refine J_getR fl_RX11_36 dX11_busiest_23 hf ?_
    obtain ⟨r_2, hf, h⟩ := h
    refine J_getR fl_RX11_108 dX11_busiest_26 hf ?_
    obtain ⟨hf, h⟩ := h
    refine J_getI fl_RX11_134 dX11_busiest_29 hf ?_
    refine J_icmp_ge 64 dX11_busiest_32 (by decide) (fun hc => ?_) (fun hc => ?_)
    · have h := h.1 hc
      refine J_iload_n 2 dX11_busiest_64 rfl rfl ?_
      exact J_xreti rfl dX11_busiest_65 h
    · have h := h.2 hc
      refine J_aload_n 0 dX11_busiest_35 rfl rfl ?_
      obtain ⟨r_3, hf, h⟩ := h
      refine J_getR fl_RX11_63 dX11_busiest_36 hf ?_
      refine J_iload 4 dX11_busiest_39 rfl ?_
      obtain ⟨ho, h⟩ := h
      refine J_cvi (As := [_]) md_X9_newlyLed k_826 (rc_obj cl_9 ho) rfl rfl ⟨Nat.le_of_ble_eq_true rfl, Nat.le_of_ble_eq_true rfl⟩ ⟨Nat.le_of_ble_eq_true rfl, Nat.le_of_ble_eq_true rfl⟩ (Nat.le_of_ble_eq_true rfl) dX11_busiest_41 (ct_X9_newlyLed  h) (fun z_4 st_5 h => ?_)
      refine J_istore _ dX11_busiest_44 (by decide) rfl ?_
      refine J_iload 0 dX11_busiest_46 rfl ?_
      refine J_iload_n 4 dX11_busiest_48 rfl rfl ?_
      refine J_icmp_le 58 dX11_busiest_49 (by decide) (fun hc => ?_) (fun hc => ?_)
      · have h := h.1 hc
        exact J_lv [1, 2, 3, 4, 5] rfl (K_X11_busiest_58 hl0  a0 a1 (fun x2 x3 x4 st h => ih x2 x3 x4 st h) x2 x3 x4 st_5 h)
      · have h := h.2 hc
        refine J_iload 0 dX11_busiest_52 rfl ?_
        refine J_istore_n _ dX11_busiest_54 rfl (by decide) rfl ?_
        refine J_iload 5 dX11_busiest_55 rfl ?_
        refine J_istore_n _ dX11_busiest_57 rfl (by decide) rfl ?_
        exact J_lv [3, 4, 0, 1, 5] rfl (K_X11_busiest_58 hl0  a0 a1 (fun x2 x3 x4 st h => ih x2 x3 x4 st h) x4 z_4 x4 st_5 h)
set_option maxRecDepth 100000 in
set_option maxHeartbeats 4000000 in
theorem ct_X11_busiest {l : Launch} {E : En} (hl0 : l.stackTraces = false)  {a0 : Nat} {a1 : Int32} {st : St} {post : Int32 → St → Prop} {pex : String → St → Prop} (h : P_X11_busiest  a0 a1 st post pex) : CtXI l E (CFc E) 7 1 6 yX11_busiest cX11_busiest 6 (some .int) [.ref a0, .int a1] st post pex := by
  refine ctXI_of (by decide) (Nat.le_of_ble_eq_true rfl) ?_
  show Jg l E (CFc E) (Rm 7 1 6) cX11_busiest 6 RX11 (some .int) XTn (QXI E post pex 1 6) 0 0 0 [(0, .ref a0), (1, .int a1)] [] st
  unfold P_X11_busiest at h
  refine J_aload_n 0 dX11_busiest_0 rfl rfl ?_
  refine J_iload_n 1 dX11_busiest_1 rfl rfl ?_
  obtain ⟨ho, h⟩ := h
  refine J_xcvI (As := [_]) md_X11_needForesight k_819 (rc_obj cl_11 ho) rfl rfl ⟨Nat.le_of_ble_eq_true rfl, Nat.le_of_ble_eq_true rfl⟩ ⟨Nat.le_of_ble_eq_true rfl, Nat.le_of_ble_eq_true rfl⟩ (Nat.le_of_ble_eq_true rfl) dX11_busiest_2 (ct_X11_needForesight hl0 h) (by decide) (by decide) (fun _ _ h => h) (fun st_2 h => ?_)
  refine J_aload_n 0 dX11_busiest_5 rfl rfl ?_
  obtain ⟨r_3, hf, h⟩ := h
  refine J_getR fl_RX11_63 dX11_busiest_6 hf ?_
  refine J_iload_n 1 dX11_busiest_9 rfl rfl ?_
  obtain ⟨ho, h⟩ := h
  refine J_cvv (As := [_]) md_X9_letPass k_822 (rc_obj cl_9 ho) rfl rfl ⟨Nat.le_of_ble_eq_true rfl, Nat.le_of_ble_eq_true rfl⟩ ⟨Nat.le_of_ble_eq_true rfl, Nat.le_of_ble_eq_true rfl⟩ (Nat.le_of_ble_eq_true rfl) dX11_busiest_10 (ct_X9_letPass  h) (fun st_5 h => ?_)
  refine J_iconst (-1) dX11_busiest_13 (by decide) ?_
  refine J_istore_n _ dX11_busiest_14 rfl (by decide) rfl ?_
  refine J_iconst 0 dX11_busiest_15 (by decide) ?_
  refine J_istore_n _ dX11_busiest_16 rfl (by decide) rfl ?_
  refine J_iconst 0 dX11_busiest_17 (by decide) ?_
  refine J_istore _ dX11_busiest_18 (by decide) rfl ?_
  obtain ⟨n8, h⟩ := h
  exact J_lv [3, 4, 2, 1, 0] rfl (K_X11_busiest_20 hl0  a0 a1  n8 (-1) 0 0 st_5 h)
/-! X11_hidden -/
def P_X11_hidden_63  (a0 : Nat) (a1 : Int32)  (post : Int32 → St → Prop) (pex : String → St → Prop) (s0 : Int32) (st : St) : Prop := post s0 st
def P_X11_hidden  (a0 : Nat) (a1 : Int32) (st : St) (post : Int32 → St → Prop) (pex : String → St → Prop) : Prop := oC a0 11 ∧ P_X11_needWhat  a0 a1 2 st (fun st_2 => ((a1 = 0 → ∃ r_6, rv st_2 a0 11 10 = some r_6 ∧ oC r_6 9 ∧ P_X9_hiddenCount  r_6 st_2 (fun z_7 st_8 => post z_7 st_8)) ∧ (a1 = 1 → ∃ r_9, rv st_2 a0 11 10 = some r_9 ∧ oC r_9 9 ∧ P_X9_firstHidden  r_9 st_2 (fun z_10 st_11 => post z_10 st_11)) ∧ (¬ a1 = 0 → ¬ a1 = 1 → ∃ r_3, rv st_2 a0 11 10 = some r_3 ∧ oC r_3 9 ∧ P_X9_seenAsItIs  r_3 st_2 (fun z_4 st_5 => ((z_4 = 0 → P_X11_hidden_63  a0 a1  post pex 0 st_5) ∧ (¬ z_4 = 0 → P_X11_hidden_63  a0 a1  post pex 1 st_5)))))) pex
set_option maxRecDepth 100000 in
set_option maxHeartbeats 4000000 in
theorem K_X11_hidden_63 {l : Launch} {E : En} (hl0 : l.stackTraces = false)  (a0 : Nat) (a1 : Int32)  {post : Int32 → St → Prop} {pex : String → St → Prop}  (s0 : Int32) (st : St) (h : P_X11_hidden_63  a0 a1  post pex s0 st) : Jg l E (CFc E) (Rm 8 1 6) cX11_hidden 2 RX11 (some .int) XTn (QXI E post pex 1 6) 1 6 63 [(0, .ref a0), (1, .int a1)] [.int s0] st := by
  unfold P_X11_hidden_63 at h
  exact J_xreti rfl dX11_hidden_63 h
set_option maxRecDepth 100000 in
set_option maxHeartbeats 4000000 in
theorem ct_X11_hidden {l : Launch} {E : En} (hl0 : l.stackTraces = false)  {a0 : Nat} {a1 : Int32} {st : St} {post : Int32 → St → Prop} {pex : String → St → Prop} (h : P_X11_hidden  a0 a1 st post pex) : CtXI l E (CFc E) 8 1 6 yX11_hidden cX11_hidden 2 (some .int) [.ref a0, .int a1] st post pex := by
  refine ctXI_of (by decide) (Nat.le_of_ble_eq_true rfl) ?_
  show Jg l E (CFc E) (Rm 8 1 6) cX11_hidden 2 RX11 (some .int) XTn (QXI E post pex 1 6) 0 0 0 [(0, .ref a0), (1, .int a1)] [] st
  unfold P_X11_hidden at h
  refine J_aload_n 0 dX11_hidden_0 rfl rfl ?_
  refine J_iload_n 1 dX11_hidden_1 rfl rfl ?_
  refine J_iconst 2 dX11_hidden_2 (by decide) ?_
  obtain ⟨ho, h⟩ := h
  refine J_xcvI (As := [_, _]) md_X11_needWhat k_753 (rc_obj cl_11 ho) rfl rfl ⟨Nat.le_of_ble_eq_true rfl, Nat.le_of_ble_eq_true rfl⟩ ⟨Nat.le_of_ble_eq_true rfl, Nat.le_of_ble_eq_true rfl⟩ (Nat.le_of_ble_eq_true rfl) dX11_hidden_3 (ct_X11_needWhat hl0 h) (by decide) (by decide) (fun _ _ h => h) (fun st_2 h => ?_)
  refine J_iload_n 1 dX11_hidden_6 rfl rfl ?_
  by_cases hc0 : a1 = 0
  · have h := h.1 hc0
    refine J_lsw (off := 25) 32 dX11_hidden_7 (by decide) (by rw [hc0] <;> rfl) (by decide) ?_
    refine J_aload_n 0 dX11_hidden_32 rfl rfl ?_
    obtain ⟨r_6, hf, h⟩ := h
    refine J_getR fl_RX11_63 dX11_hidden_33 hf ?_
    obtain ⟨ho, h⟩ := h
    refine J_cvi (As := []) md_X9_hiddenCount k_873 (rc_obj cl_9 ho) rfl rfl ⟨Nat.le_of_ble_eq_true rfl, Nat.le_of_ble_eq_true rfl⟩ ⟨Nat.le_of_ble_eq_true rfl, Nat.le_of_ble_eq_true rfl⟩ (Nat.le_of_ble_eq_true rfl) dX11_hidden_36 (ct_X9_hiddenCount  h) (fun z_7 st_8 h => ?_)
    exact J_xreti rfl dX11_hidden_39 h
  by_cases hc1 : a1 = 1
  · have h := h.2.1 hc1
    refine J_lsw (off := 33) 40 dX11_hidden_7 (by decide) (by rw [lv_osw hc0 (k := 0) (by decide)] <;> rw [hc1] <;> rfl) (by decide) ?_
    refine J_aload_n 0 dX11_hidden_40 rfl rfl ?_
    obtain ⟨r_9, hf, h⟩ := h
    refine J_getR fl_RX11_63 dX11_hidden_41 hf ?_
    obtain ⟨ho, h⟩ := h
    refine J_cvi (As := []) md_X9_firstHidden k_876 (rc_obj cl_9 ho) rfl rfl ⟨Nat.le_of_ble_eq_true rfl, Nat.le_of_ble_eq_true rfl⟩ ⟨Nat.le_of_ble_eq_true rfl, Nat.le_of_ble_eq_true rfl⟩ (Nat.le_of_ble_eq_true rfl) dX11_hidden_44 (ct_X9_firstHidden  h) (fun z_10 st_11 h => ?_)
    exact J_xreti rfl dX11_hidden_47 h
  have h := h.2.2 hc0 hc1
  refine J_lsw (off := 41) 48 dX11_hidden_7 (by decide) (by rw [lv_osw hc0 (k := 0) (by decide)] <;> rw [lv_osw hc1 (k := 1) (by decide)] <;> rfl) (by decide) ?_
  refine J_aload_n 0 dX11_hidden_48 rfl rfl ?_
  obtain ⟨r_3, hf, h⟩ := h
  refine J_getR fl_RX11_63 dX11_hidden_49 hf ?_
  obtain ⟨ho, h⟩ := h
  refine J_cvi (As := []) md_X9_seenAsItIs k_879 (rc_obj cl_9 ho) rfl rfl ⟨Nat.le_of_ble_eq_true rfl, Nat.le_of_ble_eq_true rfl⟩ ⟨Nat.le_of_ble_eq_true rfl, Nat.le_of_ble_eq_true rfl⟩ (Nat.le_of_ble_eq_true rfl) dX11_hidden_52 (ct_X9_seenAsItIs  h) (fun z_4 st_5 h => ?_)
  refine J_if_eq 62 dX11_hidden_55 (by decide) (fun hc => ?_) (fun hc => ?_)
  · have h := h.1 hc
    refine J_iconst 0 dX11_hidden_62 (by decide) ?_
    exact J_lv [0, 1] rfl (K_X11_hidden_63 hl0  a0 a1  0 st_5 h)
  · have h := h.2 hc
    refine J_iconst 1 dX11_hidden_58 (by decide) ?_
    refine J_goto 63 dX11_hidden_59 (by decide) ?_
    exact J_lv [0, 1] rfl (K_X11_hidden_63 hl0  a0 a1  1 st_5 h)
/-! X11_next -/
def P_X11_next_20  (a0 : Nat) (a1 : Int32)  (post : Int32 → St → Prop) (pex : String → St → Prop) (s0 : Int32) (s1 : Nat) (st : St) : Prop := oC s1 9 ∧ P_X9_weighNext  s1 s0 st (fun z_1 st_2 => post z_1 st_2)
def P_X11_next  (a0 : Nat) (a1 : Int32) (st : St) (post : Int32 → St → Prop) (pex : String → St → Prop) : Prop := oC a0 11 ∧ P_X11_needWhat  a0 a1 1 st (fun st_2 => ∃ r_3, rv st_2 a0 11 10 = some r_3 ∧ ((¬ a1 = 1 → P_X11_next_20  a0 a1  post pex 0 r_3 st_2) ∧ (a1 = 1 → P_X11_next_20  a0 a1  post pex 1 r_3 st_2))) pex
set_option maxRecDepth 100000 in
set_option maxHeartbeats 4000000 in
theorem K_X11_next_20 {l : Launch} {E : En} (hl0 : l.stackTraces = false)  (a0 : Nat) (a1 : Int32)  {post : Int32 → St → Prop} {pex : String → St → Prop}  (s0 : Int32) (s1 : Nat) (st : St) (h : P_X11_next_20  a0 a1  post pex s0 s1 st) : Jg l E (CFc E) (Rm 8 1 6) cX11_next 2 RX11 (some .int) XTn (QXI E post pex 1 6) 1 6 20 [(0, .ref a0), (1, .int a1)] [.int s0, .ref s1] st := by
  unfold P_X11_next_20 at h
  obtain ⟨ho, h⟩ := h
  refine J_cvi (As := [_]) md_X9_weighNext k_883 (rc_obj cl_9 ho) rfl rfl ⟨Nat.le_of_ble_eq_true rfl, Nat.le_of_ble_eq_true rfl⟩ ⟨Nat.le_of_ble_eq_true rfl, Nat.le_of_ble_eq_true rfl⟩ (Nat.le_of_ble_eq_true rfl) dX11_next_20 (ct_X9_weighNext  h) (fun z_1 st_2 h => ?_)
  exact J_xreti rfl dX11_next_23 h
set_option maxRecDepth 100000 in
set_option maxHeartbeats 4000000 in
theorem ct_X11_next {l : Launch} {E : En} (hl0 : l.stackTraces = false)  {a0 : Nat} {a1 : Int32} {st : St} {post : Int32 → St → Prop} {pex : String → St → Prop} (h : P_X11_next  a0 a1 st post pex) : CtXI l E (CFc E) 8 1 6 yX11_next cX11_next 2 (some .int) [.ref a0, .int a1] st post pex := by
  refine ctXI_of (by decide) (Nat.le_of_ble_eq_true rfl) ?_
  show Jg l E (CFc E) (Rm 8 1 6) cX11_next 2 RX11 (some .int) XTn (QXI E post pex 1 6) 0 0 0 [(0, .ref a0), (1, .int a1)] [] st
  unfold P_X11_next at h
  refine J_aload_n 0 dX11_next_0 rfl rfl ?_
  refine J_iload_n 1 dX11_next_1 rfl rfl ?_
  refine J_iconst 1 dX11_next_2 (by decide) ?_
  obtain ⟨ho, h⟩ := h
  refine J_xcvI (As := [_, _]) md_X11_needWhat k_753 (rc_obj cl_11 ho) rfl rfl ⟨Nat.le_of_ble_eq_true rfl, Nat.le_of_ble_eq_true rfl⟩ ⟨Nat.le_of_ble_eq_true rfl, Nat.le_of_ble_eq_true rfl⟩ (Nat.le_of_ble_eq_true rfl) dX11_next_3 (ct_X11_needWhat hl0 h) (by decide) (by decide) (fun _ _ h => h) (fun st_2 h => ?_)
  refine J_aload_n 0 dX11_next_6 rfl rfl ?_
  obtain ⟨r_3, hf, h⟩ := h
  refine J_getR fl_RX11_63 dX11_next_7 hf ?_
  refine J_iload_n 1 dX11_next_10 rfl rfl ?_
  refine J_iconst 1 dX11_next_11 (by decide) ?_
  refine J_icmp_ne 19 dX11_next_12 (by decide) (fun hc => ?_) (fun hc => ?_)
  · have h := h.1 hc
    refine J_iconst 0 dX11_next_19 (by decide) ?_
    exact J_lv [0, 1] rfl (K_X11_next_20 hl0  a0 a1  0 r_3 st_2 h)
  · have h := h.2 hc
    refine J_iconst 1 dX11_next_15 (by decide) ?_
    refine J_goto 20 dX11_next_16 (by decide) ?_
    exact J_lv [0, 1] rfl (K_X11_next_20 hl0  a0 a1  1 r_3 st_2 h)
/-! X11_game -/
def P_X11_game_65  (a0 : Nat) (a1 : Int32) (a2 : Int32) (a3 : Int32) (a4 : Int32)  (post : Int32 → St → Prop) (pex : String → St → Prop) (s0 : Int32) (st : St) : Prop := post s0 st
def P_X11_game  (a0 : Nat) (a1 : Int32) (a2 : Int32) (a3 : Int32) (a4 : Int32) (st : St) (post : Int32 → St → Prop) (pex : String → St → Prop) : Prop := oC a0 11 ∧ P_X11_needPerson  a0 a1 st (fun st_2 => oC a0 11 ∧ P_X11_needPerson  a0 a2 st_2 (fun st_4 => oC a0 11 ∧ P_X11_needBride  a0 a3 st_4 (fun st_6 => oC a0 11 ∧ P_X11_needWhat  a0 a4 1 st_6 (fun st_8 => oC a0 11 ∧ P_X11_needRivals  a0 a1 a2 a3 st_8 (fun st_10 => ∃ r_11, rv st_10 a0 11 10 = some r_11 ∧ oC r_11 9 ∧ P_X9_playAll  r_11 a1 a2 a3 st_10 (fun st_13 => ((¬ a4 = 0 → ∃ r_14, rv st_13 a0 11 10 = some r_14 ∧ oC r_14 9 ∧ P_X9_firstResting  r_14 a1 a2 st_13 (fun z_15 st_16 => P_X11_game_65  a0 a1 a2 a3 a4  post pex z_15 st_16)) ∧ (a4 = 0 → ∃ r_17, rv st_13 a0 11 10 = some r_17 ∧ oC r_17 9 ∧ P_X9_restingCount  r_17 a1 a2 st_13 (fun z_18 st_19 => P_X11_game_65  a0 a1 a2 a3 a4  post pex z_18 st_19))))) pex) pex) pex) pex) pex
set_option maxRecDepth 100000 in
set_option maxHeartbeats 4000000 in
theorem K_X11_game_65 {l : Launch} {E : En} (hl0 : l.stackTraces = false)  (a0 : Nat) (a1 : Int32) (a2 : Int32) (a3 : Int32) (a4 : Int32)  {post : Int32 → St → Prop} {pex : String → St → Prop}  (s0 : Int32) (st : St) (h : P_X11_game_65  a0 a1 a2 a3 a4  post pex s0 st) : Jg l E (CFc E) (Rm 8 5 30) cX11_game 5 RX11 (some .int) XTn (QXI E post pex 5 30) 5 30 65 [(0, .ref a0), (1, .int a1), (2, .int a2), (3, .int a3), (4, .int a4)] [.int s0] st := by
  unfold P_X11_game_65 at h
  exact J_xreti rfl dX11_game_65 h
set_option maxRecDepth 100000 in
set_option maxHeartbeats 4000000 in
theorem ct_X11_game {l : Launch} {E : En} (hl0 : l.stackTraces = false)  {a0 : Nat} {a1 : Int32} {a2 : Int32} {a3 : Int32} {a4 : Int32} {st : St} {post : Int32 → St → Prop} {pex : String → St → Prop} (h : P_X11_game  a0 a1 a2 a3 a4 st post pex) : CtXI l E (CFc E) 8 5 30 yX11_game cX11_game 5 (some .int) [.ref a0, .int a1, .int a2, .int a3, .int a4] st post pex := by
  refine ctXI_of (by decide) (Nat.le_of_ble_eq_true rfl) ?_
  show Jg l E (CFc E) (Rm 8 5 30) cX11_game 5 RX11 (some .int) XTn (QXI E post pex 5 30) 0 0 0 [(0, .ref a0), (1, .int a1), (2, .int a2), (3, .int a3), (4, .int a4)] [] st
  unfold P_X11_game at h
  refine J_aload_n 0 dX11_game_0 rfl rfl ?_
  refine J_iload_n 1 dX11_game_1 rfl rfl ?_
  obtain ⟨ho, h⟩ := h
  refine J_xcvI (As := [_]) md_X11_needPerson k_772 (rc_obj cl_11 ho) rfl rfl ⟨Nat.le_of_ble_eq_true rfl, Nat.le_of_ble_eq_true rfl⟩ ⟨Nat.le_of_ble_eq_true rfl, Nat.le_of_ble_eq_true rfl⟩ (Nat.le_of_ble_eq_true rfl) dX11_game_2 (ct_X11_needPerson hl0 h) (by decide) (by decide) (fun _ _ h => h) (fun st_2 h => ?_)
  refine J_aload_n 0 dX11_game_5 rfl rfl ?_
  refine J_iload_n 2 dX11_game_6 rfl rfl ?_
  obtain ⟨ho, h⟩ := h
  refine J_xcvI (As := [_]) md_X11_needPerson k_772 (rc_obj cl_11 ho) rfl rfl ⟨Nat.le_of_ble_eq_true rfl, Nat.le_of_ble_eq_true rfl⟩ ⟨Nat.le_of_ble_eq_true rfl, Nat.le_of_ble_eq_true rfl⟩ (Nat.le_of_ble_eq_true rfl) dX11_game_7 (ct_X11_needPerson hl0 h) (by decide) (by decide) (fun _ _ h => h) (fun st_4 h => ?_)
  refine J_aload_n 0 dX11_game_10 rfl rfl ?_
  refine J_iload_n 3 dX11_game_11 rfl rfl ?_
  obtain ⟨ho, h⟩ := h
  refine J_xcvI (As := [_]) md_X11_needBride k_782 (rc_obj cl_11 ho) rfl rfl ⟨Nat.le_of_ble_eq_true rfl, Nat.le_of_ble_eq_true rfl⟩ ⟨Nat.le_of_ble_eq_true rfl, Nat.le_of_ble_eq_true rfl⟩ (Nat.le_of_ble_eq_true rfl) dX11_game_12 (ct_X11_needBride hl0 h) (by decide) (by decide) (fun _ _ h => h) (fun st_6 h => ?_)
  refine J_aload_n 0 dX11_game_15 rfl rfl ?_
  refine J_iload 4 dX11_game_16 rfl ?_
  refine J_iconst 1 dX11_game_18 (by decide) ?_
  obtain ⟨ho, h⟩ := h
  refine J_xcvI (As := [_, _]) md_X11_needWhat k_753 (rc_obj cl_11 ho) rfl rfl ⟨Nat.le_of_ble_eq_true rfl, Nat.le_of_ble_eq_true rfl⟩ ⟨Nat.le_of_ble_eq_true rfl, Nat.le_of_ble_eq_true rfl⟩ (Nat.le_of_ble_eq_true rfl) dX11_game_19 (ct_X11_needWhat hl0 h) (by decide) (by decide) (fun _ _ h => h) (fun st_8 h => ?_)
  refine J_aload_n 0 dX11_game_22 rfl rfl ?_
  refine J_iload_n 1 dX11_game_23 rfl rfl ?_
  refine J_iload_n 2 dX11_game_24 rfl rfl ?_
  refine J_iload_n 3 dX11_game_25 rfl rfl ?_
  obtain ⟨ho, h⟩ := h
  refine J_xcvI (As := [_, _, _]) md_X11_needRivals k_889 (rc_obj cl_11 ho) rfl rfl ⟨Nat.le_of_ble_eq_true rfl, Nat.le_of_ble_eq_true rfl⟩ ⟨Nat.le_of_ble_eq_true rfl, Nat.le_of_ble_eq_true rfl⟩ (Nat.le_of_ble_eq_true rfl) dX11_game_26 (ct_X11_needRivals hl0 h) (by decide) (by decide) (fun _ _ h => h) (fun st_10 h => ?_)
  refine J_aload_n 0 dX11_game_29 rfl rfl ?_
  obtain ⟨r_11, hf, h⟩ := h
  refine J_getR fl_RX11_63 dX11_game_30 hf ?_
  refine J_iload_n 1 dX11_game_33 rfl rfl ?_
  refine J_iload_n 2 dX11_game_34 rfl rfl ?_
  refine J_iload_n 3 dX11_game_35 rfl rfl ?_
  obtain ⟨ho, h⟩ := h
  refine J_cvv (As := [_, _, _]) md_X9_playAll k_892 (rc_obj cl_9 ho) rfl rfl ⟨Nat.le_of_ble_eq_true rfl, Nat.le_of_ble_eq_true rfl⟩ ⟨Nat.le_of_ble_eq_true rfl, Nat.le_of_ble_eq_true rfl⟩ (Nat.le_of_ble_eq_true rfl) dX11_game_36 (ct_X9_playAll  h) (fun st_13 h => ?_)
  refine J_iload 4 dX11_game_39 rfl ?_
  refine J_if_ne 56 dX11_game_41 (by decide) (fun hc => ?_) (fun hc => ?_)
  · have h := h.1 hc
    refine J_aload_n 0 dX11_game_56 rfl rfl ?_
    obtain ⟨r_14, hf, h⟩ := h
    refine J_getR fl_RX11_63 dX11_game_57 hf ?_
    refine J_iload_n 1 dX11_game_60 rfl rfl ?_
    refine J_iload_n 2 dX11_game_61 rfl rfl ?_
    obtain ⟨ho, h⟩ := h
    refine J_cvi (As := [_, _]) md_X9_firstResting k_898 (rc_obj cl_9 ho) rfl rfl ⟨Nat.le_of_ble_eq_true rfl, Nat.le_of_ble_eq_true rfl⟩ ⟨Nat.le_of_ble_eq_true rfl, Nat.le_of_ble_eq_true rfl⟩ (Nat.le_of_ble_eq_true rfl) dX11_game_62 (ct_X9_firstResting  h) (fun z_15 st_16 h => ?_)
    exact J_lv [0, 1, 2, 3, 4] rfl (K_X11_game_65 hl0  a0 a1 a2 a3 a4  z_15 st_16 h)
  · have h := h.2 hc
    refine J_aload_n 0 dX11_game_44 rfl rfl ?_
    obtain ⟨r_17, hf, h⟩ := h
    refine J_getR fl_RX11_63 dX11_game_45 hf ?_
    refine J_iload_n 1 dX11_game_48 rfl rfl ?_
    refine J_iload_n 2 dX11_game_49 rfl rfl ?_
    obtain ⟨ho, h⟩ := h
    refine J_cvi (As := [_, _]) md_X9_restingCount k_895 (rc_obj cl_9 ho) rfl rfl ⟨Nat.le_of_ble_eq_true rfl, Nat.le_of_ble_eq_true rfl⟩ ⟨Nat.le_of_ble_eq_true rfl, Nat.le_of_ble_eq_true rfl⟩ (Nat.le_of_ble_eq_true rfl) dX11_game_50 (ct_X9_restingCount  h) (fun z_18 st_19 h => ?_)
    refine J_goto 65 dX11_game_53 (by decide) ?_
    exact J_lv [0, 1, 2, 3, 4] rfl (K_X11_game_65 hl0  a0 a1 a2 a3 a4  z_18 st_19 h)
/-! X11_drawn -/
def P_X11_drawn  (a0 : Nat) (a1 : Int32) (a2 : Int32) (a3 : Int32) (st : St) (post : Int32 → St → Prop) (pex : String → St → Prop) : Prop := oC a0 11 ∧ P_X11_needWhat  a0 a3 2 st (fun st_2 => oC a0 11 ∧ P_X11_needForesight  a0 a2 st_2 (fun st_4 => ∃ r_5, rv st_4 a0 11 10 = some r_5 ∧ oC r_5 9 ∧ P_X9_drawYears  r_5 a1 a2 st_4 (fun st_7 => ((a3 = 0 → ∃ r_11, rv st_7 a0 11 7 = some r_11 ∧ ∃ r_12, rv st_7 r_11 2 0 = some r_12 ∧ fk r_12 3 1 = some 0 ∧ ∃ r_13, rv st_7 a0 11 8 = some r_13 ∧ oC r_13 2 ∧ P_X2_homeBits  r_13 st_7 (fun z_14 st_15 => P_J6_bitCount_0f7a4  z_14 st_15 (fun z_16 st_17 => post ((gI st_7 r_12 1) - z_16) st_17))) ∧ (a3 = 1 → ∃ r_18, rv st_7 a0 11 8 = some r_18 ∧ oC r_18 2 ∧ P_X2_dogCount  r_18 st_7 (fun z_19 st_20 => ∃ r_21, rv st_20 a0 11 7 = some r_21 ∧ oC r_21 2 ∧ P_X2_dogCount  r_21 st_20 (fun z_22 st_23 => post (z_19 - z_22) st_23))) ∧ (¬ a3 = 0 → ¬ a3 = 1 → ∃ r_8, rv st_7 a0 11 8 = some r_8 ∧ oC r_8 2 ∧ P_X2_griefOfAll  r_8 st_7 (fun z_9 st_10 => post z_9 st_10))))) pex) pex
set_option maxRecDepth 100000 in
set_option maxHeartbeats 4000000 in
theorem ct_X11_drawn {l : Launch} {E : En} (hl0 : l.stackTraces = false)  {a0 : Nat} {a1 : Int32} {a2 : Int32} {a3 : Int32} {st : St} {post : Int32 → St → Prop} {pex : String → St → Prop} (h : P_X11_drawn  a0 a1 a2 a3 st post pex) : CtXI l E (CFc E) 7 2 12 yX11_drawn cX11_drawn 4 (some .int) [.ref a0, .int a1, .int a2, .int a3] st post pex := by
  refine ctXI_of (by decide) (Nat.le_of_ble_eq_true rfl) ?_
  show Jg l E (CFc E) (Rm 7 2 12) cX11_drawn 4 RX11 (some .int) XTn (QXI E post pex 2 12) 0 0 0 [(0, .ref a0), (1, .int a1), (2, .int a2), (3, .int a3)] [] st
  unfold P_X11_drawn at h
  refine J_aload_n 0 dX11_drawn_0 rfl rfl ?_
  refine J_iload_n 3 dX11_drawn_1 rfl rfl ?_
  refine J_iconst 2 dX11_drawn_2 (by decide) ?_
  obtain ⟨ho, h⟩ := h
  refine J_xcvI (As := [_, _]) md_X11_needWhat k_753 (rc_obj cl_11 ho) rfl rfl ⟨Nat.le_of_ble_eq_true rfl, Nat.le_of_ble_eq_true rfl⟩ ⟨Nat.le_of_ble_eq_true rfl, Nat.le_of_ble_eq_true rfl⟩ (Nat.le_of_ble_eq_true rfl) dX11_drawn_3 (ct_X11_needWhat hl0 h) (by decide) (by decide) (fun _ _ h => h) (fun st_2 h => ?_)
  refine J_aload_n 0 dX11_drawn_6 rfl rfl ?_
  refine J_iload_n 2 dX11_drawn_7 rfl rfl ?_
  obtain ⟨ho, h⟩ := h
  refine J_xcvI (As := [_]) md_X11_needForesight k_819 (rc_obj cl_11 ho) rfl rfl ⟨Nat.le_of_ble_eq_true rfl, Nat.le_of_ble_eq_true rfl⟩ ⟨Nat.le_of_ble_eq_true rfl, Nat.le_of_ble_eq_true rfl⟩ (Nat.le_of_ble_eq_true rfl) dX11_drawn_8 (ct_X11_needForesight hl0 h) (by decide) (by decide) (fun _ _ h => h) (fun st_4 h => ?_)
  refine J_aload_n 0 dX11_drawn_11 rfl rfl ?_
  obtain ⟨r_5, hf, h⟩ := h
  refine J_getR fl_RX11_63 dX11_drawn_12 hf ?_
  refine J_iload_n 1 dX11_drawn_15 rfl rfl ?_
  refine J_iload_n 2 dX11_drawn_16 rfl rfl ?_
  obtain ⟨ho, h⟩ := h
  refine J_cvv (As := [_, _]) md_X9_drawYears k_902 (rc_obj cl_9 ho) rfl rfl ⟨Nat.le_of_ble_eq_true rfl, Nat.le_of_ble_eq_true rfl⟩ ⟨Nat.le_of_ble_eq_true rfl, Nat.le_of_ble_eq_true rfl⟩ (Nat.le_of_ble_eq_true rfl) dX11_drawn_17 (ct_X9_drawYears  h) (fun st_7 h => ?_)
  refine J_iload_n 3 dX11_drawn_20 rfl rfl ?_
  by_cases hc0 : a3 = 0
  · have h := h.1 hc0
    refine J_lsw (off := 27) 48 dX11_drawn_21 (by decide) (by rw [hc0] <;> rfl) (by decide) ?_
    refine J_aload_n 0 dX11_drawn_48 rfl rfl ?_
    obtain ⟨r_11, hf, h⟩ := h
    refine J_getR fl_RX11_36 dX11_drawn_49 hf ?_
    obtain ⟨r_12, hf, h⟩ := h
    refine J_getR fl_RX11_108 dX11_drawn_52 hf ?_
    obtain ⟨hf, h⟩ := h
    refine J_getI fl_RX11_137 dX11_drawn_55 hf ?_
    refine J_aload_n 0 dX11_drawn_58 rfl rfl ?_
    obtain ⟨r_13, hf, h⟩ := h
    refine J_getR fl_RX11_42 dX11_drawn_59 hf ?_
    obtain ⟨ho, h⟩ := h
    refine J_cvi (As := []) md_X2_homeBits k_760 (rc_obj cl_2 ho) rfl rfl ⟨Nat.le_of_ble_eq_true rfl, Nat.le_of_ble_eq_true rfl⟩ ⟨Nat.le_of_ble_eq_true rfl, Nat.le_of_ble_eq_true rfl⟩ (Nat.le_of_ble_eq_true rfl) dX11_drawn_62 (ct_X2_homeBits  h) (fun z_14 st_15 h => ?_)
    refine J_csi (As := [_]) md_J6_bitCount_0f7a4 k_905 rfl rfl ⟨Nat.le_of_ble_eq_true rfl, Nat.le_of_ble_eq_true rfl⟩ ⟨Nat.le_of_ble_eq_true rfl, Nat.le_of_ble_eq_true rfl⟩ (Nat.le_of_ble_eq_true rfl) dX11_drawn_65 (ct_J6_bitCount_0f7a4  h) (fun z_16 st_17 h => ?_)
    refine J_isub dX11_drawn_68 ?_
    exact J_xreti rfl dX11_drawn_69 h
  by_cases hc1 : a3 = 1
  · have h := h.2.1 hc1
    refine J_lsw (off := 49) 70 dX11_drawn_21 (by decide) (by rw [lv_osw hc0 (k := 0) (by decide)] <;> rw [hc1] <;> rfl) (by decide) ?_
    refine J_aload_n 0 dX11_drawn_70 rfl rfl ?_
    obtain ⟨r_18, hf, h⟩ := h
    refine J_getR fl_RX11_42 dX11_drawn_71 hf ?_
    obtain ⟨ho, h⟩ := h
    refine J_cvi (As := []) md_X2_dogCount k_763 (rc_obj cl_2 ho) rfl rfl ⟨Nat.le_of_ble_eq_true rfl, Nat.le_of_ble_eq_true rfl⟩ ⟨Nat.le_of_ble_eq_true rfl, Nat.le_of_ble_eq_true rfl⟩ (Nat.le_of_ble_eq_true rfl) dX11_drawn_74 (ct_X2_dogCount  h) (fun z_19 st_20 h => ?_)
    refine J_aload_n 0 dX11_drawn_77 rfl rfl ?_
    obtain ⟨r_21, hf, h⟩ := h
    refine J_getR fl_RX11_36 dX11_drawn_78 hf ?_
    obtain ⟨ho, h⟩ := h
    refine J_cvi (As := []) md_X2_dogCount k_763 (rc_obj cl_2 ho) rfl rfl ⟨Nat.le_of_ble_eq_true rfl, Nat.le_of_ble_eq_true rfl⟩ ⟨Nat.le_of_ble_eq_true rfl, Nat.le_of_ble_eq_true rfl⟩ (Nat.le_of_ble_eq_true rfl) dX11_drawn_81 (ct_X2_dogCount  h) (fun z_22 st_23 h => ?_)
    refine J_isub dX11_drawn_84 ?_
    exact J_xreti rfl dX11_drawn_85 h
  have h := h.2.2 hc0 hc1
  refine J_lsw (off := 65) 86 dX11_drawn_21 (by decide) (by rw [lv_osw hc0 (k := 0) (by decide)] <;> rw [lv_osw hc1 (k := 1) (by decide)] <;> rfl) (by decide) ?_
  refine J_aload_n 0 dX11_drawn_86 rfl rfl ?_
  obtain ⟨r_8, hf, h⟩ := h
  refine J_getR fl_RX11_42 dX11_drawn_87 hf ?_
  obtain ⟨ho, h⟩ := h
  refine J_cvi (As := []) md_X2_griefOfAll k_766 (rc_obj cl_2 ho) rfl rfl ⟨Nat.le_of_ble_eq_true rfl, Nat.le_of_ble_eq_true rfl⟩ ⟨Nat.le_of_ble_eq_true rfl, Nat.le_of_ble_eq_true rfl⟩ (Nat.le_of_ble_eq_true rfl) dX11_drawn_90 (ct_X2_griefOfAll  h) (fun z_9 st_10 h => ?_)
  exact J_xreti rfl dX11_drawn_93 h
/-! X11_bestDay -/
def P_X11_bestDay_26  (a0 : Nat) (a1 : Int32) (a2 : Int32)  (post : Int32 → St → Prop) (pex : String → St → Prop) (s0 : Int32) (s1 : Int32) (s2 : Nat) (st : St) : Prop := oC s2 9 ∧ P_X9_findBestDay  s2 s1 s0 st (fun z_1 st_2 => post z_1 st_2)
def P_X11_bestDay  (a0 : Nat) (a1 : Int32) (a2 : Int32) (st : St) (post : Int32 → St → Prop) (pex : String → St → Prop) : Prop := oC a0 11 ∧ P_X11_needBride  a0 a1 st (fun st_2 => oC a0 11 ∧ P_X11_needWhat  a0 a2 1 st_2 (fun st_4 => ∃ r_5, rv st_4 a0 11 10 = some r_5 ∧ ((¬ a2 = 1 → P_X11_bestDay_26  a0 a1 a2  post pex 0 a1 r_5 st_4) ∧ (a2 = 1 → P_X11_bestDay_26  a0 a1 a2  post pex 1 a1 r_5 st_4))) pex) pex
set_option maxRecDepth 100000 in
set_option maxHeartbeats 4000000 in
theorem K_X11_bestDay_26 {l : Launch} {E : En} (hl0 : l.stackTraces = false)  (a0 : Nat) (a1 : Int32) (a2 : Int32)  {post : Int32 → St → Prop} {pex : String → St → Prop}  (s0 : Int32) (s1 : Int32) (s2 : Nat) (st : St) (h : P_X11_bestDay_26  a0 a1 a2  post pex s0 s1 s2 st) : Jg l E (CFc E) (Rm 8 2 12) cX11_bestDay 3 RX11 (some .int) XTn (QXI E post pex 2 12) 2 12 26 [(0, .ref a0), (1, .int a1), (2, .int a2)] [.int s0, .int s1, .ref s2] st := by
  unfold P_X11_bestDay_26 at h
  obtain ⟨ho, h⟩ := h
  refine J_cvi (As := [_, _]) md_X9_findBestDay k_843 (rc_obj cl_9 ho) rfl rfl ⟨Nat.le_of_ble_eq_true rfl, Nat.le_of_ble_eq_true rfl⟩ ⟨Nat.le_of_ble_eq_true rfl, Nat.le_of_ble_eq_true rfl⟩ (Nat.le_of_ble_eq_true rfl) dX11_bestDay_26 (ct_X9_findBestDay  h) (fun z_1 st_2 h => ?_)
  exact J_xreti rfl dX11_bestDay_29 h
set_option maxRecDepth 100000 in
set_option maxHeartbeats 4000000 in
theorem ct_X11_bestDay {l : Launch} {E : En} (hl0 : l.stackTraces = false)  {a0 : Nat} {a1 : Int32} {a2 : Int32} {st : St} {post : Int32 → St → Prop} {pex : String → St → Prop} (h : P_X11_bestDay  a0 a1 a2 st post pex) : CtXI l E (CFc E) 8 2 12 yX11_bestDay cX11_bestDay 3 (some .int) [.ref a0, .int a1, .int a2] st post pex := by
  refine ctXI_of (by decide) (Nat.le_of_ble_eq_true rfl) ?_
  show Jg l E (CFc E) (Rm 8 2 12) cX11_bestDay 3 RX11 (some .int) XTn (QXI E post pex 2 12) 0 0 0 [(0, .ref a0), (1, .int a1), (2, .int a2)] [] st
  unfold P_X11_bestDay at h
  refine J_aload_n 0 dX11_bestDay_0 rfl rfl ?_
  refine J_iload_n 1 dX11_bestDay_1 rfl rfl ?_
  obtain ⟨ho, h⟩ := h
  refine J_xcvI (As := [_]) md_X11_needBride k_782 (rc_obj cl_11 ho) rfl rfl ⟨Nat.le_of_ble_eq_true rfl, Nat.le_of_ble_eq_true rfl⟩ ⟨Nat.le_of_ble_eq_true rfl, Nat.le_of_ble_eq_true rfl⟩ (Nat.le_of_ble_eq_true rfl) dX11_bestDay_2 (ct_X11_needBride hl0 h) (by decide) (by decide) (fun _ _ h => h) (fun st_2 h => ?_)
  refine J_aload_n 0 dX11_bestDay_5 rfl rfl ?_
  refine J_iload_n 2 dX11_bestDay_6 rfl rfl ?_
  refine J_iconst 1 dX11_bestDay_7 (by decide) ?_
  obtain ⟨ho, h⟩ := h
  refine J_xcvI (As := [_, _]) md_X11_needWhat k_753 (rc_obj cl_11 ho) rfl rfl ⟨Nat.le_of_ble_eq_true rfl, Nat.le_of_ble_eq_true rfl⟩ ⟨Nat.le_of_ble_eq_true rfl, Nat.le_of_ble_eq_true rfl⟩ (Nat.le_of_ble_eq_true rfl) dX11_bestDay_8 (ct_X11_needWhat hl0 h) (by decide) (by decide) (fun _ _ h => h) (fun st_4 h => ?_)
  refine J_aload_n 0 dX11_bestDay_11 rfl rfl ?_
  obtain ⟨r_5, hf, h⟩ := h
  refine J_getR fl_RX11_63 dX11_bestDay_12 hf ?_
  refine J_iload_n 1 dX11_bestDay_15 rfl rfl ?_
  refine J_iload_n 2 dX11_bestDay_16 rfl rfl ?_
  refine J_iconst 1 dX11_bestDay_17 (by decide) ?_
  refine J_icmp_ne 25 dX11_bestDay_18 (by decide) (fun hc => ?_) (fun hc => ?_)
  · have h := h.1 hc
    refine J_iconst 0 dX11_bestDay_25 (by decide) ?_
    exact J_lv [0, 1, 2] rfl (K_X11_bestDay_26 hl0  a0 a1 a2  0 a1 r_5 st_4 h)
  · have h := h.2 hc
    refine J_iconst 1 dX11_bestDay_21 (by decide) ?_
    refine J_goto 26 dX11_bestDay_22 (by decide) ?_
    exact J_lv [0, 1, 2] rfl (K_X11_bestDay_26 hl0  a0 a1 a2  1 a1 r_5 st_4 h)
/-! X11_dale -/
def P_X11_dale_12  (a0 : Nat) (a1 : Int32)  (post : Int32 → St → Prop) (pex : String → St → Prop)  (st : St) : Prop := pex IAE st
def P_X11_dale  (a0 : Nat) (a1 : Int32) (st : St) (post : Int32 → St → Prop) (pex : String → St → Prop) : Prop := ((a1 < 0 → P_X11_dale_12  a0 a1  post pex st) ∧ (¬ a1 < 0 → fk a0 11 1 = some 0 ∧ ((a1 ≤ (gI st a0 1) → fk a0 11 1 = some 0 ∧ ∃ r_1, rv (sI st a0 1 0) a0 11 8 = some r_1 ∧ ∃ r_2, rv (sI st a0 1 0) a0 11 3 = some r_2 ∧ oC r_1 2 ∧ P_X2_startAnew  r_1 r_2 (sI st a0 1 0) (fun st_4 => ∃ r_5, rv st_4 a0 11 9 = some r_5 ∧ oC r_5 4 ∧ P_X4_readDale  r_5 a1 st_4 (fun z_6 st_7 => ((z_6 = 0 → ∃ r_8, rv st_7 a0 11 7 = some r_8 ∧ ∃ r_9, rv st_7 r_8 2 0 = some r_9 ∧ fk a0 11 3 = some 1 ∧ ∃ r_10, rv (sR st_7 a0 3 (some r_9)) a0 11 7 = some r_10 ∧ ∃ r_11, rv (sR st_7 a0 3 (some r_9)) a0 11 8 = some r_11 ∧ oC r_10 2 ∧ P_X2_copyFrom  r_10 r_11 (sR st_7 a0 3 (some r_9)) (fun st_13 => fk a0 11 2 = some 0 ∧ ∃ r_14, rv (sI st_13 a0 2 (-1)) a0 11 4 = some r_14 ∧ ∃ r_15, rv (sI st_13 a0 2 (-1)) r_14 1 1 = some r_15 ∧ oC r_15 0 ∧ P_X0_clear  r_15 (sI st_13 a0 2 (-1)) (fun st_17 => ∃ r_18, rv st_17 a0 11 4 = some r_18 ∧ ∃ r_19, rv st_17 r_18 1 2 = some r_19 ∧ oC r_19 7 ∧ P_X7_clear  r_19 st_17 (fun st_21 => fk a0 11 6 = some 0 ∧ post 0 (sI st_21 a0 6 0))))) ∧ (¬ z_6 = 0 → ∃ r_22, rv st_7 a0 11 9 = some r_22 ∧ oC r_22 4 ∧ P_X4_place  r_22 st_7 (fun z_23 st_24 => fk a0 11 2 = some 0 ∧ oC a0 11 ∧ P_X11_refuse  a0 0 (sI st_24 a0 2 z_23) (fun z_25 st_26 => post z_6 st_26))))))) ∧ (¬ a1 ≤ (gI st a0 1) → P_X11_dale_12  a0 a1  post pex st))))
set_option maxRecDepth 100000 in
set_option maxHeartbeats 4000000 in
theorem K_X11_dale_12 {l : Launch} {E : En} (hl0 : l.stackTraces = false)  (a0 : Nat) (a1 : Int32)  {post : Int32 → St → Prop} {pex : String → St → Prop}   (st : St) (h : P_X11_dale_12  a0 a1  post pex  st) : Jg l E (CFc E) (Rm 83 1 6) cX11_dale 3 RX11 (some .int) XTn (QXI E post pex 1 6) 0 0 12 [(0, .ref a0), (1, .int a1)] [] st := by
  unfold P_X11_dale_12 at h
  exact J_throwI_IAE hl0 ld_RX11_89 dX11_dale_12 dX11_dale_15 dX11_dale_16 dX11_dale_18 dX11_dale_21 ⟨Nat.le_of_ble_eq_true rfl, Nat.le_of_ble_eq_true rfl, Nat.le_of_ble_eq_true rfl, Nat.le_of_ble_eq_true rfl⟩ (by decide) (by decide) h
set_option maxRecDepth 100000 in
set_option maxHeartbeats 4000000 in
theorem ct_X11_dale {l : Launch} {E : En} (hl0 : l.stackTraces = false)  {a0 : Nat} {a1 : Int32} {st : St} {post : Int32 → St → Prop} {pex : String → St → Prop} (h : P_X11_dale  a0 a1 st post pex) : CtXI l E (CFc E) 83 1 6 yX11_dale cX11_dale 3 (some .int) [.ref a0, .int a1] st post pex := by
  refine ctXI_of (by decide) (Nat.le_of_ble_eq_true rfl) ?_
  show Jg l E (CFc E) (Rm 83 1 6) cX11_dale 3 RX11 (some .int) XTn (QXI E post pex 1 6) 0 0 0 [(0, .ref a0), (1, .int a1)] [] st
  unfold P_X11_dale at h
  refine J_iload_n 1 dX11_dale_0 rfl rfl ?_
  refine J_if_lt 12 dX11_dale_1 (by decide) (fun hc => ?_) (fun hc => ?_)
  · have h := h.1 hc
    exact J_lv [0, 1] rfl (K_X11_dale_12 hl0  a0 a1  st h)
  · have h := h.2 hc
    refine J_iload_n 1 dX11_dale_4 rfl rfl ?_
    refine J_aload_n 0 dX11_dale_5 rfl rfl ?_
    obtain ⟨hf, h⟩ := h
    refine J_getI fl_RX11_80 dX11_dale_6 hf ?_
    refine J_icmp_le 22 dX11_dale_9 (by decide) (fun hc => ?_) (fun hc => ?_)
    · have h := h.1 hc
      refine J_aload_n 0 dX11_dale_22 rfl rfl ?_
      refine J_iconst 0 dX11_dale_23 (by decide) ?_
      obtain ⟨hf, h⟩ := h
      refine J_putI fp_RX11_80 dX11_dale_24 rfl hf ?_
      refine J_aload_n 0 dX11_dale_27 rfl rfl ?_
      obtain ⟨r_1, hf, h⟩ := h
      refine J_getR fl_RX11_42 dX11_dale_28 hf ?_
      refine J_aload_n 0 dX11_dale_31 rfl rfl ?_
      obtain ⟨r_2, hf, h⟩ := h
      refine J_getR fl_RX11_16 dX11_dale_32 hf ?_
      obtain ⟨ho, h⟩ := h
      refine J_cvv (As := [_]) md_X2_startAnew k_727 (rc_obj cl_2 ho) rfl rfl ⟨Nat.le_of_ble_eq_true rfl, Nat.le_of_ble_eq_true rfl⟩ ⟨Nat.le_of_ble_eq_true rfl, Nat.le_of_ble_eq_true rfl⟩ (Nat.le_of_ble_eq_true rfl) dX11_dale_35 (ct_X2_startAnew  h) (fun st_4 h => ?_)
      refine J_aload_n 0 dX11_dale_38 rfl rfl ?_
      obtain ⟨r_5, hf, h⟩ := h
      refine J_getR fl_RX11_50 dX11_dale_39 hf ?_
      refine J_iload_n 1 dX11_dale_42 rfl rfl ?_
      obtain ⟨ho, h⟩ := h
      refine J_cvi (As := [_]) md_X4_readDale k_730 (rc_obj cl_4 ho) rfl rfl ⟨Nat.le_of_ble_eq_true rfl, Nat.le_of_ble_eq_true rfl⟩ ⟨Nat.le_of_ble_eq_true rfl, Nat.le_of_ble_eq_true rfl⟩ (Nat.le_of_ble_eq_true rfl) dX11_dale_43 (ct_X4_readDale  h) (fun z_6 st_7 h => ?_)
      refine J_istore_n _ dX11_dale_46 rfl (by decide) rfl ?_
      refine J_iload_n 0 dX11_dale_47 rfl rfl ?_
      refine J_if_eq 70 dX11_dale_48 (by decide) (fun hc => ?_) (fun hc => ?_)
      · have h := h.1 hc
        refine J_aload_n 1 dX11_dale_70 rfl rfl ?_
        refine J_aload_n 1 dX11_dale_71 rfl rfl ?_
        obtain ⟨r_8, hf, h⟩ := h
        refine J_getR fl_RX11_36 dX11_dale_72 hf ?_
        obtain ⟨r_9, hf, h⟩ := h
        refine J_getR fl_RX11_108 dX11_dale_75 hf ?_
        obtain ⟨hf, h⟩ := h
        refine J_putQ (v := (some r_9)) fp_RX11_16 dX11_dale_78 (Or.inl ⟨_, rfl⟩) hf ?_
        refine J_aload_n 1 dX11_dale_81 rfl rfl ?_
        obtain ⟨r_10, hf, h⟩ := h
        refine J_getR fl_RX11_36 dX11_dale_82 hf ?_
        refine J_aload_n 1 dX11_dale_85 rfl rfl ?_
        obtain ⟨r_11, hf, h⟩ := h
        refine J_getR fl_RX11_42 dX11_dale_86 hf ?_
        obtain ⟨ho, h⟩ := h
        refine J_cvv (As := [_]) md_X2_copyFrom k_739 (rc_obj cl_2 ho) rfl rfl ⟨Nat.le_of_ble_eq_true rfl, Nat.le_of_ble_eq_true rfl⟩ ⟨Nat.le_of_ble_eq_true rfl, Nat.le_of_ble_eq_true rfl⟩ (Nat.le_of_ble_eq_true rfl) dX11_dale_89 (ct_X2_copyFrom  h) (fun st_13 h => ?_)
        refine J_aload_n 1 dX11_dale_92 rfl rfl ?_
        refine J_iconst (-1) dX11_dale_93 (by decide) ?_
        obtain ⟨hf, h⟩ := h
        refine J_putI fp_RX11_76 dX11_dale_94 rfl hf ?_
        refine J_aload_n 1 dX11_dale_97 rfl rfl ?_
        obtain ⟨r_14, hf, h⟩ := h
        refine J_getR fl_RX11_25 dX11_dale_98 hf ?_
        obtain ⟨r_15, hf, h⟩ := h
        refine J_getR fl_RX11_114 dX11_dale_101 hf ?_
        obtain ⟨ho, h⟩ := h
        refine J_cvv (As := []) md_X0_clear k_740 (rc_obj cl_0 ho) rfl rfl ⟨Nat.le_of_ble_eq_true rfl, Nat.le_of_ble_eq_true rfl⟩ ⟨Nat.le_of_ble_eq_true rfl, Nat.le_of_ble_eq_true rfl⟩ (Nat.le_of_ble_eq_true rfl) dX11_dale_104 (ct_X0_clear  h) (fun st_17 h => ?_)
        refine J_aload_n 1 dX11_dale_107 rfl rfl ?_
        obtain ⟨r_18, hf, h⟩ := h
        refine J_getR fl_RX11_25 dX11_dale_108 hf ?_
        obtain ⟨r_19, hf, h⟩ := h
        refine J_getR fl_RX11_56 dX11_dale_111 hf ?_
        obtain ⟨ho, h⟩ := h
        refine J_cvv (As := []) md_X7_clear k_743 (rc_obj cl_7 ho) rfl rfl ⟨Nat.le_of_ble_eq_true rfl, Nat.le_of_ble_eq_true rfl⟩ ⟨Nat.le_of_ble_eq_true rfl, Nat.le_of_ble_eq_true rfl⟩ (Nat.le_of_ble_eq_true rfl) dX11_dale_114 (ct_X7_clear  h) (fun st_21 h => ?_)
        refine J_aload_n 1 dX11_dale_117 rfl rfl ?_
        refine J_iconst 0 dX11_dale_118 (by decide) ?_
        obtain ⟨hf, h⟩ := h
        refine J_putZ fp_RX11_126 dX11_dale_119 rfl (Or.inl rfl) hf ?_
        refine J_iconst 0 dX11_dale_122 (by decide) ?_
        refine J_widen (k2 := 1) (n2 := 6) (Nat.le_of_ble_eq_true rfl) (Nat.le_of_ble_eq_true rfl) ?_
        exact J_xreti rfl dX11_dale_123 h
      · have h := h.2 hc
        refine J_aload_n 1 dX11_dale_51 rfl rfl ?_
        refine J_aload_n 1 dX11_dale_52 rfl rfl ?_
        obtain ⟨r_22, hf, h⟩ := h
        refine J_getR fl_RX11_50 dX11_dale_53 hf ?_
        obtain ⟨ho, h⟩ := h
        refine J_cvi (As := []) md_X4_place k_733 (rc_obj cl_4 ho) rfl rfl ⟨Nat.le_of_ble_eq_true rfl, Nat.le_of_ble_eq_true rfl⟩ ⟨Nat.le_of_ble_eq_true rfl, Nat.le_of_ble_eq_true rfl⟩ (Nat.le_of_ble_eq_true rfl) dX11_dale_56 (ct_X4_place  h) (fun z_23 st_24 h => ?_)
        obtain ⟨hf, h⟩ := h
        refine J_putI fp_RX11_76 dX11_dale_59 rfl hf ?_
        refine J_aload_n 1 dX11_dale_62 rfl rfl ?_
        refine J_iconst 0 dX11_dale_63 (by decide) ?_
        obtain ⟨ho, h⟩ := h
        refine J_cvi (As := [_]) md_X11_refuse k_736 (rc_obj cl_11 ho) rfl rfl ⟨Nat.le_of_ble_eq_true rfl, Nat.le_of_ble_eq_true rfl⟩ ⟨Nat.le_of_ble_eq_true rfl, Nat.le_of_ble_eq_true rfl⟩ (Nat.le_of_ble_eq_true rfl) dX11_dale_64 (ct_X11_refuse  h) (fun z_25 st_26 h => ?_)
        refine J_pop dX11_dale_67 rfl ?_
        refine J_iload_n 0 dX11_dale_68 rfl rfl ?_
        refine J_widen (k2 := 1) (n2 := 6) (Nat.le_of_ble_eq_true rfl) (Nat.le_of_ble_eq_true rfl) ?_
        exact J_xreti rfl dX11_dale_69 h
    · have h := h.2 hc
      exact J_lv [0, 1] rfl (K_X11_dale_12 hl0  a0 a1  st h)
