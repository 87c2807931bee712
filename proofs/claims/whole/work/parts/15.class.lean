/-! X11_feedNumber -/
def P_X11_feedNumber_49  (a0 : Nat) (a1 : Int32)  (post : St → Prop)  (st : St) : Prop := post st
def P_X11_feedNumber_3  (a0 : Nat) (a1 : Int32)  (post : St → Prop) : Nat → Int32 → St → Prop
  | 0, _, _ => False
  | n9 + 1, x2, st => ((x2 < 0 → P_X11_feedNumber_49  a0 a1  post st) ∧ (¬ x2 < 0 → fk a0 11 1 = some 0 ∧ ((700 ≤ (gI st a0 1) → P_X11_feedNumber_49  a0 a1  post st) ∧ (¬ 700 ≤ (gI st a0 1) → ∃ r_1, rv st a0 11 0 = some r_1 ∧ fk a0 11 1 = some 0 ∧ vp_in (gI st a0 1) (al 0 r_1) ∧ fk a0 11 1 = some 0 ∧ fk a0 11 1 = some 0 ∧ P_X11_feedNumber_3  a0 a1  post n9 (x2 + (-8)) (sI (sA st r_1 (gI st a0 1 : Int32).toNatClampNeg ((((a1 : Int32).toUInt32 >>> ((x2 : Int32).toUInt32 &&& Int32.toUInt32 31)).toInt32) &&& 255)) a0 1 ((gI (sA st r_1 (gI st a0 1 : Int32).toNatClampNeg ((((a1 : Int32).toUInt32 >>> ((x2 : Int32).toUInt32 &&& Int32.toUInt32 31)).toInt32) &&& 255)) a0 1) + 1))))))
def P_X11_feedNumber  (a0 : Nat) (a1 : Int32) (st : St) (post : St → Prop) : Prop := ∃ n8, P_X11_feedNumber_3  a0 a1  post n8 24 st
set_option maxRecDepth 100000 in
set_option maxHeartbeats 4000000 in
theorem K_X11_feedNumber_49 {l : Launch} {E : En} {CF : CFt}  (a0 : Nat) (a1 : Int32)  {post : St → Prop}   (st : St) (h : P_X11_feedNumber_49  a0 a1  post  st) : Jg l E CF (Rm 1 0 0) cX11_feedNumber 3 RX11 none (QV E post 0 0) 0 0 49 [(0, .ref a0), (1, .int a1)] [] st := by
  unfold P_X11_feedNumber_49 at h
  exact J_retv rfl dX11_feedNumber_49 h
set_option maxRecDepth 100000 in
set_option maxHeartbeats 4000000 in
theorem K_X11_feedNumber_3 {l : Launch} {E : En} {CF : CFt}  (a0 : Nat) (a1 : Int32)  {post : St → Prop}  : ∀ (n9 : Nat) (x2 : Int32) (st : St), P_X11_feedNumber_3  a0 a1  post n9 x2 st → Jg l E CF (Rm 1 0 0) cX11_feedNumber 3 RX11 none (QV E post 0 0) 0 0 3 [(0, .ref a0), (1, .int a1), (2, .int x2)] [] st := by
  intro n9
  induction n9 with
  | zero => intro x2 st h; exact h.elim
  | succ n9 ih =>
    intro x2 st h
    unfold P_X11_feedNumber_3 at h
    refine J_iload_n 2 dX11_feedNumber_3 rfl rfl ?_
    refine J_if_lt 49 dX11_feedNumber_4 (by decide) (fun hc => ?_) (fun hc => ?_)
    · have h := h.1 hc
      exact J_lv [0, 1] rfl (K_X11_feedNumber_49  a0 a1  st h)
    · have h := h.2 hc
      refine J_aload_n 0 dX11_feedNumber_7 rfl rfl ?_
      obtain ⟨hf, h⟩ := h
      refine J_getI fl_RX11_80 dX11_feedNumber_8 hf ?_
      refine J_sipush 700 dX11_feedNumber_11 (by decide) ?_
      refine J_icmp_ge 49 dX11_feedNumber_14 (by decide) (fun hc => ?_) (fun hc => ?_)
      · have h := h.1 hc
        exact J_lv [0, 1] rfl (K_X11_feedNumber_49  a0 a1  st h)
      · have h := h.2 hc
        refine J_aload_n 0 dX11_feedNumber_17 rfl rfl ?_
        obtain ⟨r_1, hf, h⟩ := h
        refine J_getR fl_RX11_9 dX11_feedNumber_18 hf ?_
        refine J_aload_n 0 dX11_feedNumber_21 rfl rfl ?_
        obtain ⟨hf, h⟩ := h
        refine J_getI fl_RX11_80 dX11_feedNumber_22 hf ?_
        refine J_iload_n 1 dX11_feedNumber_25 rfl rfl ?_
        refine J_iload_n 2 dX11_feedNumber_26 rfl rfl ?_
        refine J_iushr dX11_feedNumber_27 ?_
        refine J_sipush 255 dX11_feedNumber_28 (by decide) ?_
        refine J_iand dX11_feedNumber_31 ?_
        obtain ⟨hi, h⟩ := h
        refine J_iast dX11_feedNumber_32 hi ?_
        refine J_aload_n 0 dX11_feedNumber_33 rfl rfl ?_
        refine J_dup dX11_feedNumber_34 rfl ?_
        obtain ⟨hf, h⟩ := h
        refine J_getI fl_RX11_80 dX11_feedNumber_35 hf ?_
        refine J_iconst 1 dX11_feedNumber_38 (by decide) ?_
        refine J_iadd dX11_feedNumber_39 ?_
        obtain ⟨hf, h⟩ := h
        refine J_putI fp_RX11_80 dX11_feedNumber_40 rfl hf ?_
        refine J_iinc 2 (x2 + (-8)) _ dX11_feedNumber_43 rfl (by rfl) (by decide) rfl ?_
        refine J_goto 3 dX11_feedNumber_46 (by decide) ?_
        exact J_lv [1, 2, 0] rfl (ih (x2 + (-8)) (sI (sA st r_1 (gI st a0 1 : Int32).toNatClampNeg ((((a1 : Int32).toUInt32 >>> ((x2 : Int32).toUInt32 &&& Int32.toUInt32 31)).toInt32) &&& 255)) a0 1 ((gI (sA st r_1 (gI st a0 1 : Int32).toNatClampNeg ((((a1 : Int32).toUInt32 >>> ((x2 : Int32).toUInt32 &&& Int32.toUInt32 31)).toInt32) &&& 255)) a0 1) + 1)) h)
set_option maxRecDepth 100000 in
set_option maxHeartbeats 4000000 in
theorem ct_X11_feedNumber {l : Launch} {E : En} {CF : CFt}  {a0 : Nat} {a1 : Int32} {st : St} {post : St → Prop} (h : P_X11_feedNumber  a0 a1 st post) : CtV l E CF 1 0 0 yX11_feedNumber cX11_feedNumber 3 none [.ref a0, .int a1] st post := by
  refine ctV_of (by decide) (Nat.le_of_ble_eq_true rfl) ?_
  show Jg l E CF (Rm 1 0 0) cX11_feedNumber 3 RX11 none (QV E post 0 0) 0 0 0 [(0, .ref a0), (1, .int a1)] [] st
  unfold P_X11_feedNumber at h
  refine J_bipush 24 dX11_feedNumber_0 (by decide) ?_
  refine J_istore_n _ dX11_feedNumber_2 rfl (by decide) rfl ?_
  obtain ⟨n8, h⟩ := h
  exact J_lv [1, 2, 0] rfl (K_X11_feedNumber_3  a0 a1  n8 24 st h)
/-! X11_fault -/
def P_X11_fault  (a0 : Nat) (st : St) (post : Int32 → St → Prop) : Prop := fk a0 11 2 = some 0 ∧ post (gI st a0 2) st
set_option maxRecDepth 100000 in
set_option maxHeartbeats 4000000 in
theorem ct_X11_fault {l : Launch} {E : En} {CF : CFt}  {a0 : Nat} {st : St} {post : Int32 → St → Prop} (h : P_X11_fault  a0 st post) : CtI l E CF 1 0 0 yX11_fault cX11_fault 1 (some .int) [.ref a0] st post := by
  refine ctI_of (by decide) (Nat.le_of_ble_eq_true rfl) ?_
  show Jg l E CF (Rm 1 0 0) cX11_fault 1 RX11 (some .int) (QI E post 0 0) 0 0 0 [(0, .ref a0)] [] st
  unfold P_X11_fault at h
  refine J_aload_n 0 dX11_fault_0 rfl rfl ?_
  obtain ⟨hf, h⟩ := h
  refine J_getI fl_RX11_76 dX11_fault_1 hf ?_
  exact J_reti rfl dX11_fault_4 h
/-! X11_unloved -/
def P_X11_unloved_46  (a0 : Nat) (k4 : Int32 → Int32 → St → Prop) (post : Int32 → St → Prop) (x1 : Int32) (x2 : Int32) (st : St) : Prop := k4 x1 (x2 + 1) st
def P_X11_unloved_4  (a0 : Nat)  (post : Int32 → St → Prop) : Nat → Int32 → Int32 → St → Prop
  | 0, _, _, _ => False
  | n9 + 1, x1, x2, st => ∃ r_1, rv st a0 11 7 = some r_1 ∧ ∃ r_2, rv st r_1 2 0 = some r_2 ∧ fk r_2 3 1 = some 0 ∧ (((gI st r_2 1) ≤ x2 → post x1 st) ∧ (¬ (gI st r_2 1) ≤ x2 → ∃ r_3, rv st a0 11 7 = some r_3 ∧ oC r_3 2 ∧ P_X2_isHome  r_3 x2 st (fun z_4 st_5 => ((z_4 = 0 → P_X11_unloved_46  a0 (fun x1 x2 st => P_X11_unloved_4  a0  post n9 x1 x2 st) post x1 x2 st_5) ∧ (¬ z_4 = 0 → ∃ r_6, rv st_5 a0 11 7 = some r_6 ∧ oC r_6 2 ∧ P_X2_peopleTiedTo  r_6 x2 st_5 (fun z_7 st_8 => ((¬ z_7 = 0 → P_X11_unloved_46  a0 (fun x1 x2 st => P_X11_unloved_4  a0  post n9 x1 x2 st) post x1 x2 st_8) ∧ (z_7 = 0 → P_X11_unloved_46  a0 (fun x1 x2 st => P_X11_unloved_4  a0  post n9 x1 x2 st) post (x1 ||| (1 <<< (x2 &&& 31))) x2 st_8))))))))
def P_X11_unloved  (a0 : Nat) (st : St) (post : Int32 → St → Prop) : Prop := ∃ n8, P_X11_unloved_4  a0  post n8 0 0 st
set_option maxRecDepth 100000 in
set_option maxHeartbeats 4000000 in
theorem K_X11_unloved_46 {l : Launch} {E : En} {CF : CFt}  (a0 : Nat) {k4 : Int32 → Int32 → St → Prop} {post : Int32 → St → Prop} (hk4 : ∀ (x1 : Int32) (x2 : Int32) (st : St), k4 x1 x2 st → Jg l E CF (Rm 2 0 0) cX11_unloved 3 RX11 (some .int) (QI E post 0 0) 0 0 4 [(0, .ref a0), (1, .int x1), (2, .int x2)] [] st) (x1 : Int32) (x2 : Int32) (st : St) (h : P_X11_unloved_46  a0 k4 post x1 x2 st) : Jg l E CF (Rm 2 0 0) cX11_unloved 3 RX11 (some .int) (QI E post 0 0) 0 0 46 [(0, .ref a0), (1, .int x1), (2, .int x2)] [] st := by
  unfold P_X11_unloved_46 at h
  refine J_iinc 2 (x2 + 1) _ dX11_unloved_46 rfl (by rfl) (by decide) rfl ?_
  refine J_goto 4 dX11_unloved_49 (by decide) ?_
  exact J_lv [1, 2, 0] rfl (hk4 x1 (x2 + 1) st h)
set_option maxRecDepth 100000 in
set_option maxHeartbeats 4000000 in
theorem K_X11_unloved_4 {l : Launch} {E : En} {CF : CFt}  (a0 : Nat)  {post : Int32 → St → Prop}  : ∀ (n9 : Nat) (x1 : Int32) (x2 : Int32) (st : St), P_X11_unloved_4  a0  post n9 x1 x2 st → Jg l E CF (Rm 2 0 0) cX11_unloved 3 RX11 (some .int) (QI E post 0 0) 0 0 4 [(0, .ref a0), (1, .int x1), (2, .int x2)] [] st := by
  intro n9
  induction n9 with
  | zero => intro x1 x2 st h; exact h.elim
  | succ n9 ih =>
    intro x1 x2 st h
    unfold P_X11_unloved_4 at h
    refine J_iload_n 2 dX11_unloved_4 rfl rfl ?_
    refine J_aload_n 0 dX11_unloved_5 rfl rfl ?_
    obtain ⟨r_1, hf, h⟩ := h
    refine J_getR fl_RX11_36 dX11_unloved_6 hf ?_
    obtain ⟨r_2, hf, h⟩ := h
    refine J_getR fl_RX11_108 dX11_unloved_9 hf ?_
    obtain ⟨hf, h⟩ := h
    refine J_getI fl_RX11_137 dX11_unloved_12 hf ?_
    refine J_icmp_ge 52 dX11_unloved_15 (by decide) (fun hc => ?_) (fun hc => ?_)
    · have h := h.1 hc
      refine J_iload_n 1 dX11_unloved_52 rfl rfl ?_
      exact J_reti rfl dX11_unloved_53 h
    · have h := h.2 hc
      refine J_aload_n 0 dX11_unloved_18 rfl rfl ?_
      obtain ⟨r_3, hf, h⟩ := h
      refine J_getR fl_RX11_36 dX11_unloved_19 hf ?_
      refine J_iload_n 2 dX11_unloved_22 rfl rfl ?_
      obtain ⟨⟨fl9, ho⟩, h⟩ := h
      refine J_cvi (As := [_]) md_X2_isHome k_786 cl_2 ho rfl rfl ⟨Nat.le_of_ble_eq_true rfl, Nat.le_of_ble_eq_true rfl⟩ ⟨Nat.le_refl _, Nat.le_refl _⟩ (Nat.le_of_ble_eq_true rfl) dX11_unloved_23 (ct_X2_isHome  h) (fun z_4 st_5 h => ?_)
      refine J_if_eq 46 dX11_unloved_26 (by decide) (fun hc => ?_) (fun hc => ?_)
      · have h := h.1 hc
        exact J_lv [0, 1, 2] rfl (K_X11_unloved_46  a0 (fun x1 x2 st h => ih x1 x2 st h) x1 x2 st_5 h)
      · have h := h.2 hc
        refine J_aload_n 0 dX11_unloved_29 rfl rfl ?_
        obtain ⟨r_6, hf, h⟩ := h
        refine J_getR fl_RX11_36 dX11_unloved_30 hf ?_
        refine J_iload_n 2 dX11_unloved_33 rfl rfl ?_
        obtain ⟨⟨fl9, ho⟩, h⟩ := h
        refine J_cvi (As := [_]) md_X2_peopleTiedTo k_788 cl_2 ho rfl rfl ⟨Nat.le_of_ble_eq_true rfl, Nat.le_of_ble_eq_true rfl⟩ ⟨Nat.le_refl _, Nat.le_refl _⟩ (Nat.le_of_ble_eq_true rfl) dX11_unloved_34 (ct_X2_peopleTiedTo  h) (fun z_7 st_8 h => ?_)
        refine J_if_ne 46 dX11_unloved_37 (by decide) (fun hc => ?_) (fun hc => ?_)
        · have h := h.1 hc
          exact J_lv [0, 1, 2] rfl (K_X11_unloved_46  a0 (fun x1 x2 st h => ih x1 x2 st h) x1 x2 st_8 h)
        · have h := h.2 hc
          refine J_iload_n 1 dX11_unloved_40 rfl rfl ?_
          refine J_iconst 1 dX11_unloved_41 (by decide) ?_
          refine J_iload_n 2 dX11_unloved_42 rfl rfl ?_
          refine J_ishl dX11_unloved_43 ?_
          refine J_ior dX11_unloved_44 ?_
          refine J_istore_n _ dX11_unloved_45 rfl (by decide) rfl ?_
          exact J_lv [1, 0, 2] rfl (K_X11_unloved_46  a0 (fun x1 x2 st h => ih x1 x2 st h) (x1 ||| (1 <<< (x2 &&& 31))) x2 st_8 h)
set_option maxRecDepth 100000 in
set_option maxHeartbeats 4000000 in
theorem ct_X11_unloved {l : Launch} {E : En} {CF : CFt}  {a0 : Nat} {st : St} {post : Int32 → St → Prop} (h : P_X11_unloved  a0 st post) : CtI l E CF 2 0 0 yX11_unloved cX11_unloved 3 (some .int) [.ref a0] st post := by
  refine ctI_of (by decide) (Nat.le_of_ble_eq_true rfl) ?_
  show Jg l E CF (Rm 2 0 0) cX11_unloved 3 RX11 (some .int) (QI E post 0 0) 0 0 0 [(0, .ref a0)] [] st
  unfold P_X11_unloved at h
  refine J_iconst 0 dX11_unloved_0 (by decide) ?_
  refine J_istore_n _ dX11_unloved_1 rfl (by decide) rfl ?_
  refine J_iconst 0 dX11_unloved_2 (by decide) ?_
  refine J_istore_n _ dX11_unloved_3 rfl (by decide) rfl ?_
  obtain ⟨n8, h⟩ := h
  exact J_lv [2, 1, 0] rfl (K_X11_unloved_4  a0  n8 0 0 st h)
/-! X11_forget -/
def P_X11_forget  (a0 : Nat) (st : St) (post : St → Prop) : Prop := ∃ r_1, rv st a0 11 4 = some r_1 ∧ ∃ r_2, rv st r_1 1 2 = some r_2 ∧ oC r_2 7 ∧ P_X7_clear  r_2 st (fun st_4 => post st_4)
set_option maxRecDepth 100000 in
set_option maxHeartbeats 4000000 in
theorem ct_X11_forget {l : Launch} {E : En} {CF : CFt}  {a0 : Nat} {st : St} {post : St → Prop} (h : P_X11_forget  a0 st post) : CtV l E CF 2 0 0 yX11_forget cX11_forget 1 none [.ref a0] st post := by
  refine ctV_of (by decide) (Nat.le_of_ble_eq_true rfl) ?_
  show Jg l E CF (Rm 2 0 0) cX11_forget 1 RX11 none (QV E post 0 0) 0 0 0 [(0, .ref a0)] [] st
  unfold P_X11_forget at h
  refine J_aload_n 0 dX11_forget_0 rfl rfl ?_
  obtain ⟨r_1, hf, h⟩ := h
  refine J_getR fl_RX11_25 dX11_forget_1 hf ?_
  obtain ⟨r_2, hf, h⟩ := h
  refine J_getR fl_RX11_56 dX11_forget_4 hf ?_
  obtain ⟨⟨fl9, ho⟩, h⟩ := h
  refine J_cvv (As := []) md_X7_clear k_743 cl_7 ho rfl rfl ⟨Nat.le_of_ble_eq_true rfl, Nat.le_of_ble_eq_true rfl⟩ ⟨Nat.le_refl _, Nat.le_refl _⟩ (Nat.le_of_ble_eq_true rfl) dX11_forget_7 (ct_X7_clear  h) (fun st_4 h => ?_)
  exact J_retv rfl dX11_forget_10 h
/-! X11_refuse -/
def P_X11_refuse  (a0 : Nat) (a1 : Int32) (st : St) (post : Int32 → St → Prop) : Prop := ∃ r_1, rv st a0 11 4 = some r_1 ∧ ∃ r_2, rv st r_1 1 3 = some r_2 ∧ vp_in a1 (al 0 r_2) ∧ vp_in a1 (al 0 r_2) ∧ post (-1) (sA st r_2 (a1 : Int32).toNatClampNeg ((gA st r_2 (a1 : Int32).toNatClampNeg) + 1))
set_option maxRecDepth 100000 in
set_option maxHeartbeats 4000000 in
theorem ct_X11_refuse {l : Launch} {E : En} {CF : CFt}  {a0 : Nat} {a1 : Int32} {st : St} {post : Int32 → St → Prop} (h : P_X11_refuse  a0 a1 st post) : CtI l E CF 1 0 0 yX11_refuse cX11_refuse 2 (some .int) [.ref a0, .int a1] st post := by
  refine ctI_of (by decide) (Nat.le_of_ble_eq_true rfl) ?_
  show Jg l E CF (Rm 1 0 0) cX11_refuse 2 RX11 (some .int) (QI E post 0 0) 0 0 0 [(0, .ref a0), (1, .int a1)] [] st
  unfold P_X11_refuse at h
  refine J_aload_n 0 dX11_refuse_0 rfl rfl ?_
  obtain ⟨r_1, hf, h⟩ := h
  refine J_getR fl_RX11_25 dX11_refuse_1 hf ?_
  obtain ⟨r_2, hf, h⟩ := h
  refine J_getR fl_RX11_159 dX11_refuse_4 hf ?_
  refine J_iload_n 1 dX11_refuse_7 rfl rfl ?_
  refine J_dup2 dX11_refuse_8 rfl rfl ?_
  obtain ⟨hi, h⟩ := h
  refine J_iald dX11_refuse_9 hi ?_
  refine J_iconst 1 dX11_refuse_10 (by decide) ?_
  refine J_iadd dX11_refuse_11 ?_
  obtain ⟨hi, h⟩ := h
  refine J_iast dX11_refuse_12 hi ?_
  refine J_iconst (-1) dX11_refuse_13 (by decide) ?_
  exact J_reti rfl dX11_refuse_14 h
/-! X11_feed -/
def P_X11_feed  (a0 : Nat) (a1 : Int32) (a2 : Int32) (a3 : Int32) (a4 : Int32) (a5 : Int32) (st : St) (post : Int32 → St → Prop) : Prop := fk a0 11 1 = some 0 ∧ ((((gI st a0 1) + 20) ≤ 700 → oC a0 11 ∧ P_X11_feedNumber  a0 a1 st (fun st_2 => oC a0 11 ∧ P_X11_feedNumber  a0 a2 st_2 (fun st_4 => oC a0 11 ∧ P_X11_feedNumber  a0 a3 st_4 (fun st_6 => oC a0 11 ∧ P_X11_feedNumber  a0 a4 st_6 (fun st_8 => oC a0 11 ∧ P_X11_feedNumber  a0 a5 st_8 (fun st_10 => fk a0 11 1 = some 0 ∧ post (gI st_10 a0 1) st_10)))))) ∧ (¬ ((gI st a0 1) + 20) ≤ 700 → post (-1) st))
set_option maxRecDepth 100000 in
set_option maxHeartbeats 4000000 in
theorem ct_X11_feed {l : Launch} {E : En} {CF : CFt}  {a0 : Nat} {a1 : Int32} {a2 : Int32} {a3 : Int32} {a4 : Int32} {a5 : Int32} {st : St} {post : Int32 → St → Prop} (h : P_X11_feed  a0 a1 a2 a3 a4 a5 st post) : CtI l E CF 2 0 0 yX11_feed cX11_feed 6 (some .int) [.ref a0, .int a1, .int a2, .int a3, .int a4, .int a5] st post := by
  refine ctI_of (by decide) (Nat.le_of_ble_eq_true rfl) ?_
  show Jg l E CF (Rm 2 0 0) cX11_feed 6 RX11 (some .int) (QI E post 0 0) 0 0 0 [(0, .ref a0), (1, .int a1), (2, .int a2), (3, .int a3), (4, .int a4), (5, .int a5)] [] st
  unfold P_X11_feed at h
  refine J_aload_n 0 dX11_feed_0 rfl rfl ?_
  obtain ⟨hf, h⟩ := h
  refine J_getI fl_RX11_80 dX11_feed_1 hf ?_
  refine J_bipush 20 dX11_feed_4 (by decide) ?_
  refine J_iadd dX11_feed_6 ?_
  refine J_sipush 700 dX11_feed_7 (by decide) ?_
  refine J_icmp_le 15 dX11_feed_10 (by decide) (fun hc => ?_) (fun hc => ?_)
  · have h := h.1 hc
    refine J_aload_n 0 dX11_feed_15 rfl rfl ?_
    refine J_iload_n 1 dX11_feed_16 rfl rfl ?_
    obtain ⟨⟨fl9, ho⟩, h⟩ := h
    refine J_cvv (As := [_]) md_X11_feedNumber k_716 cl_11 ho rfl rfl ⟨Nat.le_of_ble_eq_true rfl, Nat.le_of_ble_eq_true rfl⟩ ⟨Nat.le_refl _, Nat.le_refl _⟩ (Nat.le_of_ble_eq_true rfl) dX11_feed_17 (ct_X11_feedNumber  h) (fun st_2 h => ?_)
    refine J_aload_n 0 dX11_feed_20 rfl rfl ?_
    refine J_iload_n 2 dX11_feed_21 rfl rfl ?_
    obtain ⟨⟨fl9, ho⟩, h⟩ := h
    refine J_cvv (As := [_]) md_X11_feedNumber k_716 cl_11 ho rfl rfl ⟨Nat.le_of_ble_eq_true rfl, Nat.le_of_ble_eq_true rfl⟩ ⟨Nat.le_refl _, Nat.le_refl _⟩ (Nat.le_of_ble_eq_true rfl) dX11_feed_22 (ct_X11_feedNumber  h) (fun st_4 h => ?_)
    refine J_aload_n 0 dX11_feed_25 rfl rfl ?_
    refine J_iload_n 3 dX11_feed_26 rfl rfl ?_
    obtain ⟨⟨fl9, ho⟩, h⟩ := h
    refine J_cvv (As := [_]) md_X11_feedNumber k_716 cl_11 ho rfl rfl ⟨Nat.le_of_ble_eq_true rfl, Nat.le_of_ble_eq_true rfl⟩ ⟨Nat.le_refl _, Nat.le_refl _⟩ (Nat.le_of_ble_eq_true rfl) dX11_feed_27 (ct_X11_feedNumber  h) (fun st_6 h => ?_)
    refine J_aload_n 0 dX11_feed_30 rfl rfl ?_
    refine J_iload 4 dX11_feed_31 rfl ?_
    obtain ⟨⟨fl9, ho⟩, h⟩ := h
    refine J_cvv (As := [_]) md_X11_feedNumber k_716 cl_11 ho rfl rfl ⟨Nat.le_of_ble_eq_true rfl, Nat.le_of_ble_eq_true rfl⟩ ⟨Nat.le_refl _, Nat.le_refl _⟩ (Nat.le_of_ble_eq_true rfl) dX11_feed_33 (ct_X11_feedNumber  h) (fun st_8 h => ?_)
    refine J_aload_n 0 dX11_feed_36 rfl rfl ?_
    refine J_iload 5 dX11_feed_37 rfl ?_
    obtain ⟨⟨fl9, ho⟩, h⟩ := h
    refine J_cvv (As := [_]) md_X11_feedNumber k_716 cl_11 ho rfl rfl ⟨Nat.le_of_ble_eq_true rfl, Nat.le_of_ble_eq_true rfl⟩ ⟨Nat.le_refl _, Nat.le_refl _⟩ (Nat.le_of_ble_eq_true rfl) dX11_feed_39 (ct_X11_feedNumber  h) (fun st_10 h => ?_)
    refine J_aload_n 0 dX11_feed_42 rfl rfl ?_
    obtain ⟨hf, h⟩ := h
    refine J_getI fl_RX11_80 dX11_feed_43 hf ?_
    exact J_reti rfl dX11_feed_46 h
  · have h := h.2 hc
    refine J_iconst (-1) dX11_feed_13 (by decide) ?_
    exact J_reti rfl dX11_feed_14 h
/-! X11_undo -/
def P_X11_undo  (a0 : Nat) (st : St) (post : Int32 → St → Prop) : Prop := ∃ r_1, rv st a0 11 4 = some r_1 ∧ oC r_1 1 ∧ P_X1_undoAct  r_1 st (fun z_2 st_3 => post z_2 st_3)
set_option maxRecDepth 100000 in
set_option maxHeartbeats 4000000 in
theorem ct_X11_undo {l : Launch} {E : En} {CF : CFt}  {a0 : Nat} {st : St} {post : Int32 → St → Prop} (h : P_X11_undo  a0 st post) : CtI l E CF 4 0 0 yX11_undo cX11_undo 1 (some .int) [.ref a0] st post := by
  refine ctI_of (by decide) (Nat.le_of_ble_eq_true rfl) ?_
  show Jg l E CF (Rm 4 0 0) cX11_undo 1 RX11 (some .int) (QI E post 0 0) 0 0 0 [(0, .ref a0)] [] st
  unfold P_X11_undo at h
  refine J_aload_n 0 dX11_undo_0 rfl rfl ?_
  obtain ⟨r_1, hf, h⟩ := h
  refine J_getR fl_RX11_25 dX11_undo_1 hf ?_
  obtain ⟨⟨fl9, ho⟩, h⟩ := h
  refine J_cvi (As := []) md_X1_undoAct k_810 cl_1 ho rfl rfl ⟨Nat.le_of_ble_eq_true rfl, Nat.le_of_ble_eq_true rfl⟩ ⟨Nat.le_refl _, Nat.le_refl _⟩ (Nat.le_of_ble_eq_true rfl) dX11_undo_4 (ct_X1_undoAct  h) (fun z_2 st_3 h => ?_)
  exact J_reti rfl dX11_undo_7 h
/-! X11_image -/
def P_X11_image  (a0 : Nat) (st : St) (post : St → Prop) : Prop := ∃ r_1, rv st a0 11 5 = some r_1 ∧ ∃ r_2, rv st a0 11 4 = some r_2 ∧ oC r_1 1 ∧ P_X1_copyFrom  r_1 r_2 st (fun st_4 => fk a0 11 6 = some 0 ∧ post (sI st_4 a0 6 1))
set_option maxRecDepth 100000 in
set_option maxHeartbeats 4000000 in
theorem ct_X11_image {l : Launch} {E : En} {CF : CFt}  {a0 : Nat} {st : St} {post : St → Prop} (h : P_X11_image  a0 st post) : CtV l E CF 4 0 0 yX11_image cX11_image 1 none [.ref a0] st post := by
  refine ctV_of (by decide) (Nat.le_of_ble_eq_true rfl) ?_
  show Jg l E CF (Rm 4 0 0) cX11_image 1 RX11 none (QV E post 0 0) 0 0 0 [(0, .ref a0)] [] st
  unfold P_X11_image at h
  refine J_aload_n 0 dX11_image_0 rfl rfl ?_
  obtain ⟨r_1, hf, h⟩ := h
  refine J_getR fl_RX11_29 dX11_image_1 hf ?_
  refine J_aload_n 0 dX11_image_4 rfl rfl ?_
  obtain ⟨r_2, hf, h⟩ := h
  refine J_getR fl_RX11_25 dX11_image_5 hf ?_
  obtain ⟨⟨fl9, ho⟩, h⟩ := h
  refine J_cvv (As := [_]) md_X1_copyFrom k_907 cl_1 ho rfl rfl ⟨Nat.le_of_ble_eq_true rfl, Nat.le_of_ble_eq_true rfl⟩ ⟨Nat.le_refl _, Nat.le_refl _⟩ (Nat.le_of_ble_eq_true rfl) dX11_image_8 (ct_X1_copyFrom  h) (fun st_4 h => ?_)
  refine J_aload_n 0 dX11_image_11 rfl rfl ?_
  refine J_iconst 1 dX11_image_12 (by decide) ?_
  obtain ⟨hf, h⟩ := h
  refine J_putZ fp_RX11_126 dX11_image_13 rfl (Or.inr rfl) hf ?_
  exact J_retv rfl dX11_image_16 h
/-! X11_restore -/
def P_X11_restore  (a0 : Nat) (st : St) (post : Int32 → St → Prop) : Prop := fk a0 11 6 = some 0 ∧ ((¬ (gI st a0 6) = 0 → ∃ r_1, rv st a0 11 4 = some r_1 ∧ ∃ r_2, rv st a0 11 5 = some r_2 ∧ oC r_1 1 ∧ P_X1_copyFrom  r_1 r_2 st (fun st_4 => post 1 st_4)) ∧ ((gI st a0 6) = 0 → post 0 st))
set_option maxRecDepth 100000 in
set_option maxHeartbeats 4000000 in
theorem ct_X11_restore {l : Launch} {E : En} {CF : CFt}  {a0 : Nat} {st : St} {post : Int32 → St → Prop} (h : P_X11_restore  a0 st post) : CtI l E CF 4 0 0 yX11_restore cX11_restore 1 (some .boolean) [.ref a0] st post := by
  refine ctI_of (by decide) (Nat.le_of_ble_eq_true rfl) ?_
  show Jg l E CF (Rm 4 0 0) cX11_restore 1 RX11 (some .boolean) (QI E post 0 0) 0 0 0 [(0, .ref a0)] [] st
  unfold P_X11_restore at h
  refine J_aload_n 0 dX11_restore_0 rfl rfl ?_
  obtain ⟨hf, h⟩ := h
  refine J_getI fl_RX11_126 dX11_restore_1 hf ?_
  refine J_if_ne 9 dX11_restore_4 (by decide) (fun hc => ?_) (fun hc => ?_)
  · have h := h.1 hc
    refine J_aload_n 0 dX11_restore_9 rfl rfl ?_
    obtain ⟨r_1, hf, h⟩ := h
    refine J_getR fl_RX11_25 dX11_restore_10 hf ?_
    refine J_aload_n 0 dX11_restore_13 rfl rfl ?_
    obtain ⟨r_2, hf, h⟩ := h
    refine J_getR fl_RX11_29 dX11_restore_14 hf ?_
    obtain ⟨⟨fl9, ho⟩, h⟩ := h
    refine J_cvv (As := [_]) md_X1_copyFrom k_907 cl_1 ho rfl rfl ⟨Nat.le_of_ble_eq_true rfl, Nat.le_of_ble_eq_true rfl⟩ ⟨Nat.le_refl _, Nat.le_refl _⟩ (Nat.le_of_ble_eq_true rfl) dX11_restore_17 (ct_X1_copyFrom  h) (fun st_4 h => ?_)
    refine J_iconst 1 dX11_restore_20 (by decide) ?_
    exact J_retz rfl (Or.inr rfl) dX11_restore_21 h
  · have h := h.2 hc
    refine J_iconst 0 dX11_restore_7 (by decide) ?_
    exact J_retz rfl (Or.inl rfl) dX11_restore_8 h
/-! X11_days -/
def P_X11_days_41  (a0 : Nat) (a1 : Int32)  (post : Int32 → St → Prop) : Nat → Int32 → St → Prop
  | 0, _, _ => False
  | n9 + 1, x2, st => ((a1 ≤ x2 → ∃ r_1, rv st a0 11 7 = some r_1 ∧ oC r_1 2 ∧ P_X2_today  r_1 st (fun z_2 st_3 => post z_2 st_3)) ∧ (¬ a1 ≤ x2 → ∃ r_4, rv st a0 11 7 = some r_4 ∧ oC r_4 2 ∧ P_X2_passDay  r_4 st (fun st_6 => P_X11_days_41  a0 a1  post n9 (x2 + 1) st_6)))
def P_X11_days_26  (a0 : Nat) (a1 : Int32)  (post : Int32 → St → Prop)  (st : St) : Prop := oC a0 11 ∧ P_X11_refuse  a0 1 st (fun z_1 st_2 => post z_1 st_2)
def P_X11_days  (a0 : Nat) (a1 : Int32) (st : St) (post : Int32 → St → Prop) : Prop := ((a1 < 1 → P_X11_days_26  a0 a1  post st) ∧ (¬ a1 < 1 → ((20 < a1 → P_X11_days_26  a0 a1  post st) ∧ (¬ 20 < a1 → ∃ r_1, rv st a0 11 7 = some r_1 ∧ oC r_1 2 ∧ P_X2_today  r_1 st (fun z_2 st_3 => (((z_2 + a1) ≤ 999 → ∃ r_4, rv st_3 a0 11 4 = some r_4 ∧ oC r_4 1 ∧ P_X1_keepAct  r_4 st_3 (fun st_6 => ∃ n8, P_X11_days_41  a0 a1  post n8 0 st_6)) ∧ (¬ (z_2 + a1) ≤ 999 → P_X11_days_26  a0 a1  post st_3)))))))
set_option maxRecDepth 100000 in
set_option maxHeartbeats 4000000 in
theorem K_X11_days_41 {l : Launch} {E : En} {CF : CFt}  (a0 : Nat) (a1 : Int32)  {post : Int32 → St → Prop}  : ∀ (n9 : Nat) (x2 : Int32) (st : St), P_X11_days_41  a0 a1  post n9 x2 st → Jg l E CF (Rm 6 0 0) cX11_days 3 RX11 (some .int) (QI E post 0 0) 0 0 41 [(0, .ref a0), (1, .int a1), (2, .int x2)] [] st := by
  intro n9
  induction n9 with
  | zero => intro x2 st h; exact h.elim
  | succ n9 ih =>
    intro x2 st h
    unfold P_X11_days_41 at h
    refine J_iload_n 2 dX11_days_41 rfl rfl ?_
    refine J_iload_n 1 dX11_days_42 rfl rfl ?_
    refine J_icmp_ge 59 dX11_days_43 (by decide) (fun hc => ?_) (fun hc => ?_)
    · have h := h.1 hc
      refine J_aload_n 0 dX11_days_59 rfl rfl ?_
      obtain ⟨r_1, hf, h⟩ := h
      refine J_getR fl_RX11_36 dX11_days_60 hf ?_
      obtain ⟨⟨fl9, ho⟩, h⟩ := h
      refine J_cvi (As := []) md_X2_today k_759 cl_2 ho rfl rfl ⟨Nat.le_of_ble_eq_true rfl, Nat.le_of_ble_eq_true rfl⟩ ⟨Nat.le_refl _, Nat.le_refl _⟩ (Nat.le_of_ble_eq_true rfl) dX11_days_63 (ct_X2_today  h) (fun z_2 st_3 h => ?_)
      exact J_reti rfl dX11_days_66 h
    · have h := h.2 hc
      refine J_aload_n 0 dX11_days_46 rfl rfl ?_
      obtain ⟨r_4, hf, h⟩ := h
      refine J_getR fl_RX11_36 dX11_days_47 hf ?_
      obtain ⟨⟨fl9, ho⟩, h⟩ := h
      refine J_cvv (As := []) md_X2_passDay k_799 cl_2 ho rfl rfl ⟨Nat.le_of_ble_eq_true rfl, Nat.le_of_ble_eq_true rfl⟩ ⟨Nat.le_refl _, Nat.le_refl _⟩ (Nat.le_of_ble_eq_true rfl) dX11_days_50 (ct_X2_passDay  h) (fun st_6 h => ?_)
      refine J_iinc 2 (x2 + 1) _ dX11_days_53 rfl (by rfl) (by decide) rfl ?_
      refine J_goto 41 dX11_days_56 (by decide) ?_
      exact J_lv [1, 2, 0] rfl (ih (x2 + 1) st_6 h)
set_option maxRecDepth 100000 in
set_option maxHeartbeats 4000000 in
theorem K_X11_days_26 {l : Launch} {E : En} {CF : CFt}  (a0 : Nat) (a1 : Int32)  {post : Int32 → St → Prop}   (st : St) (h : P_X11_days_26  a0 a1  post  st) : Jg l E CF (Rm 6 0 0) cX11_days 3 RX11 (some .int) (QI E post 0 0) 0 0 26 [(0, .ref a0), (1, .int a1)] [] st := by
  unfold P_X11_days_26 at h
  refine J_aload_n 0 dX11_days_26 rfl rfl ?_
  refine J_iconst 1 dX11_days_27 (by decide) ?_
  obtain ⟨⟨fl9, ho⟩, h⟩ := h
  refine J_cvi (As := [_]) md_X11_refuse k_736 cl_11 ho rfl rfl ⟨Nat.le_of_ble_eq_true rfl, Nat.le_of_ble_eq_true rfl⟩ ⟨Nat.le_refl _, Nat.le_refl _⟩ (Nat.le_of_ble_eq_true rfl) dX11_days_28 (ct_X11_refuse  h) (fun z_1 st_2 h => ?_)
  exact J_reti rfl dX11_days_31 h
set_option maxRecDepth 100000 in
set_option maxHeartbeats 4000000 in
theorem ct_X11_days {l : Launch} {E : En} {CF : CFt}  {a0 : Nat} {a1 : Int32} {st : St} {post : Int32 → St → Prop} (h : P_X11_days  a0 a1 st post) : CtI l E CF 6 0 0 yX11_days cX11_days 3 (some .int) [.ref a0, .int a1] st post := by
  refine ctI_of (by decide) (Nat.le_of_ble_eq_true rfl) ?_
  show Jg l E CF (Rm 6 0 0) cX11_days 3 RX11 (some .int) (QI E post 0 0) 0 0 0 [(0, .ref a0), (1, .int a1)] [] st
  unfold P_X11_days at h
  refine J_iload_n 1 dX11_days_0 rfl rfl ?_
  refine J_iconst 1 dX11_days_1 (by decide) ?_
  refine J_icmp_lt 26 dX11_days_2 (by decide) (fun hc => ?_) (fun hc => ?_)
  · have h := h.1 hc
    exact J_lv [0, 1] rfl (K_X11_days_26  a0 a1  st h)
  · have h := h.2 hc
    refine J_iload_n 1 dX11_days_5 rfl rfl ?_
    refine J_bipush 20 dX11_days_6 (by decide) ?_
    refine J_icmp_gt 26 dX11_days_8 (by decide) (fun hc => ?_) (fun hc => ?_)
    · have h := h.1 hc
      exact J_lv [0, 1] rfl (K_X11_days_26  a0 a1  st h)
    · have h := h.2 hc
      refine J_aload_n 0 dX11_days_11 rfl rfl ?_
      obtain ⟨r_1, hf, h⟩ := h
      refine J_getR fl_RX11_36 dX11_days_12 hf ?_
      obtain ⟨⟨fl9, ho⟩, h⟩ := h
      refine J_cvi (As := []) md_X2_today k_759 cl_2 ho rfl rfl ⟨Nat.le_of_ble_eq_true rfl, Nat.le_of_ble_eq_true rfl⟩ ⟨Nat.le_refl _, Nat.le_refl _⟩ (Nat.le_of_ble_eq_true rfl) dX11_days_15 (ct_X2_today  h) (fun z_2 st_3 h => ?_)
      refine J_iload_n 1 dX11_days_18 rfl rfl ?_
      refine J_iadd dX11_days_19 ?_
      refine J_sipush 999 dX11_days_20 (by decide) ?_
      refine J_icmp_le 32 dX11_days_23 (by decide) (fun hc => ?_) (fun hc => ?_)
      · have h := h.1 hc
        refine J_aload_n 0 dX11_days_32 rfl rfl ?_
        obtain ⟨r_4, hf, h⟩ := h
        refine J_getR fl_RX11_25 dX11_days_33 hf ?_
        obtain ⟨⟨fl9, ho⟩, h⟩ := h
        refine J_cvv (As := []) md_X1_keepAct k_796 cl_1 ho rfl rfl ⟨Nat.le_of_ble_eq_true rfl, Nat.le_of_ble_eq_true rfl⟩ ⟨Nat.le_refl _, Nat.le_refl _⟩ (Nat.le_of_ble_eq_true rfl) dX11_days_36 (ct_X1_keepAct  h) (fun st_6 h => ?_)
        refine J_iconst 0 dX11_days_39 (by decide) ?_
        refine J_istore_n _ dX11_days_40 rfl (by decide) rfl ?_
        obtain ⟨n8, h⟩ := h
        exact J_lv [1, 2, 0] rfl (K_X11_days_41  a0 a1  n8 0 st_6 h)
      · have h := h.2 hc
        exact J_lv [0, 1] rfl (K_X11_days_26  a0 a1  st_3 h)
/-! X11_dog -/
def P_X11_dog  (a0 : Nat) (st : St) (post : Int32 → St → Prop) : Prop := ∃ r_1, rv st a0 11 10 = some r_1 ∧ oC r_1 9 ∧ P_X9_letPass  r_1 60 st (fun st_3 => ∃ r_4, rv st_3 a0 11 8 = some r_4 ∧ oC r_4 2 ∧ P_X2_dogCount  r_4 st_3 (fun z_5 st_6 => ∃ r_7, rv st_6 a0 11 7 = some r_7 ∧ oC r_7 2 ∧ P_X2_dogCount  r_7 st_6 (fun z_8 st_9 => post (z_5 - z_8) st_9)))
set_option maxRecDepth 100000 in
set_option maxHeartbeats 4000000 in
theorem ct_X11_dog {l : Launch} {E : En} {CF : CFt}  {a0 : Nat} {st : St} {post : Int32 → St → Prop} (h : P_X11_dog  a0 st post) : CtI l E CF 7 0 0 yX11_dog cX11_dog 1 (some .int) [.ref a0] st post := by
  refine ctI_of (by decide) (Nat.le_of_ble_eq_true rfl) ?_
  show Jg l E CF (Rm 7 0 0) cX11_dog 1 RX11 (some .int) (QI E post 0 0) 0 0 0 [(0, .ref a0)] [] st
  unfold P_X11_dog at h
  refine J_aload_n 0 dX11_dog_0 rfl rfl ?_
  obtain ⟨r_1, hf, h⟩ := h
  refine J_getR fl_RX11_63 dX11_dog_1 hf ?_
  refine J_bipush 60 dX11_dog_4 (by decide) ?_
  obtain ⟨⟨fl9, ho⟩, h⟩ := h
  refine J_cvv (As := [_]) md_X9_letPass k_822 cl_9 ho rfl rfl ⟨Nat.le_of_ble_eq_true rfl, Nat.le_of_ble_eq_true rfl⟩ ⟨Nat.le_refl _, Nat.le_refl _⟩ (Nat.le_of_ble_eq_true rfl) dX11_dog_6 (ct_X9_letPass  h) (fun st_3 h => ?_)
  refine J_aload_n 0 dX11_dog_9 rfl rfl ?_
  obtain ⟨r_4, hf, h⟩ := h
  refine J_getR fl_RX11_42 dX11_dog_10 hf ?_
  obtain ⟨⟨fl9, ho⟩, h⟩ := h
  refine J_cvi (As := []) md_X2_dogCount k_763 cl_2 ho rfl rfl ⟨Nat.le_of_ble_eq_true rfl, Nat.le_of_ble_eq_true rfl⟩ ⟨Nat.le_refl _, Nat.le_refl _⟩ (Nat.le_of_ble_eq_true rfl) dX11_dog_13 (ct_X2_dogCount  h) (fun z_5 st_6 h => ?_)
  refine J_aload_n 0 dX11_dog_16 rfl rfl ?_
  obtain ⟨r_7, hf, h⟩ := h
  refine J_getR fl_RX11_36 dX11_dog_17 hf ?_
  obtain ⟨⟨fl9, ho⟩, h⟩ := h
  refine J_cvi (As := []) md_X2_dogCount k_763 cl_2 ho rfl rfl ⟨Nat.le_of_ble_eq_true rfl, Nat.le_of_ble_eq_true rfl⟩ ⟨Nat.le_refl _, Nat.le_refl _⟩ (Nat.le_of_ble_eq_true rfl) dX11_dog_20 (ct_X2_dogCount  h) (fun z_8 st_9 h => ?_)
  refine J_isub dX11_dog_23 ?_
  exact J_reti rfl dX11_dog_24 h
