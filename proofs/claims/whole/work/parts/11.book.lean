/-! X7_clear -/
def P_X7_clear  (a0 : Nat) (st : St) (post : St → Prop) : Prop := fk a0 7 5 = some 0 ∧ post (sI st a0 5 0)
set_option maxRecDepth 100000 in
set_option maxHeartbeats 4000000 in
theorem ct_X7_clear {l : Launch} {E : En}  {a0 : Nat} {st : St} {post : St → Prop} (h : P_X7_clear  a0 st post) : CtV l E (CFc E) 1 0 0 yX7_clear cX7_clear 1 none [.ref a0] st post := by
  refine ctV_of (by decide) (Nat.le_of_ble_eq_true rfl) ?_
  show Jg l E (CFc E) (Rm 1 0 0) cX7_clear 1 RX7 none (fun _ => True) (QV E post 0 0) 0 0 0 [(0, .ref a0)] [] st
  unfold P_X7_clear at h
  refine J_aload_n 0 dX7_clear_0 rfl rfl ?_
  refine J_iconst 0 dX7_clear_1 (by decide) ?_
  obtain ⟨hf, h⟩ := h
  refine J_putI fp_RX7_28 dX7_clear_2 rfl hf ?_
  exact J_retv rfl dX7_clear_5 h
/-! X7_add -/
def P_X7_add_71  (a0 : Nat) (a1 : Int32) (a2 : Int32) (a3 : Int32) (a4 : Int32) (a5 : Int32)  (post : St → Prop)  (st : St) : Prop := post st
def P_X7_add  (a0 : Nat) (a1 : Int32) (a2 : Int32) (a3 : Int32) (a4 : Int32) (a5 : Int32) (st : St) (post : St → Prop) : Prop := fk a0 7 5 = some 0 ∧ ((8 ≤ (gI st a0 5) → P_X7_add_71  a0 a1 a2 a3 a4 a5  post st) ∧ (¬ 8 ≤ (gI st a0 5) → ∃ r_1, rv st a0 7 0 = some r_1 ∧ fk a0 7 5 = some 0 ∧ vp_in (gI st a0 5) (al 0 r_1) ∧ ∃ r_2, rv (sA st r_1 (gI st a0 5 : Int32).toNatClampNeg a1) a0 7 1 = some r_2 ∧ fk a0 7 5 = some 0 ∧ vp_in (gI (sA st r_1 (gI st a0 5 : Int32).toNatClampNeg a1) a0 5) (al 0 r_2) ∧ ∃ r_3, rv (sA (sA st r_1 (gI st a0 5 : Int32).toNatClampNeg a1) r_2 (gI (sA st r_1 (gI st a0 5 : Int32).toNatClampNeg a1) a0 5 : Int32).toNatClampNeg a2) a0 7 2 = some r_3 ∧ fk a0 7 5 = some 0 ∧ vp_in (gI (sA (sA st r_1 (gI st a0 5 : Int32).toNatClampNeg a1) r_2 (gI (sA st r_1 (gI st a0 5 : Int32).toNatClampNeg a1) a0 5 : Int32).toNatClampNeg a2) a0 5) (al 0 r_3) ∧ ∃ r_4, rv (sA (sA (sA st r_1 (gI st a0 5 : Int32).toNatClampNeg a1) r_2 (gI (sA st r_1 (gI st a0 5 : Int32).toNatClampNeg a1) a0 5 : Int32).toNatClampNeg a2) r_3 (gI (sA (sA st r_1 (gI st a0 5 : Int32).toNatClampNeg a1) r_2 (gI (sA st r_1 (gI st a0 5 : Int32).toNatClampNeg a1) a0 5 : Int32).toNatClampNeg a2) a0 5 : Int32).toNatClampNeg a3) a0 7 3 = some r_4 ∧ fk a0 7 5 = some 0 ∧ vp_in (gI (sA (sA (sA st r_1 (gI st a0 5 : Int32).toNatClampNeg a1) r_2 (gI (sA st r_1 (gI st a0 5 : Int32).toNatClampNeg a1) a0 5 : Int32).toNatClampNeg a2) r_3 (gI (sA (sA st r_1 (gI st a0 5 : Int32).toNatClampNeg a1) r_2 (gI (sA st r_1 (gI st a0 5 : Int32).toNatClampNeg a1) a0 5 : Int32).toNatClampNeg a2) a0 5 : Int32).toNatClampNeg a3) a0 5) (al 0 r_4) ∧ ∃ r_5, rv (sA (sA (sA (sA st r_1 (gI st a0 5 : Int32).toNatClampNeg a1) r_2 (gI (sA st r_1 (gI st a0 5 : Int32).toNatClampNeg a1) a0 5 : Int32).toNatClampNeg a2) r_3 (gI (sA (sA st r_1 (gI st a0 5 : Int32).toNatClampNeg a1) r_2 (gI (sA st r_1 (gI st a0 5 : Int32).toNatClampNeg a1) a0 5 : Int32).toNatClampNeg a2) a0 5 : Int32).toNatClampNeg a3) r_4 (gI (sA (sA (sA st r_1 (gI st a0 5 : Int32).toNatClampNeg a1) r_2 (gI (sA st r_1 (gI st a0 5 : Int32).toNatClampNeg a1) a0 5 : Int32).toNatClampNeg a2) r_3 (gI (sA (sA st r_1 (gI st a0 5 : Int32).toNatClampNeg a1) r_2 (gI (sA st r_1 (gI st a0 5 : Int32).toNatClampNeg a1) a0 5 : Int32).toNatClampNeg a2) a0 5 : Int32).toNatClampNeg a3) a0 5 : Int32).toNatClampNeg a4) a0 7 4 = some r_5 ∧ fk a0 7 5 = some 0 ∧ vp_in (gI (sA (sA (sA (sA st r_1 (gI st a0 5 : Int32).toNatClampNeg a1) r_2 (gI (sA st r_1 (gI st a0 5 : Int32).toNatClampNeg a1) a0 5 : Int32).toNatClampNeg a2) r_3 (gI (sA (sA st r_1 (gI st a0 5 : Int32).toNatClampNeg a1) r_2 (gI (sA st r_1 (gI st a0 5 : Int32).toNatClampNeg a1) a0 5 : Int32).toNatClampNeg a2) a0 5 : Int32).toNatClampNeg a3) r_4 (gI (sA (sA (sA st r_1 (gI st a0 5 : Int32).toNatClampNeg a1) r_2 (gI (sA st r_1 (gI st a0 5 : Int32).toNatClampNeg a1) a0 5 : Int32).toNatClampNeg a2) r_3 (gI (sA (sA st r_1 (gI st a0 5 : Int32).toNatClampNeg a1) r_2 (gI (sA st r_1 (gI st a0 5 : Int32).toNatClampNeg a1) a0 5 : Int32).toNatClampNeg a2) a0 5 : Int32).toNatClampNeg a3) a0 5 : Int32).toNatClampNeg a4) a0 5) (al 1 r_5) ∧ (a5 = 0 ∨ a5 = 1) ∧ fk a0 7 5 = some 0 ∧ fk a0 7 5 = some 0 ∧ P_X7_add_71  a0 a1 a2 a3 a4 a5  post (sI (sA (sA (sA (sA (sA st r_1 (gI st a0 5 : Int32).toNatClampNeg a1) r_2 (gI (sA st r_1 (gI st a0 5 : Int32).toNatClampNeg a1) a0 5 : Int32).toNatClampNeg a2) r_3 (gI (sA (sA st r_1 (gI st a0 5 : Int32).toNatClampNeg a1) r_2 (gI (sA st r_1 (gI st a0 5 : Int32).toNatClampNeg a1) a0 5 : Int32).toNatClampNeg a2) a0 5 : Int32).toNatClampNeg a3) r_4 (gI (sA (sA (sA st r_1 (gI st a0 5 : Int32).toNatClampNeg a1) r_2 (gI (sA st r_1 (gI st a0 5 : Int32).toNatClampNeg a1) a0 5 : Int32).toNatClampNeg a2) r_3 (gI (sA (sA st r_1 (gI st a0 5 : Int32).toNatClampNeg a1) r_2 (gI (sA st r_1 (gI st a0 5 : Int32).toNatClampNeg a1) a0 5 : Int32).toNatClampNeg a2) a0 5 : Int32).toNatClampNeg a3) a0 5 : Int32).toNatClampNeg a4) r_5 (gI (sA (sA (sA (sA st r_1 (gI st a0 5 : Int32).toNatClampNeg a1) r_2 (gI (sA st r_1 (gI st a0 5 : Int32).toNatClampNeg a1) a0 5 : Int32).toNatClampNeg a2) r_3 (gI (sA (sA st r_1 (gI st a0 5 : Int32).toNatClampNeg a1) r_2 (gI (sA st r_1 (gI st a0 5 : Int32).toNatClampNeg a1) a0 5 : Int32).toNatClampNeg a2) a0 5 : Int32).toNatClampNeg a3) r_4 (gI (sA (sA (sA st r_1 (gI st a0 5 : Int32).toNatClampNeg a1) r_2 (gI (sA st r_1 (gI st a0 5 : Int32).toNatClampNeg a1) a0 5 : Int32).toNatClampNeg a2) r_3 (gI (sA (sA st r_1 (gI st a0 5 : Int32).toNatClampNeg a1) r_2 (gI (sA st r_1 (gI st a0 5 : Int32).toNatClampNeg a1) a0 5 : Int32).toNatClampNeg a2) a0 5 : Int32).toNatClampNeg a3) a0 5 : Int32).toNatClampNeg a4) a0 5 : Int32).toNatClampNeg a5) a0 5 ((gI (sA (sA (sA (sA (sA st r_1 (gI st a0 5 : Int32).toNatClampNeg a1) r_2 (gI (sA st r_1 (gI st a0 5 : Int32).toNatClampNeg a1) a0 5 : Int32).toNatClampNeg a2) r_3 (gI (sA (sA st r_1 (gI st a0 5 : Int32).toNatClampNeg a1) r_2 (gI (sA st r_1 (gI st a0 5 : Int32).toNatClampNeg a1) a0 5 : Int32).toNatClampNeg a2) a0 5 : Int32).toNatClampNeg a3) r_4 (gI (sA (sA (sA st r_1 (gI st a0 5 : Int32).toNatClampNeg a1) r_2 (gI (sA st r_1 (gI st a0 5 : Int32).toNatClampNeg a1) a0 5 : Int32).toNatClampNeg a2) r_3 (gI (sA (sA st r_1 (gI st a0 5 : Int32).toNatClampNeg a1) r_2 (gI (sA st r_1 (gI st a0 5 : Int32).toNatClampNeg a1) a0 5 : Int32).toNatClampNeg a2) a0 5 : Int32).toNatClampNeg a3) a0 5 : Int32).toNatClampNeg a4) r_5 (gI (sA (sA (sA (sA st r_1 (gI st a0 5 : Int32).toNatClampNeg a1) r_2 (gI (sA st r_1 (gI st a0 5 : Int32).toNatClampNeg a1) a0 5 : Int32).toNatClampNeg a2) r_3 (gI (sA (sA st r_1 (gI st a0 5 : Int32).toNatClampNeg a1) r_2 (gI (sA st r_1 (gI st a0 5 : Int32).toNatClampNeg a1) a0 5 : Int32).toNatClampNeg a2) a0 5 : Int32).toNatClampNeg a3) r_4 (gI (sA (sA (sA st r_1 (gI st a0 5 : Int32).toNatClampNeg a1) r_2 (gI (sA st r_1 (gI st a0 5 : Int32).toNatClampNeg a1) a0 5 : Int32).toNatClampNeg a2) r_3 (gI (sA (sA st r_1 (gI st a0 5 : Int32).toNatClampNeg a1) r_2 (gI (sA st r_1 (gI st a0 5 : Int32).toNatClampNeg a1) a0 5 : Int32).toNatClampNeg a2) a0 5 : Int32).toNatClampNeg a3) a0 5 : Int32).toNatClampNeg a4) a0 5 : Int32).toNatClampNeg a5) a0 5) + 1))))
set_option maxRecDepth 100000 in
set_option maxHeartbeats 4000000 in
theorem K_X7_add_71 {l : Launch} {E : En}   (a0 : Nat) (a1 : Int32) (a2 : Int32) (a3 : Int32) (a4 : Int32) (a5 : Int32)  {post : St → Prop}    (st : St) (h : P_X7_add_71  a0 a1 a2 a3 a4 a5  post  st) : Jg l E (CFc E) (Rm 1 0 0) cX7_add 6 RX7 none (fun _ => True) (QV E post 0 0) 0 0 71 [(0, .ref a0), (1, .int a1), (2, .int a2), (3, .int a3), (4, .int a4), (5, .int a5)] [] st := by
  unfold P_X7_add_71 at h
  exact J_retv rfl dX7_add_71 h
set_option maxRecDepth 100000 in
set_option maxHeartbeats 4000000 in
theorem ct_X7_add {l : Launch} {E : En}  {a0 : Nat} {a1 : Int32} {a2 : Int32} {a3 : Int32} {a4 : Int32} {a5 : Int32} {st : St} {post : St → Prop} (h : P_X7_add  a0 a1 a2 a3 a4 a5 st post) : CtV l E (CFc E) 1 0 0 yX7_add cX7_add 6 none [.ref a0, .int a1, .int a2, .int a3, .int a4, .int a5] st post := by
  refine ctV_of (by decide) (Nat.le_of_ble_eq_true rfl) ?_
  show Jg l E (CFc E) (Rm 1 0 0) cX7_add 6 RX7 none (fun _ => True) (QV E post 0 0) 0 0 0 [(0, .ref a0), (1, .int a1), (2, .int a2), (3, .int a3), (4, .int a4), (5, .int a5)] [] st
  unfold P_X7_add at h
  refine J_aload_n 0 dX7_add_0 rfl rfl ?_
  obtain ⟨hf, h⟩ := h
  refine J_getI fl_RX7_28 dX7_add_1 hf ?_
  refine J_bipush 8 dX7_add_4 (by decide) ?_
  refine J_icmp_ge 71 dX7_add_6 (by decide) (fun hc => ?_) (fun hc => ?_)
  · have h := h.1 hc
    exact J_lv [0, 1, 2, 3, 4, 5] rfl (K_X7_add_71   a0 a1 a2 a3 a4 a5  st h)
  · have h := h.2 hc
    refine J_aload_n 0 dX7_add_9 rfl rfl ?_
    obtain ⟨r_1, hf, h⟩ := h
    refine J_getR fl_RX7_9 dX7_add_10 hf ?_
    refine J_aload_n 0 dX7_add_13 rfl rfl ?_
    obtain ⟨hf, h⟩ := h
    refine J_getI fl_RX7_28 dX7_add_14 hf ?_
    refine J_iload_n 1 dX7_add_17 rfl rfl ?_
    obtain ⟨hi, h⟩ := h
    refine J_iast dX7_add_18 hi ?_
    refine J_aload_n 0 dX7_add_19 rfl rfl ?_
    obtain ⟨r_2, hf, h⟩ := h
    refine J_getR fl_RX7_15 dX7_add_20 hf ?_
    refine J_aload_n 0 dX7_add_23 rfl rfl ?_
    obtain ⟨hf, h⟩ := h
    refine J_getI fl_RX7_28 dX7_add_24 hf ?_
    refine J_iload_n 2 dX7_add_27 rfl rfl ?_
    obtain ⟨hi, h⟩ := h
    refine J_iast dX7_add_28 hi ?_
    refine J_aload_n 0 dX7_add_29 rfl rfl ?_
    obtain ⟨r_3, hf, h⟩ := h
    refine J_getR fl_RX7_18 dX7_add_30 hf ?_
    refine J_aload_n 0 dX7_add_33 rfl rfl ?_
    obtain ⟨hf, h⟩ := h
    refine J_getI fl_RX7_28 dX7_add_34 hf ?_
    refine J_iload_n 3 dX7_add_37 rfl rfl ?_
    obtain ⟨hi, h⟩ := h
    refine J_iast dX7_add_38 hi ?_
    refine J_aload_n 0 dX7_add_39 rfl rfl ?_
    obtain ⟨r_4, hf, h⟩ := h
    refine J_getR fl_RX7_21 dX7_add_40 hf ?_
    refine J_aload_n 0 dX7_add_43 rfl rfl ?_
    obtain ⟨hf, h⟩ := h
    refine J_getI fl_RX7_28 dX7_add_44 hf ?_
    refine J_iload 4 dX7_add_47 rfl ?_
    obtain ⟨hi, h⟩ := h
    refine J_iast dX7_add_49 hi ?_
    refine J_aload_n 0 dX7_add_50 rfl rfl ?_
    obtain ⟨r_5, hf, h⟩ := h
    refine J_getR fl_RX7_24 dX7_add_51 hf ?_
    refine J_aload_n 0 dX7_add_54 rfl rfl ?_
    obtain ⟨hf, h⟩ := h
    refine J_getI fl_RX7_28 dX7_add_55 hf ?_
    refine J_iload 5 dX7_add_58 rfl ?_
    obtain ⟨hi, h⟩ := h
    obtain ⟨hb, h⟩ := h
    refine J_zast dX7_add_60 hi hb ?_
    refine J_aload_n 0 dX7_add_61 rfl rfl ?_
    refine J_dup dX7_add_62 rfl ?_
    obtain ⟨hf, h⟩ := h
    refine J_getI fl_RX7_28 dX7_add_63 hf ?_
    refine J_iconst 1 dX7_add_66 (by decide) ?_
    refine J_iadd dX7_add_67 ?_
    obtain ⟨hf, h⟩ := h
    refine J_putI fp_RX7_28 dX7_add_68 rfl hf ?_
    exact J_lv [0, 1, 2, 3, 4, 5] rfl (K_X7_add_71   a0 a1 a2 a3 a4 a5  (sI (sA (sA (sA (sA (sA st r_1 (gI st a0 5 : Int32).toNatClampNeg a1) r_2 (gI (sA st r_1 (gI st a0 5 : Int32).toNatClampNeg a1) a0 5 : Int32).toNatClampNeg a2) r_3 (gI (sA (sA st r_1 (gI st a0 5 : Int32).toNatClampNeg a1) r_2 (gI (sA st r_1 (gI st a0 5 : Int32).toNatClampNeg a1) a0 5 : Int32).toNatClampNeg a2) a0 5 : Int32).toNatClampNeg a3) r_4 (gI (sA (sA (sA st r_1 (gI st a0 5 : Int32).toNatClampNeg a1) r_2 (gI (sA st r_1 (gI st a0 5 : Int32).toNatClampNeg a1) a0 5 : Int32).toNatClampNeg a2) r_3 (gI (sA (sA st r_1 (gI st a0 5 : Int32).toNatClampNeg a1) r_2 (gI (sA st r_1 (gI st a0 5 : Int32).toNatClampNeg a1) a0 5 : Int32).toNatClampNeg a2) a0 5 : Int32).toNatClampNeg a3) a0 5 : Int32).toNatClampNeg a4) r_5 (gI (sA (sA (sA (sA st r_1 (gI st a0 5 : Int32).toNatClampNeg a1) r_2 (gI (sA st r_1 (gI st a0 5 : Int32).toNatClampNeg a1) a0 5 : Int32).toNatClampNeg a2) r_3 (gI (sA (sA st r_1 (gI st a0 5 : Int32).toNatClampNeg a1) r_2 (gI (sA st r_1 (gI st a0 5 : Int32).toNatClampNeg a1) a0 5 : Int32).toNatClampNeg a2) a0 5 : Int32).toNatClampNeg a3) r_4 (gI (sA (sA (sA st r_1 (gI st a0 5 : Int32).toNatClampNeg a1) r_2 (gI (sA st r_1 (gI st a0 5 : Int32).toNatClampNeg a1) a0 5 : Int32).toNatClampNeg a2) r_3 (gI (sA (sA st r_1 (gI st a0 5 : Int32).toNatClampNeg a1) r_2 (gI (sA st r_1 (gI st a0 5 : Int32).toNatClampNeg a1) a0 5 : Int32).toNatClampNeg a2) a0 5 : Int32).toNatClampNeg a3) a0 5 : Int32).toNatClampNeg a4) a0 5 : Int32).toNatClampNeg a5) a0 5 ((gI (sA (sA (sA (sA (sA st r_1 (gI st a0 5 : Int32).toNatClampNeg a1) r_2 (gI (sA st r_1 (gI st a0 5 : Int32).toNatClampNeg a1) a0 5 : Int32).toNatClampNeg a2) r_3 (gI (sA (sA st r_1 (gI st a0 5 : Int32).toNatClampNeg a1) r_2 (gI (sA st r_1 (gI st a0 5 : Int32).toNatClampNeg a1) a0 5 : Int32).toNatClampNeg a2) a0 5 : Int32).toNatClampNeg a3) r_4 (gI (sA (sA (sA st r_1 (gI st a0 5 : Int32).toNatClampNeg a1) r_2 (gI (sA st r_1 (gI st a0 5 : Int32).toNatClampNeg a1) a0 5 : Int32).toNatClampNeg a2) r_3 (gI (sA (sA st r_1 (gI st a0 5 : Int32).toNatClampNeg a1) r_2 (gI (sA st r_1 (gI st a0 5 : Int32).toNatClampNeg a1) a0 5 : Int32).toNatClampNeg a2) a0 5 : Int32).toNatClampNeg a3) a0 5 : Int32).toNatClampNeg a4) r_5 (gI (sA (sA (sA (sA st r_1 (gI st a0 5 : Int32).toNatClampNeg a1) r_2 (gI (sA st r_1 (gI st a0 5 : Int32).toNatClampNeg a1) a0 5 : Int32).toNatClampNeg a2) r_3 (gI (sA (sA st r_1 (gI st a0 5 : Int32).toNatClampNeg a1) r_2 (gI (sA st r_1 (gI st a0 5 : Int32).toNatClampNeg a1) a0 5 : Int32).toNatClampNeg a2) a0 5 : Int32).toNatClampNeg a3) r_4 (gI (sA (sA (sA st r_1 (gI st a0 5 : Int32).toNatClampNeg a1) r_2 (gI (sA st r_1 (gI st a0 5 : Int32).toNatClampNeg a1) a0 5 : Int32).toNatClampNeg a2) r_3 (gI (sA (sA st r_1 (gI st a0 5 : Int32).toNatClampNeg a1) r_2 (gI (sA st r_1 (gI st a0 5 : Int32).toNatClampNeg a1) a0 5 : Int32).toNatClampNeg a2) a0 5 : Int32).toNatClampNeg a3) a0 5 : Int32).toNatClampNeg a4) a0 5 : Int32).toNatClampNeg a5) a0 5) + 1)) h)
/-! X7_copyFrom -/
def P_X7_copyFrom_6  (a0 : Nat) (a1 : Nat)  (post : St → Prop) : Nat → Int32 → St → Prop
  | 0, _, _ => False
  | n9 + 1, x2, st => fk a1 7 5 = some 0 ∧ (((gI st a1 5) ≤ x2 → post st) ∧ (¬ (gI st a1 5) ≤ x2 → ∃ r_1, rv st a1 7 0 = some r_1 ∧ vp_in x2 (al 0 r_1) ∧ ∃ r_2, rv st a1 7 1 = some r_2 ∧ vp_in x2 (al 0 r_2) ∧ ∃ r_3, rv st a1 7 2 = some r_3 ∧ vp_in x2 (al 0 r_3) ∧ ∃ r_4, rv st a1 7 3 = some r_4 ∧ vp_in x2 (al 0 r_4) ∧ ∃ r_5, rv st a1 7 4 = some r_5 ∧ vp_in x2 (al 1 r_5) ∧ oC a0 7 ∧ P_X7_add  a0 (gA st r_1 (x2 : Int32).toNatClampNeg) (gA st r_2 (x2 : Int32).toNatClampNeg) (gA st r_3 (x2 : Int32).toNatClampNeg) (gA st r_4 (x2 : Int32).toNatClampNeg) (gA st r_5 (x2 : Int32).toNatClampNeg) st (fun st_7 => P_X7_copyFrom_6  a0 a1  post n9 (x2 + 1) st_7)))
def P_X7_copyFrom  (a0 : Nat) (a1 : Nat) (st : St) (post : St → Prop) : Prop := oC a0 7 ∧ P_X7_clear  a0 st (fun st_2 => ∃ n8, P_X7_copyFrom_6  a0 a1  post n8 0 st_2)
set_option maxRecDepth 100000 in
set_option maxHeartbeats 4000000 in
theorem K_X7_copyFrom_6 {l : Launch} {E : En}   (a0 : Nat) (a1 : Nat)  {post : St → Prop}   : ∀ (n9 : Nat) (x2 : Int32) (st : St), P_X7_copyFrom_6  a0 a1  post n9 x2 st → Jg l E (CFc E) (Rm 2 0 0) cX7_copyFrom 3 RX7 none (fun _ => True) (QV E post 0 0) 0 0 6 [(0, .ref a0), (1, .ref a1), (2, .int x2)] [] st := by
  intro n9
  induction n9 with
  | zero => intro x2 st h; exact h.elim
  | succ n9 ih =>
    intro x2 st h
    unfold P_X7_copyFrom_6 at h
    refine J_iload_n 2 dX7_copyFrom_6 rfl rfl ?_
    refine J_aload_n 1 dX7_copyFrom_7 rfl rfl ?_
    obtain ⟨hf, h⟩ := h
    refine J_getI fl_RX7_28 dX7_copyFrom_8 hf ?_
    refine J_icmp_ge 54 dX7_copyFrom_11 (by decide) (fun hc => ?_) (fun hc => ?_)
    · have h := h.1 hc
      exact J_retv rfl dX7_copyFrom_54 h
    · have h := h.2 hc
      refine J_aload_n 0 dX7_copyFrom_14 rfl rfl ?_
      refine J_aload_n 1 dX7_copyFrom_15 rfl rfl ?_
      obtain ⟨r_1, hf, h⟩ := h
      refine J_getR fl_RX7_9 dX7_copyFrom_16 hf ?_
      refine J_iload_n 2 dX7_copyFrom_19 rfl rfl ?_
      obtain ⟨hi, h⟩ := h
      refine J_iald dX7_copyFrom_20 hi ?_
      refine J_aload_n 1 dX7_copyFrom_21 rfl rfl ?_
      obtain ⟨r_2, hf, h⟩ := h
      refine J_getR fl_RX7_15 dX7_copyFrom_22 hf ?_
      refine J_iload_n 2 dX7_copyFrom_25 rfl rfl ?_
      obtain ⟨hi, h⟩ := h
      refine J_iald dX7_copyFrom_26 hi ?_
      refine J_aload_n 1 dX7_copyFrom_27 rfl rfl ?_
      obtain ⟨r_3, hf, h⟩ := h
      refine J_getR fl_RX7_18 dX7_copyFrom_28 hf ?_
      refine J_iload_n 2 dX7_copyFrom_31 rfl rfl ?_
      obtain ⟨hi, h⟩ := h
      refine J_iald dX7_copyFrom_32 hi ?_
      refine J_aload_n 1 dX7_copyFrom_33 rfl rfl ?_
      obtain ⟨r_4, hf, h⟩ := h
      refine J_getR fl_RX7_21 dX7_copyFrom_34 hf ?_
      refine J_iload_n 2 dX7_copyFrom_37 rfl rfl ?_
      obtain ⟨hi, h⟩ := h
      refine J_iald dX7_copyFrom_38 hi ?_
      refine J_aload_n 1 dX7_copyFrom_39 rfl rfl ?_
      obtain ⟨r_5, hf, h⟩ := h
      refine J_getR fl_RX7_24 dX7_copyFrom_40 hf ?_
      refine J_iload_n 2 dX7_copyFrom_43 rfl rfl ?_
      obtain ⟨hi, h⟩ := h
      refine J_zald dX7_copyFrom_44 hi ?_
      obtain ⟨ho, h⟩ := h
      refine J_cvv (As := [_, _, _, _, _]) md_X7_add k_72 (rc_obj cl_7 ho) rfl rfl ⟨Nat.le_of_ble_eq_true rfl, Nat.le_of_ble_eq_true rfl⟩ ⟨Nat.le_of_ble_eq_true rfl, Nat.le_of_ble_eq_true rfl⟩ (Nat.le_of_ble_eq_true rfl) dX7_copyFrom_45 (ct_X7_add  h) (fun st_7 h => ?_)
      refine J_iinc 2 (x2 + 1) _ dX7_copyFrom_48 rfl (by rfl) (by decide) rfl ?_
      refine J_goto 6 dX7_copyFrom_51 (by decide) ?_
      exact J_lv [1, 2, 0] rfl (ih (x2 + 1) st_7 h)
set_option maxRecDepth 100000 in
set_option maxHeartbeats 4000000 in
theorem ct_X7_copyFrom {l : Launch} {E : En}  {a0 : Nat} {a1 : Nat} {st : St} {post : St → Prop} (h : P_X7_copyFrom  a0 a1 st post) : CtV l E (CFc E) 2 0 0 yX7_copyFrom cX7_copyFrom 3 none [.ref a0, .ref a1] st post := by
  refine ctV_of (by decide) (Nat.le_of_ble_eq_true rfl) ?_
  show Jg l E (CFc E) (Rm 2 0 0) cX7_copyFrom 3 RX7 none (fun _ => True) (QV E post 0 0) 0 0 0 [(0, .ref a0), (1, .ref a1)] [] st
  unfold P_X7_copyFrom at h
  refine J_aload_n 0 dX7_copyFrom_0 rfl rfl ?_
  obtain ⟨ho, h⟩ := h
  refine J_cvv (As := []) md_X7_clear k_69 (rc_obj cl_7 ho) rfl rfl ⟨Nat.le_of_ble_eq_true rfl, Nat.le_of_ble_eq_true rfl⟩ ⟨Nat.le_of_ble_eq_true rfl, Nat.le_of_ble_eq_true rfl⟩ (Nat.le_of_ble_eq_true rfl) dX7_copyFrom_1 (ct_X7_clear  h) (fun st_2 h => ?_)
  refine J_iconst 0 dX7_copyFrom_4 (by decide) ?_
  refine J_istore_n _ dX7_copyFrom_5 rfl (by decide) rfl ?_
  obtain ⟨n8, h⟩ := h
  exact J_lv [1, 2, 0] rfl (K_X7_copyFrom_6   a0 a1  n8 0 st_2 h)
/-! X7_farthest -/
def P_X7_farthest_4  (a0 : Nat)  (post : Int32 → St → Prop) : Nat → Int32 → Int32 → St → Prop
  | 0, _, _, _ => False
  | n9 + 1, x1, x2, st => fk a0 7 5 = some 0 ∧ (((gI st a0 5) ≤ x2 → post x1 st) ∧ (¬ (gI st a0 5) ≤ x2 → ∃ r_1, rv st a0 7 1 = some r_1 ∧ vp_in x2 (al 0 r_1) ∧ P_X7_farthest_4  a0  post n9 (if (x1 : Int32) < (gA st r_1 (x2 : Int32).toNatClampNeg) then (gA st r_1 (x2 : Int32).toNatClampNeg) else x1) (x2 + 1) st))
def P_X7_farthest  (a0 : Nat) (st : St) (post : Int32 → St → Prop) : Prop := ∃ n8, P_X7_farthest_4  a0  post n8 (-1) 0 st
set_option maxRecDepth 100000 in
set_option maxHeartbeats 4000000 in
theorem K_X7_farthest_4 {l : Launch} {E : En}   (a0 : Nat)  {post : Int32 → St → Prop}   : ∀ (n9 : Nat) (x1 : Int32) (x2 : Int32) (st : St), P_X7_farthest_4  a0  post n9 x1 x2 st → Jg l E (CFc E) (Rm 2 0 0) cX7_farthest 3 RX7 (some .int) (fun _ => True) (QI E post 0 0) 0 0 4 [(0, .ref a0), (1, .int x1), (2, .int x2)] [] st := by
  intro n9
  induction n9 with
  | zero => intro x1 x2 st h; exact h.elim
  | succ n9 ih =>
    intro x1 x2 st h
    unfold P_X7_farthest_4 at h
    refine J_iload_n 2 dX7_farthest_4 rfl rfl ?_
    refine J_aload_n 0 dX7_farthest_5 rfl rfl ?_
    obtain ⟨hf, h⟩ := h
    refine J_getI fl_RX7_28 dX7_farthest_6 hf ?_
    refine J_icmp_ge 29 dX7_farthest_9 (by decide) (fun hc => ?_) (fun hc => ?_)
    · have h := h.1 hc
      refine J_iload_n 1 dX7_farthest_29 rfl rfl ?_
      exact J_reti rfl dX7_farthest_30 h
    · have h := h.2 hc
      refine J_iload_n 1 dX7_farthest_12 rfl rfl ?_
      refine J_aload_n 0 dX7_farthest_13 rfl rfl ?_
      obtain ⟨r_1, hf, h⟩ := h
      refine J_getR fl_RX7_15 dX7_farthest_14 hf ?_
      refine J_iload_n 2 dX7_farthest_17 rfl rfl ?_
      obtain ⟨hi, h⟩ := h
      refine J_iald dX7_farthest_18 hi ?_
      refine J_mmax k_569 k_157 k_158 k_159 ⟨Nat.le_of_ble_eq_true rfl, Nat.le_of_ble_eq_true rfl, Nat.le_of_ble_eq_true rfl, Nat.le_of_ble_eq_true rfl⟩ dX7_farthest_19 ?_
      refine J_istore_n _ dX7_farthest_22 rfl (by decide) rfl ?_
      refine J_iinc 2 (x2 + 1) _ dX7_farthest_23 rfl (by rfl) (by decide) rfl ?_
      refine J_goto 4 dX7_farthest_26 (by decide) ?_
      exact J_lv [2, 1, 0] rfl (ih (if (x1 : Int32) < (gA st r_1 (x2 : Int32).toNatClampNeg) then (gA st r_1 (x2 : Int32).toNatClampNeg) else x1) (x2 + 1) st h)
set_option maxRecDepth 100000 in
set_option maxHeartbeats 4000000 in
theorem ct_X7_farthest {l : Launch} {E : En}  {a0 : Nat} {st : St} {post : Int32 → St → Prop} (h : P_X7_farthest  a0 st post) : CtI l E (CFc E) 2 0 0 yX7_farthest cX7_farthest 3 (some .int) [.ref a0] st post := by
  refine ctI_of (by decide) (Nat.le_of_ble_eq_true rfl) ?_
  show Jg l E (CFc E) (Rm 2 0 0) cX7_farthest 3 RX7 (some .int) (fun _ => True) (QI E post 0 0) 0 0 0 [(0, .ref a0)] [] st
  unfold P_X7_farthest at h
  refine J_iconst (-1) dX7_farthest_0 (by decide) ?_
  refine J_istore_n _ dX7_farthest_1 rfl (by decide) rfl ?_
  refine J_iconst 0 dX7_farthest_2 (by decide) ?_
  refine J_istore_n _ dX7_farthest_3 rfl (by decide) rfl ?_
  obtain ⟨n8, h⟩ := h
  exact J_lv [2, 1, 0] rfl (K_X7_farthest_4   a0  n8 (-1) 0 st h)
/-! X1_keepAct -/
def P_X1_keepAct  (a0 : Nat) (st : St) (post : St → Prop) : Prop := ∃ r_1, rv st a0 1 1 = some r_1 ∧ ∃ r_2, rv st a0 1 0 = some r_2 ∧ ∃ r_3, rv st r_2 2 1 = some r_3 ∧ oC r_1 0 ∧ P_X0_push  r_1 r_3 st (fun st_5 => post st_5)
set_option maxRecDepth 100000 in
set_option maxHeartbeats 4000000 in
theorem ct_X1_keepAct {l : Launch} {E : En}  {a0 : Nat} {st : St} {post : St → Prop} (h : P_X1_keepAct  a0 st post) : CtV l E (CFc E) 3 0 0 yX1_keepAct cX1_keepAct 1 none [.ref a0] st post := by
  refine ctV_of (by decide) (Nat.le_of_ble_eq_true rfl) ?_
  show Jg l E (CFc E) (Rm 3 0 0) cX1_keepAct 1 RX1 none (fun _ => True) (QV E post 0 0) 0 0 0 [(0, .ref a0)] [] st
  unfold P_X1_keepAct at h
  refine J_aload_n 0 dX1_keepAct_0 rfl rfl ?_
  obtain ⟨r_1, hf, h⟩ := h
  refine J_getR fl_RX1_12 dX1_keepAct_1 hf ?_
  refine J_aload_n 0 dX1_keepAct_4 rfl rfl ?_
  obtain ⟨r_2, hf, h⟩ := h
  refine J_getR fl_RX1_34 dX1_keepAct_5 hf ?_
  obtain ⟨r_3, hf, h⟩ := h
  refine J_getR fl_RX1_38 dX1_keepAct_8 hf ?_
  obtain ⟨ho, h⟩ := h
  refine J_cvv (As := [_]) md_X0_push k_55 (rc_obj cl_0 ho) rfl rfl ⟨Nat.le_of_ble_eq_true rfl, Nat.le_of_ble_eq_true rfl⟩ ⟨Nat.le_of_ble_eq_true rfl, Nat.le_of_ble_eq_true rfl⟩ (Nat.le_of_ble_eq_true rfl) dX1_keepAct_11 (ct_X0_push  h) (fun st_5 h => ?_)
  exact J_retv rfl dX1_keepAct_14 h
/-! X1_undoAct -/
def P_X1_undoAct  (a0 : Nat) (st : St) (post : Int32 → St → Prop) : Prop := ∃ r_1, rv st a0 1 1 = some r_1 ∧ fk r_1 0 2 = some 0 ∧ ((¬ (gI st r_1 2) = 0 → ∃ r_2, rv st a0 1 1 = some r_2 ∧ ∃ r_3, rv st a0 1 0 = some r_3 ∧ ∃ r_4, rv st r_3 2 1 = some r_4 ∧ oC r_2 0 ∧ P_X0_pop  r_2 r_4 st (fun st_6 => ∃ r_7, rv st_6 a0 1 1 = some r_7 ∧ fk r_7 0 2 = some 0 ∧ post (gI st_6 r_7 2) st_6)) ∧ ((gI st r_1 2) = 0 → post (-1) st))
set_option maxRecDepth 100000 in
set_option maxHeartbeats 4000000 in
theorem ct_X1_undoAct {l : Launch} {E : En}  {a0 : Nat} {st : St} {post : Int32 → St → Prop} (h : P_X1_undoAct  a0 st post) : CtI l E (CFc E) 3 0 0 yX1_undoAct cX1_undoAct 1 (some .int) [.ref a0] st post := by
  refine ctI_of (by decide) (Nat.le_of_ble_eq_true rfl) ?_
  show Jg l E (CFc E) (Rm 3 0 0) cX1_undoAct 1 RX1 (some .int) (fun _ => True) (QI E post 0 0) 0 0 0 [(0, .ref a0)] [] st
  unfold P_X1_undoAct at h
  refine J_aload_n 0 dX1_undoAct_0 rfl rfl ?_
  obtain ⟨r_1, hf, h⟩ := h
  refine J_getR fl_RX1_12 dX1_undoAct_1 hf ?_
  obtain ⟨hf, h⟩ := h
  refine J_getI fl_RX1_45 dX1_undoAct_4 hf ?_
  refine J_if_ne 12 dX1_undoAct_7 (by decide) (fun hc => ?_) (fun hc => ?_)
  · have h := h.1 hc
    refine J_aload_n 0 dX1_undoAct_12 rfl rfl ?_
    obtain ⟨r_2, hf, h⟩ := h
    refine J_getR fl_RX1_12 dX1_undoAct_13 hf ?_
    refine J_aload_n 0 dX1_undoAct_16 rfl rfl ?_
    obtain ⟨r_3, hf, h⟩ := h
    refine J_getR fl_RX1_34 dX1_undoAct_17 hf ?_
    obtain ⟨r_4, hf, h⟩ := h
    refine J_getR fl_RX1_38 dX1_undoAct_20 hf ?_
    obtain ⟨ho, h⟩ := h
    refine J_cvv (As := [_]) md_X0_pop k_60 (rc_obj cl_0 ho) rfl rfl ⟨Nat.le_of_ble_eq_true rfl, Nat.le_of_ble_eq_true rfl⟩ ⟨Nat.le_of_ble_eq_true rfl, Nat.le_of_ble_eq_true rfl⟩ (Nat.le_of_ble_eq_true rfl) dX1_undoAct_23 (ct_X0_pop  h) (fun st_6 h => ?_)
    refine J_aload_n 0 dX1_undoAct_26 rfl rfl ?_
    obtain ⟨r_7, hf, h⟩ := h
    refine J_getR fl_RX1_12 dX1_undoAct_27 hf ?_
    obtain ⟨hf, h⟩ := h
    refine J_getI fl_RX1_45 dX1_undoAct_30 hf ?_
    exact J_reti rfl dX1_undoAct_33 h
  · have h := h.2 hc
    refine J_iconst (-1) dX1_undoAct_10 (by decide) ?_
    exact J_reti rfl dX1_undoAct_11 h
/-! X1_copyFrom -/
def P_X1_copyFrom  (a0 : Nat) (a1 : Nat) (st : St) (post : St → Prop) : Prop := ∃ r_1, rv st a0 1 0 = some r_1 ∧ ∃ r_2, rv st a1 1 0 = some r_2 ∧ oC r_1 2 ∧ P_X2_copyFrom  r_1 r_2 st (fun st_4 => ∃ r_5, rv st_4 a0 1 1 = some r_5 ∧ ∃ r_6, rv st_4 a1 1 1 = some r_6 ∧ oC r_5 0 ∧ P_X0_copyFrom  r_5 r_6 st_4 (fun st_8 => ∃ r_9, rv st_8 a0 1 2 = some r_9 ∧ ∃ r_10, rv st_8 a1 1 2 = some r_10 ∧ oC r_9 7 ∧ P_X7_copyFrom  r_9 r_10 st_8 (fun st_12 => ∃ r_13, rv st_12 a1 1 3 = some r_13 ∧ ∃ r_14, rv st_12 a0 1 3 = some r_14 ∧ (¬ (0 : Int32) < 0) ∧ (¬ (0 : Int32) < 0) ∧ (¬ (3 : Int32) < 0) ∧ 0 < al 0 r_13 ∧ 0 < al 0 r_14 ∧ (0 : Int32).toNatClampNeg + (3 : Int32).toNatClampNeg ≤ al 0 r_13 ∧ (0 : Int32).toNatClampNeg + (3 : Int32).toNatClampNeg ≤ al 0 r_14 ∧ post (sF st_12 r_14 (va_cpy (gA st_12 r_13) (gA st_12 r_14) (0 : Int32).toNatClampNeg (0 : Int32).toNatClampNeg (3 : Int32).toNatClampNeg)))))
set_option maxRecDepth 100000 in
set_option maxHeartbeats 4000000 in
theorem ct_X1_copyFrom {l : Launch} {E : En}  {a0 : Nat} {a1 : Nat} {st : St} {post : St → Prop} (h : P_X1_copyFrom  a0 a1 st post) : CtV l E (CFc E) 3 0 0 yX1_copyFrom cX1_copyFrom 2 none [.ref a0, .ref a1] st post := by
  refine ctV_of (by decide) (Nat.le_of_ble_eq_true rfl) ?_
  show Jg l E (CFc E) (Rm 3 0 0) cX1_copyFrom 2 RX1 none (fun _ => True) (QV E post 0 0) 0 0 0 [(0, .ref a0), (1, .ref a1)] [] st
  unfold P_X1_copyFrom at h
  refine J_aload_n 0 dX1_copyFrom_0 rfl rfl ?_
  obtain ⟨r_1, hf, h⟩ := h
  refine J_getR fl_RX1_34 dX1_copyFrom_1 hf ?_
  refine J_aload_n 1 dX1_copyFrom_4 rfl rfl ?_
  obtain ⟨r_2, hf, h⟩ := h
  refine J_getR fl_RX1_34 dX1_copyFrom_5 hf ?_
  obtain ⟨ho, h⟩ := h
  refine J_cvv (As := [_]) md_X2_copyFrom k_76 (rc_obj cl_2 ho) rfl rfl ⟨Nat.le_of_ble_eq_true rfl, Nat.le_of_ble_eq_true rfl⟩ ⟨Nat.le_of_ble_eq_true rfl, Nat.le_of_ble_eq_true rfl⟩ (Nat.le_of_ble_eq_true rfl) dX1_copyFrom_8 (ct_X2_copyFrom  h) (fun st_4 h => ?_)
  refine J_aload_n 0 dX1_copyFrom_11 rfl rfl ?_
  obtain ⟨r_5, hf, h⟩ := h
  refine J_getR fl_RX1_12 dX1_copyFrom_12 hf ?_
  refine J_aload_n 1 dX1_copyFrom_15 rfl rfl ?_
  obtain ⟨r_6, hf, h⟩ := h
  refine J_getR fl_RX1_12 dX1_copyFrom_16 hf ?_
  obtain ⟨ho, h⟩ := h
  refine J_cvv (As := [_]) md_X0_copyFrom k_79 (rc_obj cl_0 ho) rfl rfl ⟨Nat.le_of_ble_eq_true rfl, Nat.le_of_ble_eq_true rfl⟩ ⟨Nat.le_of_ble_eq_true rfl, Nat.le_of_ble_eq_true rfl⟩ (Nat.le_of_ble_eq_true rfl) dX1_copyFrom_19 (ct_X0_copyFrom  h) (fun st_8 h => ?_)
  refine J_aload_n 0 dX1_copyFrom_22 rfl rfl ?_
  obtain ⟨r_9, hf, h⟩ := h
  refine J_getR fl_RX1_21 dX1_copyFrom_23 hf ?_
  refine J_aload_n 1 dX1_copyFrom_26 rfl rfl ?_
  obtain ⟨r_10, hf, h⟩ := h
  refine J_getR fl_RX1_21 dX1_copyFrom_27 hf ?_
  obtain ⟨ho, h⟩ := h
  refine J_cvv (As := [_]) md_X7_copyFrom k_82 (rc_obj cl_7 ho) rfl rfl ⟨Nat.le_of_ble_eq_true rfl, Nat.le_of_ble_eq_true rfl⟩ ⟨Nat.le_of_ble_eq_true rfl, Nat.le_of_ble_eq_true rfl⟩ (Nat.le_of_ble_eq_true rfl) dX1_copyFrom_30 (ct_X7_copyFrom  h) (fun st_12 h => ?_)
  refine J_aload_n 1 dX1_copyFrom_33 rfl rfl ?_
  obtain ⟨r_13, hf, h⟩ := h
  refine J_getR fl_RX1_25 dX1_copyFrom_34 hf ?_
  refine J_iconst 0 dX1_copyFrom_37 (by decide) ?_
  refine J_aload_n 0 dX1_copyFrom_38 rfl rfl ?_
  obtain ⟨r_14, hf, h⟩ := h
  refine J_getR fl_RX1_25 dX1_copyFrom_39 hf ?_
  refine J_iconst 0 dX1_copyFrom_42 (by decide) ?_
  refine J_iconst 3 dX1_copyFrom_43 (by decide) ?_
  obtain ⟨h1, h2, h3, h4, h5, h6, h7, h⟩ := h
  refine J_copy k_75 k_12 k_13 k_14 ⟨Nat.le_of_ble_eq_true rfl, Nat.le_of_ble_eq_true rfl⟩ dX1_copyFrom_44 h1 h2 h3 h4 h5 h6 h7 ?_
  exact J_retv rfl dX1_copyFrom_47 h
/-! X7_isMore -/
def P_X7_isMore_40  (a0 : Nat) (a1 : Nat) (a2 : Int32)  (post : Int32 → St → Prop) (s0 : Int32) (st : St) : Prop := (s0 = 0 ∨ s0 = 1) ∧ post s0 st
def P_X7_isMore  (a0 : Nat) (a1 : Nat) (a2 : Int32) (st : St) (post : Int32 → St → Prop) : Prop := ∃ r_1, rv st a0 7 2 = some r_1 ∧ vp_in a2 (al 0 r_1) ∧ ∃ r_2, rv st a0 7 0 = some r_2 ∧ vp_in a2 (al 0 r_2) ∧ oC a1 2 ∧ P_X2_weigh  a1 (gA st r_1 (a2 : Int32).toNatClampNeg) (gA st r_2 (a2 : Int32).toNatClampNeg) st (fun z_3 st_4 => ∃ r_5, rv st_4 a0 7 3 = some r_5 ∧ vp_in a2 (al 0 r_5) ∧ ∃ r_6, rv st_4 a0 7 0 = some r_6 ∧ vp_in a2 (al 0 r_6) ∧ oC a1 2 ∧ P_X2_weigh  a1 (gA st_4 r_5 (a2 : Int32).toNatClampNeg) (gA st_4 r_6 (a2 : Int32).toNatClampNeg) st_4 (fun z_7 st_8 => ((z_3 ≤ z_7 → P_X7_isMore_40  a0 a1 a2  post 0 st_8) ∧ (¬ z_3 ≤ z_7 → P_X7_isMore_40  a0 a1 a2  post 1 st_8))))
set_option maxRecDepth 100000 in
set_option maxHeartbeats 4000000 in
theorem K_X7_isMore_40 {l : Launch} {E : En}   (a0 : Nat) (a1 : Nat) (a2 : Int32)  {post : Int32 → St → Prop}   (s0 : Int32) (st : St) (h : P_X7_isMore_40  a0 a1 a2  post s0 st) : Jg l E (CFc E) (Rm 4 0 0) cX7_isMore 3 RX7 (some .boolean) (fun _ => True) (QI E post 0 0) 0 0 40 [(0, .ref a0), (1, .ref a1), (2, .int a2)] [.int s0] st := by
  unfold P_X7_isMore_40 at h
  exact J_retz rfl h.1 dX7_isMore_40 h.2
set_option maxRecDepth 100000 in
set_option maxHeartbeats 4000000 in
theorem ct_X7_isMore {l : Launch} {E : En}  {a0 : Nat} {a1 : Nat} {a2 : Int32} {st : St} {post : Int32 → St → Prop} (h : P_X7_isMore  a0 a1 a2 st post) : CtI l E (CFc E) 4 0 0 yX7_isMore cX7_isMore 3 (some .boolean) [.ref a0, .ref a1, .int a2] st post := by
  refine ctI_of (by decide) (Nat.le_of_ble_eq_true rfl) ?_
  show Jg l E (CFc E) (Rm 4 0 0) cX7_isMore 3 RX7 (some .boolean) (fun _ => True) (QI E post 0 0) 0 0 0 [(0, .ref a0), (1, .ref a1), (2, .int a2)] [] st
  unfold P_X7_isMore at h
  refine J_aload_n 1 dX7_isMore_0 rfl rfl ?_
  refine J_aload_n 0 dX7_isMore_1 rfl rfl ?_
  obtain ⟨r_1, hf, h⟩ := h
  refine J_getR fl_RX7_18 dX7_isMore_2 hf ?_
  refine J_iload_n 2 dX7_isMore_5 rfl rfl ?_
  obtain ⟨hi, h⟩ := h
  refine J_iald dX7_isMore_6 hi ?_
  refine J_aload_n 0 dX7_isMore_7 rfl rfl ?_
  obtain ⟨r_2, hf, h⟩ := h
  refine J_getR fl_RX7_9 dX7_isMore_8 hf ?_
  refine J_iload_n 2 dX7_isMore_11 rfl rfl ?_
  obtain ⟨hi, h⟩ := h
  refine J_iald dX7_isMore_12 hi ?_
  obtain ⟨ho, h⟩ := h
  refine J_cvi (As := [_, _]) md_X2_weigh k_570 (rc_obj cl_2 ho) rfl rfl ⟨Nat.le_of_ble_eq_true rfl, Nat.le_of_ble_eq_true rfl⟩ ⟨Nat.le_of_ble_eq_true rfl, Nat.le_of_ble_eq_true rfl⟩ (Nat.le_of_ble_eq_true rfl) dX7_isMore_13 (ct_X2_weigh  h) (fun z_3 st_4 h => ?_)
  refine J_aload_n 1 dX7_isMore_16 rfl rfl ?_
  refine J_aload_n 0 dX7_isMore_17 rfl rfl ?_
  obtain ⟨r_5, hf, h⟩ := h
  refine J_getR fl_RX7_21 dX7_isMore_18 hf ?_
  refine J_iload_n 2 dX7_isMore_21 rfl rfl ?_
  obtain ⟨hi, h⟩ := h
  refine J_iald dX7_isMore_22 hi ?_
  refine J_aload_n 0 dX7_isMore_23 rfl rfl ?_
  obtain ⟨r_6, hf, h⟩ := h
  refine J_getR fl_RX7_9 dX7_isMore_24 hf ?_
  refine J_iload_n 2 dX7_isMore_27 rfl rfl ?_
  obtain ⟨hi, h⟩ := h
  refine J_iald dX7_isMore_28 hi ?_
  obtain ⟨ho, h⟩ := h
  refine J_cvi (As := [_, _]) md_X2_weigh k_570 (rc_obj cl_2 ho) rfl rfl ⟨Nat.le_of_ble_eq_true rfl, Nat.le_of_ble_eq_true rfl⟩ ⟨Nat.le_of_ble_eq_true rfl, Nat.le_of_ble_eq_true rfl⟩ (Nat.le_of_ble_eq_true rfl) dX7_isMore_29 (ct_X2_weigh  h) (fun z_7 st_8 h => ?_)
  refine J_icmp_le 39 dX7_isMore_32 (by decide) (fun hc => ?_) (fun hc => ?_)
  · have h := h.1 hc
    refine J_iconst 0 dX7_isMore_39 (by decide) ?_
    exact J_lv [0, 1, 2] rfl (K_X7_isMore_40   a0 a1 a2  0 st_8 h)
  · have h := h.2 hc
    refine J_iconst 1 dX7_isMore_35 (by decide) ?_
    refine J_goto 40 dX7_isMore_36 (by decide) ?_
    exact J_lv [0, 1, 2] rfl (K_X7_isMore_40   a0 a1 a2  1 st_8 h)
/-! X7_holdsIn -/
def P_X7_holdsIn_37  (a0 : Nat) (a1 : Nat) (a2 : Int32) (k2 : Int32 → St → Prop) (post : Int32 → St → Prop) (x3 : Int32) (st : St) : Prop := k2 (x3 + 1) st
def P_X7_holdsIn_2  (a0 : Nat) (a1 : Nat) (a2 : Int32)  (post : Int32 → St → Prop) : Nat → Int32 → St → Prop
  | 0, _, _ => False
  | n9 + 1, x3, st => fk a0 7 5 = some 0 ∧ (((gI st a0 5) ≤ x3 → post 1 st) ∧ (¬ (gI st a0 5) ≤ x3 → ∃ r_1, rv st a0 7 1 = some r_1 ∧ vp_in x3 (al 0 r_1) ∧ ((¬ (gA st r_1 (x3 : Int32).toNatClampNeg) = a2 → P_X7_holdsIn_37  a0 a1 a2 (fun x3 st => P_X7_holdsIn_2  a0 a1 a2  post n9 x3 st) post x3 st) ∧ ((gA st r_1 (x3 : Int32).toNatClampNeg) = a2 → ∃ r_2, rv st a0 7 4 = some r_2 ∧ vp_in x3 (al 1 r_2) ∧ oC a0 7 ∧ P_X7_isMore  a0 a1 x3 st (fun z_3 st_4 => (((gA st r_2 (x3 : Int32).toNatClampNeg) = z_3 → P_X7_holdsIn_37  a0 a1 a2 (fun x3 st => P_X7_holdsIn_2  a0 a1 a2  post n9 x3 st) post x3 st_4) ∧ (¬ (gA st r_2 (x3 : Int32).toNatClampNeg) = z_3 → post 0 st_4)))))))
def P_X7_holdsIn  (a0 : Nat) (a1 : Nat) (a2 : Int32) (st : St) (post : Int32 → St → Prop) : Prop := ∃ n8, P_X7_holdsIn_2  a0 a1 a2  post n8 0 st
set_option maxRecDepth 100000 in
set_option maxHeartbeats 4000000 in
theorem K_X7_holdsIn_37 {l : Launch} {E : En}   (a0 : Nat) (a1 : Nat) (a2 : Int32) {k2 : Int32 → St → Prop} {post : Int32 → St → Prop}  (hk2 : ∀ (x3 : Int32) (st : St), k2 x3 st → Jg l E (CFc E) (Rm 5 0 0) cX7_holdsIn 4 RX7 (some .boolean) (fun _ => True) (QI E post 0 0) 0 0 2 [(0, .ref a0), (1, .ref a1), (2, .int a2), (3, .int x3)] [] st) (x3 : Int32) (st : St) (h : P_X7_holdsIn_37  a0 a1 a2 k2 post x3 st) : Jg l E (CFc E) (Rm 5 0 0) cX7_holdsIn 4 RX7 (some .boolean) (fun _ => True) (QI E post 0 0) 0 0 37 [(0, .ref a0), (1, .ref a1), (2, .int a2), (3, .int x3)] [] st := by
  unfold P_X7_holdsIn_37 at h
  refine J_iinc 3 (x3 + 1) _ dX7_holdsIn_37 rfl (by rfl) (by decide) rfl ?_
  refine J_goto 2 dX7_holdsIn_40 (by decide) ?_
  exact J_lv [1, 2, 3, 0] rfl (hk2 (x3 + 1) st h)
set_option maxRecDepth 100000 in
set_option maxHeartbeats 4000000 in
theorem K_X7_holdsIn_2 {l : Launch} {E : En}   (a0 : Nat) (a1 : Nat) (a2 : Int32)  {post : Int32 → St → Prop}   : ∀ (n9 : Nat) (x3 : Int32) (st : St), P_X7_holdsIn_2  a0 a1 a2  post n9 x3 st → Jg l E (CFc E) (Rm 5 0 0) cX7_holdsIn 4 RX7 (some .boolean) (fun _ => True) (QI E post 0 0) 0 0 2 [(0, .ref a0), (1, .ref a1), (2, .int a2), (3, .int x3)] [] st := by
  intro n9
  induction n9 with
  | zero => intro x3 st h; exact h.elim
  | succ n9 ih =>
    intro x3 st h
    unfold P_X7_holdsIn_2 at h
    refine J_iload_n 3 dX7_holdsIn_2 rfl rfl ?_
    refine J_aload_n 0 dX7_holdsIn_3 rfl rfl ?_
    obtain ⟨hf, h⟩ := h
    refine J_getI fl_RX7_28 dX7_holdsIn_4 hf ?_
    refine J_icmp_ge 43 dX7_holdsIn_7 (by decide) (fun hc => ?_) (fun hc => ?_)
    · have h := h.1 hc
      refine J_iconst 1 dX7_holdsIn_43 (by decide) ?_
      exact J_retz rfl (Or.inr rfl) dX7_holdsIn_44 h
    · have h := h.2 hc
      refine J_aload_n 0 dX7_holdsIn_10 rfl rfl ?_
      obtain ⟨r_1, hf, h⟩ := h
      refine J_getR fl_RX7_15 dX7_holdsIn_11 hf ?_
      refine J_iload_n 3 dX7_holdsIn_14 rfl rfl ?_
      obtain ⟨hi, h⟩ := h
      refine J_iald dX7_holdsIn_15 hi ?_
      refine J_iload_n 2 dX7_holdsIn_16 rfl rfl ?_
      refine J_icmp_ne 37 dX7_holdsIn_17 (by decide) (fun hc => ?_) (fun hc => ?_)
      · have h := h.1 hc
        exact J_lv [0, 1, 2, 3] rfl (K_X7_holdsIn_37   a0 a1 a2 (fun x3 st h => ih x3 st h) x3 st h)
      · have h := h.2 hc
        refine J_aload_n 0 dX7_holdsIn_20 rfl rfl ?_
        obtain ⟨r_2, hf, h⟩ := h
        refine J_getR fl_RX7_24 dX7_holdsIn_21 hf ?_
        refine J_iload_n 3 dX7_holdsIn_24 rfl rfl ?_
        obtain ⟨hi, h⟩ := h
        refine J_zald dX7_holdsIn_25 hi ?_
        refine J_aload_n 0 dX7_holdsIn_26 rfl rfl ?_
        refine J_aload_n 1 dX7_holdsIn_27 rfl rfl ?_
        refine J_iload_n 3 dX7_holdsIn_28 rfl rfl ?_
        obtain ⟨ho, h⟩ := h
        refine J_cvi (As := [_, _]) md_X7_isMore k_572 (rc_obj cl_7 ho) rfl rfl ⟨Nat.le_of_ble_eq_true rfl, Nat.le_of_ble_eq_true rfl⟩ ⟨Nat.le_of_ble_eq_true rfl, Nat.le_of_ble_eq_true rfl⟩ (Nat.le_of_ble_eq_true rfl) dX7_holdsIn_29 (ct_X7_isMore  h) (fun z_3 st_4 h => ?_)
        refine J_icmp_eq 37 dX7_holdsIn_32 (by decide) (fun hc => ?_) (fun hc => ?_)
        · have h := h.1 hc
          exact J_lv [0, 1, 2, 3] rfl (K_X7_holdsIn_37   a0 a1 a2 (fun x3 st h => ih x3 st h) x3 st_4 h)
        · have h := h.2 hc
          refine J_iconst 0 dX7_holdsIn_35 (by decide) ?_
          exact J_retz rfl (Or.inl rfl) dX7_holdsIn_36 h
set_option maxRecDepth 100000 in
set_option maxHeartbeats 4000000 in
theorem ct_X7_holdsIn {l : Launch} {E : En}  {a0 : Nat} {a1 : Nat} {a2 : Int32} {st : St} {post : Int32 → St → Prop} (h : P_X7_holdsIn  a0 a1 a2 st post) : CtI l E (CFc E) 5 0 0 yX7_holdsIn cX7_holdsIn 4 (some .boolean) [.ref a0, .ref a1, .int a2] st post := by
  refine ctI_of (by decide) (Nat.le_of_ble_eq_true rfl) ?_
  show Jg l E (CFc E) (Rm 5 0 0) cX7_holdsIn 4 RX7 (some .boolean) (fun _ => True) (QI E post 0 0) 0 0 0 [(0, .ref a0), (1, .ref a1), (2, .int a2)] [] st
  unfold P_X7_holdsIn at h
  refine J_iconst 0 dX7_holdsIn_0 (by decide) ?_
  refine J_istore_n _ dX7_holdsIn_1 rfl (by decide) rfl ?_
  obtain ⟨n8, h⟩ := h
  exact J_lv [1, 2, 3, 0] rfl (K_X7_holdsIn_2   a0 a1 a2  n8 0 st h)
