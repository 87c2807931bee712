/-! X4_place -/
def P_X4_place  (a0 : Nat) (st : St) (post : Int32 → St → Prop) : Prop := ∃ r_1, rv st a0 4 0 = some r_1 ∧ fk r_1 8 4 = some 0 ∧ post (gI st r_1 4) st
set_option maxRecDepth 100000 in
set_option maxHeartbeats 4000000 in
theorem ct_X4_place {l : Launch} {E : En}  {a0 : Nat} {st : St} {post : Int32 → St → Prop} (h : P_X4_place  a0 st post) : CtI l E (CFc E) 1 0 0 yX4_place cX4_place 1 (some .int) [.ref a0] st post := by
  refine ctI_of (by decide) (Nat.le_of_ble_eq_true rfl) ?_
  show Jg l E (CFc E) (Rm 1 0 0) cX4_place 1 RX4 (some .int) (fun _ => True) (QI E post 0 0) 0 0 0 [(0, .ref a0)] [] st
  unfold P_X4_place at h
  refine J_aload_n 0 dX4_place_0 rfl rfl ?_
  obtain ⟨r_1, hf, h⟩ := h
  refine J_getR fl_RX4_14 dX4_place_1 hf ?_
  obtain ⟨hf, h⟩ := h
  refine J_getI fl_RX4_97 dX4_place_4 hf ?_
  exact J_reti rfl dX4_place_7 h
/-! X4_refuseToken -/
def P_X4_refuseToken  (a0 : Nat) (a1 : Int32) (st : St) (post : Int32 → St → Prop) : Prop := fk a0 4 6 = some 0 ∧ post 0 (sI st a0 6 a1)
set_option maxRecDepth 100000 in
set_option maxHeartbeats 4000000 in
theorem ct_X4_refuseToken {l : Launch} {E : En}  {a0 : Nat} {a1 : Int32} {st : St} {post : Int32 → St → Prop} (h : P_X4_refuseToken  a0 a1 st post) : CtI l E (CFc E) 1 0 0 yX4_refuseToken cX4_refuseToken 2 (some .boolean) [.ref a0, .int a1] st post := by
  refine ctI_of (by decide) (Nat.le_of_ble_eq_true rfl) ?_
  show Jg l E (CFc E) (Rm 1 0 0) cX4_refuseToken 2 RX4 (some .boolean) (fun _ => True) (QI E post 0 0) 0 0 0 [(0, .ref a0), (1, .int a1)] [] st
  unfold P_X4_refuseToken at h
  refine J_aload_n 0 dX4_refuseToken_0 rfl rfl ?_
  refine J_iload_n 1 dX4_refuseToken_1 rfl rfl ?_
  obtain ⟨hf, h⟩ := h
  refine J_putI fp_RX4_39 dX4_refuseToken_2 rfl hf ?_
  refine J_iconst 0 dX4_refuseToken_5 (by decide) ?_
  exact J_retz rfl (Or.inl rfl) dX4_refuseToken_6 h
/-! X4_isNumber -/
def P_X4_isNumber_40  (a0 : Nat)  (post : Int32 → St → Prop) (s0 : Int32) (st : St) : Prop := (s0 = 0 ∨ s0 = 1) ∧ post s0 st
def P_X4_isNumber_35  (a0 : Nat)  (post : Int32 → St → Prop)  (st : St) : Prop := P_X4_isNumber_40  a0  post 1 st
def P_X4_isNumber  (a0 : Nat) (st : St) (post : Int32 → St → Prop) : Prop := ∃ r_1, rv st a0 4 0 = some r_1 ∧ fk r_1 8 3 = some 0 ∧ (((gI st r_1 3) = 2 → ∃ r_2, rv st a0 4 0 = some r_2 ∧ fk r_2 8 6 = some 0 ∧ (((gI st r_2 6) = 0 → P_X4_isNumber_35  a0  post st) ∧ (¬ (gI st r_2 6) = 0 → oC a0 4 ∧ P_X4_refuseToken  a0 2 st (fun z_3 st_4 => ((z_3 = 0 → P_X4_isNumber_40  a0  post 0 st_4) ∧ (¬ z_3 = 0 → P_X4_isNumber_35  a0  post st_4)))))) ∧ (¬ (gI st r_1 3) = 2 → oC a0 4 ∧ P_X4_refuseToken  a0 1 st (fun z_5 st_6 => (z_5 = 0 ∨ z_5 = 1) ∧ post z_5 st_6)))
set_option maxRecDepth 100000 in
set_option maxHeartbeats 4000000 in
theorem K_X4_isNumber_40 {l : Launch} {E : En}   (a0 : Nat)  {post : Int32 → St → Prop}   (s0 : Int32) (st : St) (h : P_X4_isNumber_40  a0  post s0 st) : Jg l E (CFc E) (Rm 2 0 0) cX4_isNumber 1 RX4 (some .boolean) (fun _ => True) (QI E post 0 0) 0 0 40 [(0, .ref a0)] [.int s0] st := by
  unfold P_X4_isNumber_40 at h
  exact J_retz rfl h.1 dX4_isNumber_40 h.2
set_option maxRecDepth 100000 in
set_option maxHeartbeats 4000000 in
theorem K_X4_isNumber_35 {l : Launch} {E : En}   (a0 : Nat)  {post : Int32 → St → Prop}    (st : St) (h : P_X4_isNumber_35  a0  post  st) : Jg l E (CFc E) (Rm 2 0 0) cX4_isNumber 1 RX4 (some .boolean) (fun _ => True) (QI E post 0 0) 0 0 35 [(0, .ref a0)] [] st := by
  unfold P_X4_isNumber_35 at h
  refine J_iconst 1 dX4_isNumber_35 (by decide) ?_
  refine J_goto 40 dX4_isNumber_36 (by decide) ?_
  exact J_lv [0] rfl (K_X4_isNumber_40   a0  1 st h)
set_option maxRecDepth 100000 in
set_option maxHeartbeats 4000000 in
theorem ct_X4_isNumber {l : Launch} {E : En}  {a0 : Nat} {st : St} {post : Int32 → St → Prop} (h : P_X4_isNumber  a0 st post) : CtI l E (CFc E) 2 0 0 yX4_isNumber cX4_isNumber 1 (some .boolean) [.ref a0] st post := by
  refine ctI_of (by decide) (Nat.le_of_ble_eq_true rfl) ?_
  show Jg l E (CFc E) (Rm 2 0 0) cX4_isNumber 1 RX4 (some .boolean) (fun _ => True) (QI E post 0 0) 0 0 0 [(0, .ref a0)] [] st
  unfold P_X4_isNumber at h
  refine J_aload_n 0 dX4_isNumber_0 rfl rfl ?_
  obtain ⟨r_1, hf, h⟩ := h
  refine J_getR fl_RX4_14 dX4_isNumber_1 hf ?_
  obtain ⟨hf, h⟩ := h
  refine J_getI fl_RX4_50 dX4_isNumber_4 hf ?_
  refine J_iconst 2 dX4_isNumber_7 (by decide) ?_
  refine J_icmp_eq 17 dX4_isNumber_8 (by decide) (fun hc => ?_) (fun hc => ?_)
  · have h := h.1 hc
    refine J_aload_n 0 dX4_isNumber_17 rfl rfl ?_
    obtain ⟨r_2, hf, h⟩ := h
    refine J_getR fl_RX4_14 dX4_isNumber_18 hf ?_
    obtain ⟨hf, h⟩ := h
    refine J_getI fl_RX4_164 dX4_isNumber_21 hf ?_
    refine J_if_eq 35 dX4_isNumber_24 (by decide) (fun hc => ?_) (fun hc => ?_)
    · have h := h.1 hc
      exact J_lv [0] rfl (K_X4_isNumber_35   a0  st h)
    · have h := h.2 hc
      refine J_aload_n 0 dX4_isNumber_27 rfl rfl ?_
      refine J_iconst 2 dX4_isNumber_28 (by decide) ?_
      obtain ⟨ho, h⟩ := h
      refine J_cvi (As := [_]) md_X4_refuseToken k_392 (rc_obj cl_4 ho) rfl rfl ⟨Nat.le_of_ble_eq_true rfl, Nat.le_of_ble_eq_true rfl⟩ ⟨Nat.le_of_ble_eq_true rfl, Nat.le_of_ble_eq_true rfl⟩ (Nat.le_of_ble_eq_true rfl) dX4_isNumber_29 (ct_X4_refuseToken  h) (fun z_3 st_4 h => ?_)
      refine J_if_eq 39 dX4_isNumber_32 (by decide) (fun hc => ?_) (fun hc => ?_)
      · have h := h.1 hc
        refine J_iconst 0 dX4_isNumber_39 (by decide) ?_
        exact J_lv [0] rfl (K_X4_isNumber_40   a0  0 st_4 h)
      · have h := h.2 hc
        exact J_lv [0] rfl (K_X4_isNumber_35   a0  st_4 h)
  · have h := h.2 hc
    refine J_aload_n 0 dX4_isNumber_11 rfl rfl ?_
    refine J_iconst 1 dX4_isNumber_12 (by decide) ?_
    obtain ⟨ho, h⟩ := h
    refine J_cvi (As := [_]) md_X4_refuseToken k_392 (rc_obj cl_4 ho) rfl rfl ⟨Nat.le_of_ble_eq_true rfl, Nat.le_of_ble_eq_true rfl⟩ ⟨Nat.le_of_ble_eq_true rfl, Nat.le_of_ble_eq_true rfl⟩ (Nat.le_of_ble_eq_true rfl) dX4_isNumber_13 (ct_X4_refuseToken  h) (fun z_5 st_6 h => ?_)
    exact J_retz rfl h.1 dX4_isNumber_16 h.2
/-! X4_isKnown -/
def P_X4_isKnown_31  (a0 : Nat) (a1 : Int32)  (post : Int32 → St → Prop) (s0 : Int32) (st : St) : Prop := (s0 = 0 ∨ s0 = 1) ∧ post s0 st
def P_X4_isKnown_30  (a0 : Nat) (a1 : Int32)  (post : Int32 → St → Prop)  (st : St) : Prop := P_X4_isKnown_31  a0 a1  post 0 st
def P_X4_isKnown_26  (a0 : Nat) (a1 : Int32)  (post : Int32 → St → Prop)  (st : St) : Prop := P_X4_isKnown_31  a0 a1  post 1 st
def P_X4_isKnown  (a0 : Nat) (a1 : Int32) (st : St) (post : Int32 → St → Prop) : Prop := oC a0 4 ∧ P_X4_isNumber  a0 st (fun z_1 st_2 => ((z_1 = 0 → P_X4_isKnown_30  a0 a1  post st_2) ∧ (¬ z_1 = 0 → ∃ r_3, rv st_2 a0 4 0 = some r_3 ∧ fk r_3 8 5 = some 0 ∧ (((gI st_2 r_3 5) < a1 → P_X4_isKnown_26  a0 a1  post st_2) ∧ (¬ (gI st_2 r_3 5) < a1 → oC a0 4 ∧ P_X4_refuseToken  a0 3 st_2 (fun z_4 st_5 => ((z_4 = 0 → P_X4_isKnown_30  a0 a1  post st_5) ∧ (¬ z_4 = 0 → P_X4_isKnown_26  a0 a1  post st_5))))))))
set_option maxRecDepth 100000 in
set_option maxHeartbeats 4000000 in
theorem K_X4_isKnown_31 {l : Launch} {E : En}   (a0 : Nat) (a1 : Int32)  {post : Int32 → St → Prop}   (s0 : Int32) (st : St) (h : P_X4_isKnown_31  a0 a1  post s0 st) : Jg l E (CFc E) (Rm 3 0 0) cX4_isKnown 2 RX4 (some .boolean) (fun _ => True) (QI E post 0 0) 0 0 31 [(0, .ref a0), (1, .int a1)] [.int s0] st := by
  unfold P_X4_isKnown_31 at h
  exact J_retz rfl h.1 dX4_isKnown_31 h.2
set_option maxRecDepth 100000 in
set_option maxHeartbeats 4000000 in
theorem K_X4_isKnown_30 {l : Launch} {E : En}   (a0 : Nat) (a1 : Int32)  {post : Int32 → St → Prop}    (st : St) (h : P_X4_isKnown_30  a0 a1  post  st) : Jg l E (CFc E) (Rm 3 0 0) cX4_isKnown 2 RX4 (some .boolean) (fun _ => True) (QI E post 0 0) 0 0 30 [(0, .ref a0), (1, .int a1)] [] st := by
  unfold P_X4_isKnown_30 at h
  refine J_iconst 0 dX4_isKnown_30 (by decide) ?_
  exact J_lv [0, 1] rfl (K_X4_isKnown_31   a0 a1  0 st h)
set_option maxRecDepth 100000 in
set_option maxHeartbeats 4000000 in
theorem K_X4_isKnown_26 {l : Launch} {E : En}   (a0 : Nat) (a1 : Int32)  {post : Int32 → St → Prop}    (st : St) (h : P_X4_isKnown_26  a0 a1  post  st) : Jg l E (CFc E) (Rm 3 0 0) cX4_isKnown 2 RX4 (some .boolean) (fun _ => True) (QI E post 0 0) 0 0 26 [(0, .ref a0), (1, .int a1)] [] st := by
  unfold P_X4_isKnown_26 at h
  refine J_iconst 1 dX4_isKnown_26 (by decide) ?_
  refine J_goto 31 dX4_isKnown_27 (by decide) ?_
  exact J_lv [0, 1] rfl (K_X4_isKnown_31   a0 a1  1 st h)
set_option maxRecDepth 100000 in
set_option maxHeartbeats 4000000 in
theorem ct_X4_isKnown {l : Launch} {E : En}  {a0 : Nat} {a1 : Int32} {st : St} {post : Int32 → St → Prop} (h : P_X4_isKnown  a0 a1 st post) : CtI l E (CFc E) 3 0 0 yX4_isKnown cX4_isKnown 2 (some .boolean) [.ref a0, .int a1] st post := by
  refine ctI_of (by decide) (Nat.le_of_ble_eq_true rfl) ?_
  show Jg l E (CFc E) (Rm 3 0 0) cX4_isKnown 2 RX4 (some .boolean) (fun _ => True) (QI E post 0 0) 0 0 0 [(0, .ref a0), (1, .int a1)] [] st
  unfold P_X4_isKnown at h
  refine J_aload_n 0 dX4_isKnown_0 rfl rfl ?_
  obtain ⟨ho, h⟩ := h
  refine J_cvi (As := []) md_X4_isNumber k_398 (rc_obj cl_4 ho) rfl rfl ⟨Nat.le_of_ble_eq_true rfl, Nat.le_of_ble_eq_true rfl⟩ ⟨Nat.le_of_ble_eq_true rfl, Nat.le_of_ble_eq_true rfl⟩ (Nat.le_of_ble_eq_true rfl) dX4_isKnown_1 (ct_X4_isNumber  h) (fun z_1 st_2 h => ?_)
  refine J_if_eq 30 dX4_isKnown_4 (by decide) (fun hc => ?_) (fun hc => ?_)
  · have h := h.1 hc
    exact J_lv [0, 1] rfl (K_X4_isKnown_30   a0 a1  st_2 h)
  · have h := h.2 hc
    refine J_aload_n 0 dX4_isKnown_7 rfl rfl ?_
    obtain ⟨r_3, hf, h⟩ := h
    refine J_getR fl_RX4_14 dX4_isKnown_8 hf ?_
    obtain ⟨hf, h⟩ := h
    refine J_getI fl_RX4_143 dX4_isKnown_11 hf ?_
    refine J_iload_n 1 dX4_isKnown_14 rfl rfl ?_
    refine J_icmp_lt 26 dX4_isKnown_15 (by decide) (fun hc => ?_) (fun hc => ?_)
    · have h := h.1 hc
      exact J_lv [0, 1] rfl (K_X4_isKnown_26   a0 a1  st_2 h)
    · have h := h.2 hc
      refine J_aload_n 0 dX4_isKnown_18 rfl rfl ?_
      refine J_iconst 3 dX4_isKnown_19 (by decide) ?_
      obtain ⟨ho, h⟩ := h
      refine J_cvi (As := [_]) md_X4_refuseToken k_392 (rc_obj cl_4 ho) rfl rfl ⟨Nat.le_of_ble_eq_true rfl, Nat.le_of_ble_eq_true rfl⟩ ⟨Nat.le_of_ble_eq_true rfl, Nat.le_of_ble_eq_true rfl⟩ (Nat.le_of_ble_eq_true rfl) dX4_isKnown_20 (ct_X4_refuseToken  h) (fun z_4 st_5 h => ?_)
      refine J_if_eq 30 dX4_isKnown_23 (by decide) (fun hc => ?_) (fun hc => ?_)
      · have h := h.1 hc
        exact J_lv [0, 1] rfl (K_X4_isKnown_30   a0 a1  st_5 h)
      · have h := h.2 hc
        exact J_lv [0, 1] rfl (K_X4_isKnown_26   a0 a1  st_5 h)
/-! X4_startsExpression -/
def P_X4_startsExpression_39  (a0 : Nat)  (post : Int32 → St → Prop) (s0 : Int32) (st : St) : Prop := (s0 = 0 ∨ s0 = 1) ∧ post s0 st
def P_X4_startsExpression_34  (a0 : Nat)  (post : Int32 → St → Prop)  (st : St) : Prop := P_X4_startsExpression_39  a0  post 1 st
def P_X4_startsExpression  (a0 : Nat) (st : St) (post : Int32 → St → Prop) : Prop := ∃ r_1, rv st a0 4 0 = some r_1 ∧ fk r_1 8 3 = some 0 ∧ (((gI st r_1 3) = 2 → P_X4_startsExpression_34  a0  post st) ∧ (¬ (gI st r_1 3) = 2 → ∃ r_2, rv st a0 4 0 = some r_2 ∧ fk r_2 8 3 = some 0 ∧ (((gI st r_2 3) = 1 → P_X4_startsExpression_34  a0  post st) ∧ (¬ (gI st r_2 3) = 1 → ∃ r_3, rv st a0 4 0 = some r_3 ∧ fk r_3 8 8 = some 0 ∧ ((¬ (gI st r_3 8) = 40 → P_X4_startsExpression_39  a0  post 0 st) ∧ ((gI st r_3 8) = 40 → P_X4_startsExpression_34  a0  post st))))))
set_option maxRecDepth 100000 in
set_option maxHeartbeats 4000000 in
theorem K_X4_startsExpression_39 {l : Launch} {E : En}   (a0 : Nat)  {post : Int32 → St → Prop}   (s0 : Int32) (st : St) (h : P_X4_startsExpression_39  a0  post s0 st) : Jg l E (CFc E) (Rm 1 0 0) cX4_startsExpression 1 RX4 (some .boolean) (fun _ => True) (QI E post 0 0) 0 0 39 [(0, .ref a0)] [.int s0] st := by
  unfold P_X4_startsExpression_39 at h
  exact J_retz rfl h.1 dX4_startsExpression_39 h.2
set_option maxRecDepth 100000 in
set_option maxHeartbeats 4000000 in
theorem K_X4_startsExpression_34 {l : Launch} {E : En}   (a0 : Nat)  {post : Int32 → St → Prop}    (st : St) (h : P_X4_startsExpression_34  a0  post  st) : Jg l E (CFc E) (Rm 1 0 0) cX4_startsExpression 1 RX4 (some .boolean) (fun _ => True) (QI E post 0 0) 0 0 34 [(0, .ref a0)] [] st := by
  unfold P_X4_startsExpression_34 at h
  refine J_iconst 1 dX4_startsExpression_34 (by decide) ?_
  refine J_goto 39 dX4_startsExpression_35 (by decide) ?_
  exact J_lv [0] rfl (K_X4_startsExpression_39   a0  1 st h)
set_option maxRecDepth 100000 in
set_option maxHeartbeats 4000000 in
theorem ct_X4_startsExpression {l : Launch} {E : En}  {a0 : Nat} {st : St} {post : Int32 → St → Prop} (h : P_X4_startsExpression  a0 st post) : CtI l E (CFc E) 1 0 0 yX4_startsExpression cX4_startsExpression 1 (some .boolean) [.ref a0] st post := by
  refine ctI_of (by decide) (Nat.le_of_ble_eq_true rfl) ?_
  show Jg l E (CFc E) (Rm 1 0 0) cX4_startsExpression 1 RX4 (some .boolean) (fun _ => True) (QI E post 0 0) 0 0 0 [(0, .ref a0)] [] st
  unfold P_X4_startsExpression at h
  refine J_aload_n 0 dX4_startsExpression_0 rfl rfl ?_
  obtain ⟨r_1, hf, h⟩ := h
  refine J_getR fl_RX4_14 dX4_startsExpression_1 hf ?_
  obtain ⟨hf, h⟩ := h
  refine J_getI fl_RX4_50 dX4_startsExpression_4 hf ?_
  refine J_iconst 2 dX4_startsExpression_7 (by decide) ?_
  refine J_icmp_eq 34 dX4_startsExpression_8 (by decide) (fun hc => ?_) (fun hc => ?_)
  · have h := h.1 hc
    exact J_lv [0] rfl (K_X4_startsExpression_34   a0  st h)
  · have h := h.2 hc
    refine J_aload_n 0 dX4_startsExpression_11 rfl rfl ?_
    obtain ⟨r_2, hf, h⟩ := h
    refine J_getR fl_RX4_14 dX4_startsExpression_12 hf ?_
    obtain ⟨hf, h⟩ := h
    refine J_getI fl_RX4_50 dX4_startsExpression_15 hf ?_
    refine J_iconst 1 dX4_startsExpression_18 (by decide) ?_
    refine J_icmp_eq 34 dX4_startsExpression_19 (by decide) (fun hc => ?_) (fun hc => ?_)
    · have h := h.1 hc
      exact J_lv [0] rfl (K_X4_startsExpression_34   a0  st h)
    · have h := h.2 hc
      refine J_aload_n 0 dX4_startsExpression_22 rfl rfl ?_
      obtain ⟨r_3, hf, h⟩ := h
      refine J_getR fl_RX4_14 dX4_startsExpression_23 hf ?_
      obtain ⟨hf, h⟩ := h
      refine J_getI fl_RX4_170 dX4_startsExpression_26 hf ?_
      refine J_bipush 40 dX4_startsExpression_29 (by decide) ?_
      refine J_icmp_ne 38 dX4_startsExpression_31 (by decide) (fun hc => ?_) (fun hc => ?_)
      · have h := h.1 hc
        refine J_iconst 0 dX4_startsExpression_38 (by decide) ?_
        exact J_lv [0] rfl (K_X4_startsExpression_39   a0  0 st h)
      · have h := h.2 hc
        exact J_lv [0] rfl (K_X4_startsExpression_34   a0  st h)
/-! X4_isValue -/
def P_X4_isValue_28  (a0 : Nat) (a1 : Option Nat)  (post : Int32 → St → Prop) (s0 : Int32) (st : St) : Prop := (s0 = 0 ∨ s0 = 1) ∧ post s0 st
def P_X4_isValue_27  (a0 : Nat) (a1 : Option Nat)  (post : Int32 → St → Prop)  (st : St) : Prop := P_X4_isValue_28  a0 a1  post 0 st
def P_X4_isValue  (a0 : Nat) (a1 : Option Nat) (st : St) (post : Int32 → St → Prop) : Prop := ((a1 = none → P_X4_isValue_27  a0 a1  post st) ∧ (∀ i9 : Nat, a1 = some i9 → ∃ i_2, a1 = some i_2 ∧ enOk i_2 ∧ (((vaL.getD (i_2 - 1000) 0) = (-1) → P_X4_isValue_27  a0 a1  post st) ∧ (¬ (vaL.getD (i_2 - 1000) 0) = (-1) → ∃ i_3, a1 = some i_3 ∧ enOk i_3 ∧ fk a0 4 3 = some 0 ∧ (((gI st a0 3) ≤ (vaL.getD (i_3 - 1000) 0) → P_X4_isValue_27  a0 a1  post st) ∧ (¬ (gI st a0 3) ≤ (vaL.getD (i_3 - 1000) 0) → P_X4_isValue_28  a0 a1  post 1 st))))))
set_option maxRecDepth 100000 in
set_option maxHeartbeats 4000000 in
theorem K_X4_isValue_28 {l : Launch} {E : En}   (a0 : Nat) (a1 : Option Nat)  {post : Int32 → St → Prop}   (s0 : Int32) (st : St) (h : P_X4_isValue_28  a0 a1  post s0 st) : Jg l E (CFc E) (Rm 1 0 0) cX4_isValue 2 RX4 (some .boolean) (fun _ => True) (QI E post 0 0) 0 0 28 [(0, .ref a0), (1, va_rf a1)] [.int s0] st := by
  unfold P_X4_isValue_28 at h
  exact J_retz rfl h.1 dX4_isValue_28 h.2
set_option maxRecDepth 100000 in
set_option maxHeartbeats 4000000 in
theorem K_X4_isValue_27 {l : Launch} {E : En}   (a0 : Nat) (a1 : Option Nat)  {post : Int32 → St → Prop}    (st : St) (h : P_X4_isValue_27  a0 a1  post  st) : Jg l E (CFc E) (Rm 1 0 0) cX4_isValue 2 RX4 (some .boolean) (fun _ => True) (QI E post 0 0) 0 0 27 [(0, .ref a0), (1, va_rf a1)] [] st := by
  unfold P_X4_isValue_27 at h
  refine J_iconst 0 dX4_isValue_27 (by decide) ?_
  exact J_lv [0, 1] rfl (K_X4_isValue_28   a0 a1  0 st h)
set_option maxRecDepth 100000 in
set_option maxHeartbeats 4000000 in
theorem ct_X4_isValue {l : Launch} {E : En}  {a0 : Nat} {a1 : Option Nat} {st : St} {post : Int32 → St → Prop} (h : P_X4_isValue  a0 a1 st post) : CtI l E (CFc E) 1 0 0 yX4_isValue cX4_isValue 2 (some .boolean) [.ref a0, va_rf a1] st post := by
  refine ctI_of (by decide) (by cases a1 <;> exact Nat.le_of_ble_eq_true rfl) ?_
  show Jg l E (CFc E) (Rm 1 0 0) cX4_isValue 2 RX4 (some .boolean) (fun _ => True) (QI E post 0 0) 0 0 0 [(0, .ref a0), (1, va_rf a1)] [] st
  unfold P_X4_isValue at h
  refine J_aload_nQ 1 dX4_isValue_0 rfl rfl ?_
  refine J_ifnull 27 dX4_isValue_1 (by decide) (fun hc => ?_) (fun i9 hc => ?_)
  · have h := h.1 hc
    exact J_lv [0, 1] rfl (K_X4_isValue_27   a0 a1  st h)
  · have h := h.2 i9 hc
    refine J_aload_nQ 1 dX4_isValue_4 rfl rfl ?_
    obtain ⟨i_2, hx, h⟩ := h
    refine J_some hx ?_
    obtain ⟨hf, h⟩ := h
    refine J_enV k_441 dX4_isValue_5 hf ?_
    refine J_iconst (-1) dX4_isValue_8 (by decide) ?_
    refine J_icmp_eq 27 dX4_isValue_9 (by decide) (fun hc => ?_) (fun hc => ?_)
    · have h := h.1 hc
      exact J_lv [0, 1] rfl (K_X4_isValue_27   a0 a1  st h)
    · have h := h.2 hc
      refine J_aload_nQ 1 dX4_isValue_12 rfl rfl ?_
      obtain ⟨i_3, hx, h⟩ := h
      refine J_some hx ?_
      obtain ⟨hf, h⟩ := h
      refine J_enV k_441 dX4_isValue_13 hf ?_
      refine J_aload_n 0 dX4_isValue_16 rfl rfl ?_
      obtain ⟨hf, h⟩ := h
      refine J_getI fl_RX4_158 dX4_isValue_17 hf ?_
      refine J_icmp_ge 27 dX4_isValue_20 (by decide) (fun hc => ?_) (fun hc => ?_)
      · have h := h.1 hc
        exact J_lv [0, 1] rfl (K_X4_isValue_27   a0 a1  st h)
      · have h := h.2 hc
        refine J_iconst 1 dX4_isValue_23 (by decide) ?_
        refine J_goto 28 dX4_isValue_24 (by decide) ?_
        exact J_lv [0, 1] rfl (K_X4_isValue_28   a0 a1  1 st h)
/-! X8_isLetter -/
def P_X8_isLetter_17  (a0 : Int32)  (post : Int32 → St → Prop) (s0 : Int32) (st : St) : Prop := (s0 = 0 ∨ s0 = 1) ∧ post s0 st
def P_X8_isLetter_16  (a0 : Int32)  (post : Int32 → St → Prop)  (st : St) : Prop := P_X8_isLetter_17  a0  post 0 st
def P_X8_isLetter  (a0 : Int32) (st : St) (post : Int32 → St → Prop) : Prop := ((a0 < 97 → P_X8_isLetter_16  a0  post st) ∧ (¬ a0 < 97 → ((122 < a0 → P_X8_isLetter_16  a0  post st) ∧ (¬ 122 < a0 → P_X8_isLetter_17  a0  post 1 st))))
set_option maxRecDepth 100000 in
set_option maxHeartbeats 4000000 in
theorem K_X8_isLetter_17 {l : Launch} {E : En}   (a0 : Int32)  {post : Int32 → St → Prop}   (s0 : Int32) (st : St) (h : P_X8_isLetter_17  a0  post s0 st) : Jg l E (CFc E) (Rm 1 0 0) cX8_isLetter 1 RX8 (some .boolean) (fun _ => True) (QI E post 0 0) 0 0 17 [(0, .int a0)] [.int s0] st := by
  unfold P_X8_isLetter_17 at h
  exact J_retz rfl h.1 dX8_isLetter_17 h.2
set_option maxRecDepth 100000 in
set_option maxHeartbeats 4000000 in
theorem K_X8_isLetter_16 {l : Launch} {E : En}   (a0 : Int32)  {post : Int32 → St → Prop}    (st : St) (h : P_X8_isLetter_16  a0  post  st) : Jg l E (CFc E) (Rm 1 0 0) cX8_isLetter 1 RX8 (some .boolean) (fun _ => True) (QI E post 0 0) 0 0 16 [(0, .int a0)] [] st := by
  unfold P_X8_isLetter_16 at h
  refine J_iconst 0 dX8_isLetter_16 (by decide) ?_
  exact J_lv [0] rfl (K_X8_isLetter_17   a0  0 st h)
set_option maxRecDepth 100000 in
set_option maxHeartbeats 4000000 in
theorem ct_X8_isLetter {l : Launch} {E : En}  {a0 : Int32} {st : St} {post : Int32 → St → Prop} (h : P_X8_isLetter  a0 st post) : CtI l E (CFc E) 1 0 0 yX8_isLetter cX8_isLetter 1 (some .boolean) [.int a0] st post := by
  refine ctI_of (by decide) (Nat.le_of_ble_eq_true rfl) ?_
  show Jg l E (CFc E) (Rm 1 0 0) cX8_isLetter 1 RX8 (some .boolean) (fun _ => True) (QI E post 0 0) 0 0 0 [(0, .int a0)] [] st
  unfold P_X8_isLetter at h
  refine J_iload_n 0 dX8_isLetter_0 rfl rfl ?_
  refine J_bipush 97 dX8_isLetter_1 (by decide) ?_
  refine J_icmp_lt 16 dX8_isLetter_3 (by decide) (fun hc => ?_) (fun hc => ?_)
  · have h := h.1 hc
    exact J_lv [0] rfl (K_X8_isLetter_16   a0  st h)
  · have h := h.2 hc
    refine J_iload_n 0 dX8_isLetter_6 rfl rfl ?_
    refine J_bipush 122 dX8_isLetter_7 (by decide) ?_
    refine J_icmp_gt 16 dX8_isLetter_9 (by decide) (fun hc => ?_) (fun hc => ?_)
    · have h := h.1 hc
      exact J_lv [0] rfl (K_X8_isLetter_16   a0  st h)
    · have h := h.2 hc
      refine J_iconst 1 dX8_isLetter_12 (by decide) ?_
      refine J_goto 17 dX8_isLetter_13 (by decide) ?_
      exact J_lv [0] rfl (K_X8_isLetter_17   a0  1 st h)
/-! X8_isDigit -/
def P_X8_isDigit_17  (a0 : Int32)  (post : Int32 → St → Prop) (s0 : Int32) (st : St) : Prop := (s0 = 0 ∨ s0 = 1) ∧ post s0 st
def P_X8_isDigit_16  (a0 : Int32)  (post : Int32 → St → Prop)  (st : St) : Prop := P_X8_isDigit_17  a0  post 0 st
def P_X8_isDigit  (a0 : Int32) (st : St) (post : Int32 → St → Prop) : Prop := ((a0 < 48 → P_X8_isDigit_16  a0  post st) ∧ (¬ a0 < 48 → ((57 < a0 → P_X8_isDigit_16  a0  post st) ∧ (¬ 57 < a0 → P_X8_isDigit_17  a0  post 1 st))))
set_option maxRecDepth 100000 in
set_option maxHeartbeats 4000000 in
theorem K_X8_isDigit_17 {l : Launch} {E : En}   (a0 : Int32)  {post : Int32 → St → Prop}   (s0 : Int32) (st : St) (h : P_X8_isDigit_17  a0  post s0 st) : Jg l E (CFc E) (Rm 1 0 0) cX8_isDigit 1 RX8 (some .boolean) (fun _ => True) (QI E post 0 0) 0 0 17 [(0, .int a0)] [.int s0] st := by
  unfold P_X8_isDigit_17 at h
  exact J_retz rfl h.1 dX8_isDigit_17 h.2
set_option maxRecDepth 100000 in
set_option maxHeartbeats 4000000 in
theorem K_X8_isDigit_16 {l : Launch} {E : En}   (a0 : Int32)  {post : Int32 → St → Prop}    (st : St) (h : P_X8_isDigit_16  a0  post  st) : Jg l E (CFc E) (Rm 1 0 0) cX8_isDigit 1 RX8 (some .boolean) (fun _ => True) (QI E post 0 0) 0 0 16 [(0, .int a0)] [] st := by
  unfold P_X8_isDigit_16 at h
  refine J_iconst 0 dX8_isDigit_16 (by decide) ?_
  exact J_lv [0] rfl (K_X8_isDigit_17   a0  0 st h)
set_option maxRecDepth 100000 in
set_option maxHeartbeats 4000000 in
theorem ct_X8_isDigit {l : Launch} {E : En}  {a0 : Int32} {st : St} {post : Int32 → St → Prop} (h : P_X8_isDigit  a0 st post) : CtI l E (CFc E) 1 0 0 yX8_isDigit cX8_isDigit 1 (some .boolean) [.int a0] st post := by
  refine ctI_of (by decide) (Nat.le_of_ble_eq_true rfl) ?_
  show Jg l E (CFc E) (Rm 1 0 0) cX8_isDigit 1 RX8 (some .boolean) (fun _ => True) (QI E post 0 0) 0 0 0 [(0, .int a0)] [] st
  unfold P_X8_isDigit at h
  refine J_iload_n 0 dX8_isDigit_0 rfl rfl ?_
  refine J_bipush 48 dX8_isDigit_1 (by decide) ?_
  refine J_icmp_lt 16 dX8_isDigit_3 (by decide) (fun hc => ?_) (fun hc => ?_)
  · have h := h.1 hc
    exact J_lv [0] rfl (K_X8_isDigit_16   a0  st h)
  · have h := h.2 hc
    refine J_iload_n 0 dX8_isDigit_6 rfl rfl ?_
    refine J_bipush 57 dX8_isDigit_7 (by decide) ?_
    refine J_icmp_gt 16 dX8_isDigit_9 (by decide) (fun hc => ?_) (fun hc => ?_)
    · have h := h.1 hc
      exact J_lv [0] rfl (K_X8_isDigit_16   a0  st h)
    · have h := h.2 hc
      refine J_iconst 1 dX8_isDigit_12 (by decide) ?_
      refine J_goto 17 dX8_isDigit_13 (by decide) ?_
      exact J_lv [0] rfl (K_X8_isDigit_17   a0  1 st h)
/-! X8_takeNumber -/
def P_X8_takeNumber_113  (a0 : Nat)  (post : St → Prop)  (st : St) : Prop := post st
def P_X8_takeNumber_71  (a0 : Nat)  (post : St → Prop) : Nat → Int32 → St → Prop
  | 0, _, _ => False
  | n9 + 1, x1, st => fk a0 8 2 = some 0 ∧ (((gI st a0 2) ≤ x1 → P_X8_takeNumber_113  a0  post st) ∧ (¬ (gI st a0 2) ≤ x1 → fk a0 8 6 = some 0 ∧ ((¬ (gI st a0 6) = 0 → P_X8_takeNumber_113  a0  post st) ∧ ((gI st a0 6) = 0 → fk a0 8 5 = some 0 ∧ ∃ r_1, rv st a0 8 0 = some r_1 ∧ vp_in x1 (al 0 r_1) ∧ fk a0 8 5 = some 0 ∧ P_X8_takeNumber_71  a0  post n9 (x1 + 1) (sI st a0 5 ((((gI st a0 5) * 10) + (gA st r_1 (x1 : Int32).toNatClampNeg)) - 48))))))
def P_X8_takeNumber_63  (a0 : Nat)  (post : St → Prop) (s0 : Int32) (s1 : Nat) (st : St) : Prop := (s0 = 0 ∨ s0 = 1) ∧ fk s1 8 6 = some 0 ∧ fk a0 8 4 = some 0 ∧ ∃ n8, P_X8_takeNumber_71  a0  post n8 (gI (sI st s1 6 s0) a0 4) (sI st s1 6 s0)
def P_X8_takeNumber_44  (a0 : Nat)  (post : St → Prop)  (st : St) : Prop := fk a0 8 2 = some 0 ∧ fk a0 8 4 = some 0 ∧ ((((gI st a0 2) - (gI st a0 4)) ≤ 4 → P_X8_takeNumber_63  a0  post 0 a0 st) ∧ (¬ ((gI st a0 2) - (gI st a0 4)) ≤ 4 → P_X8_takeNumber_63  a0  post 1 a0 st))
def P_X8_takeNumber_5  (a0 : Nat)  (post : St → Prop) : Nat → St → Prop
  | 0, _ => False
  | n9 + 1, st => fk a0 8 2 = some 0 ∧ fk a0 8 1 = some 0 ∧ (((gI st a0 1) ≤ (gI st a0 2) → P_X8_takeNumber_44  a0  post st) ∧ (¬ (gI st a0 1) ≤ (gI st a0 2) → ∃ r_1, rv st a0 8 0 = some r_1 ∧ fk a0 8 2 = some 0 ∧ vp_in (gI st a0 2) (al 0 r_1) ∧ P_X8_isDigit  (gA st r_1 (gI st a0 2 : Int32).toNatClampNeg) st (fun z_2 st_3 => ((z_2 = 0 → P_X8_takeNumber_44  a0  post st_3) ∧ (¬ z_2 = 0 → fk a0 8 2 = some 0 ∧ fk a0 8 2 = some 0 ∧ P_X8_takeNumber_5  a0  post n9 (sI st_3 a0 2 ((gI st_3 a0 2) + 1)))))))
def P_X8_takeNumber  (a0 : Nat) (st : St) (post : St → Prop) : Prop := fk a0 8 3 = some 0 ∧ ∃ n8, P_X8_takeNumber_5  a0  post n8 (sI st a0 3 2)
set_option maxRecDepth 100000 in
set_option maxHeartbeats 4000000 in
theorem K_X8_takeNumber_113 {l : Launch} {E : En}   (a0 : Nat)  {post : St → Prop}    (st : St) (h : P_X8_takeNumber_113  a0  post  st) : Jg l E (CFc E) (Rm 2 0 0) cX8_takeNumber 2 RX8 none (fun _ => True) (QV E post 0 0) 0 0 113 [(0, .ref a0)] [] st := by
  unfold P_X8_takeNumber_113 at h
  exact J_retv rfl dX8_takeNumber_113 h
set_option maxRecDepth 100000 in
set_option maxHeartbeats 4000000 in
theorem K_X8_takeNumber_71 {l : Launch} {E : En}   (a0 : Nat)  {post : St → Prop}   : ∀ (n9 : Nat) (x1 : Int32) (st : St), P_X8_takeNumber_71  a0  post n9 x1 st → Jg l E (CFc E) (Rm 2 0 0) cX8_takeNumber 2 RX8 none (fun _ => True) (QV E post 0 0) 0 0 71 [(0, .ref a0), (1, .int x1)] [] st := by
  intro n9
  induction n9 with
  | zero => intro x1 st h; exact h.elim
  | succ n9 ih =>
    intro x1 st h
    unfold P_X8_takeNumber_71 at h
    refine J_iload_n 1 dX8_takeNumber_71 rfl rfl ?_
    refine J_aload_n 0 dX8_takeNumber_72 rfl rfl ?_
    obtain ⟨hf, h⟩ := h
    refine J_getI fl_RX8_23 dX8_takeNumber_73 hf ?_
    refine J_icmp_ge 113 dX8_takeNumber_76 (by decide) (fun hc => ?_) (fun hc => ?_)
    · have h := h.1 hc
      exact J_lv [0] rfl (K_X8_takeNumber_113   a0  st h)
    · have h := h.2 hc
      refine J_aload_n 0 dX8_takeNumber_79 rfl rfl ?_
      obtain ⟨hf, h⟩ := h
      refine J_getI fl_RX8_39 dX8_takeNumber_80 hf ?_
      refine J_if_ne 113 dX8_takeNumber_83 (by decide) (fun hc => ?_) (fun hc => ?_)
      · have h := h.1 hc
        exact J_lv [0] rfl (K_X8_takeNumber_113   a0  st h)
      · have h := h.2 hc
        refine J_aload_n 0 dX8_takeNumber_86 rfl rfl ?_
        refine J_aload_n 0 dX8_takeNumber_87 rfl rfl ?_
        obtain ⟨hf, h⟩ := h
        refine J_getI fl_RX8_36 dX8_takeNumber_88 hf ?_
        refine J_bipush 10 dX8_takeNumber_91 (by decide) ?_
        refine J_imul dX8_takeNumber_93 ?_
        refine J_aload_n 0 dX8_takeNumber_94 rfl rfl ?_
        obtain ⟨r_1, hf, h⟩ := h
        refine J_getR fl_RX8_7 dX8_takeNumber_95 hf ?_
        refine J_iload_n 1 dX8_takeNumber_98 rfl rfl ?_
        obtain ⟨hi, h⟩ := h
        refine J_iald dX8_takeNumber_99 hi ?_
        refine J_iadd dX8_takeNumber_100 ?_
        refine J_bipush 48 dX8_takeNumber_101 (by decide) ?_
        refine J_isub dX8_takeNumber_103 ?_
        obtain ⟨hf, h⟩ := h
        refine J_putI fp_RX8_36 dX8_takeNumber_104 rfl hf ?_
        refine J_iinc 1 (x1 + 1) _ dX8_takeNumber_107 rfl (by rfl) (by decide) rfl ?_
        refine J_goto 71 dX8_takeNumber_110 (by decide) ?_
        exact J_lv [1, 0] rfl (ih (x1 + 1) (sI st a0 5 ((((gI st a0 5) * 10) + (gA st r_1 (x1 : Int32).toNatClampNeg)) - 48)) h)
set_option maxRecDepth 100000 in
set_option maxHeartbeats 4000000 in
theorem K_X8_takeNumber_63 {l : Launch} {E : En}   (a0 : Nat)  {post : St → Prop}   (s0 : Int32) (s1 : Nat) (st : St) (h : P_X8_takeNumber_63  a0  post s0 s1 st) : Jg l E (CFc E) (Rm 2 0 0) cX8_takeNumber 2 RX8 none (fun _ => True) (QV E post 0 0) 0 0 63 [(0, .ref a0)] [.int s0, .ref s1] st := by
  unfold P_X8_takeNumber_63 at h
  obtain ⟨hb, hf, h⟩ := h
  refine J_putZ fp_RX8_39 dX8_takeNumber_63 rfl hb hf ?_
  refine J_aload_n 0 dX8_takeNumber_66 rfl rfl ?_
  obtain ⟨hf, h⟩ := h
  refine J_getI fl_RX8_29 dX8_takeNumber_67 hf ?_
  refine J_istore_n _ dX8_takeNumber_70 rfl (by decide) rfl ?_
  obtain ⟨n8, h⟩ := h
  exact J_lv [1, 0] rfl (K_X8_takeNumber_71   a0  n8 (gI (sI st s1 6 s0) a0 4) (sI st s1 6 s0) h)
set_option maxRecDepth 100000 in
set_option maxHeartbeats 4000000 in
theorem K_X8_takeNumber_44 {l : Launch} {E : En}   (a0 : Nat)  {post : St → Prop}    (st : St) (h : P_X8_takeNumber_44  a0  post  st) : Jg l E (CFc E) (Rm 2 0 0) cX8_takeNumber 2 RX8 none (fun _ => True) (QV E post 0 0) 0 0 44 [(0, .ref a0)] [] st := by
  unfold P_X8_takeNumber_44 at h
  refine J_aload_n 0 dX8_takeNumber_44 rfl rfl ?_
  refine J_aload_n 0 dX8_takeNumber_45 rfl rfl ?_
  obtain ⟨hf, h⟩ := h
  refine J_getI fl_RX8_23 dX8_takeNumber_46 hf ?_
  refine J_aload_n 0 dX8_takeNumber_49 rfl rfl ?_
  obtain ⟨hf, h⟩ := h
  refine J_getI fl_RX8_29 dX8_takeNumber_50 hf ?_
  refine J_isub dX8_takeNumber_53 ?_
  refine J_iconst 4 dX8_takeNumber_54 (by decide) ?_
  refine J_icmp_le 62 dX8_takeNumber_55 (by decide) (fun hc => ?_) (fun hc => ?_)
  · have h := h.1 hc
    refine J_iconst 0 dX8_takeNumber_62 (by decide) ?_
    exact J_lv [0] rfl (K_X8_takeNumber_63   a0  0 a0 st h)
  · have h := h.2 hc
    refine J_iconst 1 dX8_takeNumber_58 (by decide) ?_
    refine J_goto 63 dX8_takeNumber_59 (by decide) ?_
    exact J_lv [0] rfl (K_X8_takeNumber_63   a0  1 a0 st h)
set_option maxRecDepth 100000 in
set_option maxHeartbeats 4000000 in
theorem K_X8_takeNumber_5 {l : Launch} {E : En}   (a0 : Nat)  {post : St → Prop}   : ∀ (n9 : Nat)  (st : St), P_X8_takeNumber_5  a0  post n9  st → Jg l E (CFc E) (Rm 2 0 0) cX8_takeNumber 2 RX8 none (fun _ => True) (QV E post 0 0) 0 0 5 [(0, .ref a0)] [] st := by
  intro n9
  induction n9 with
  | zero => intro  st h; exact h.elim
  | succ n9 ih =>
    intro  st h
    unfold P_X8_takeNumber_5 at h
    refine J_aload_n 0 dX8_takeNumber_5 rfl rfl ?_
    obtain ⟨hf, h⟩ := h
    refine J_getI fl_RX8_23 dX8_takeNumber_6 hf ?_
    refine J_aload_n 0 dX8_takeNumber_9 rfl rfl ?_
    obtain ⟨hf, h⟩ := h
    refine J_getI fl_RX8_19 dX8_takeNumber_10 hf ?_
    refine J_icmp_ge 44 dX8_takeNumber_13 (by decide) (fun hc => ?_) (fun hc => ?_)
    · have h := h.1 hc
      exact J_lv [0] rfl (K_X8_takeNumber_44   a0  st h)
    · have h := h.2 hc
      refine J_aload_n 0 dX8_takeNumber_16 rfl rfl ?_
      obtain ⟨r_1, hf, h⟩ := h
      refine J_getR fl_RX8_7 dX8_takeNumber_17 hf ?_
      refine J_aload_n 0 dX8_takeNumber_20 rfl rfl ?_
      obtain ⟨hf, h⟩ := h
      refine J_getI fl_RX8_23 dX8_takeNumber_21 hf ?_
      obtain ⟨hi, h⟩ := h
      refine J_iald dX8_takeNumber_24 hi ?_
      refine J_csi (As := [_]) md_X8_isDigit k_316 rfl rfl ⟨Nat.le_of_ble_eq_true rfl, Nat.le_of_ble_eq_true rfl⟩ ⟨Nat.le_of_ble_eq_true rfl, Nat.le_of_ble_eq_true rfl⟩ (Nat.le_of_ble_eq_true rfl) dX8_takeNumber_25 (ct_X8_isDigit  h) (fun z_2 st_3 h => ?_)
      refine J_if_eq 44 dX8_takeNumber_28 (by decide) (fun hc => ?_) (fun hc => ?_)
      · have h := h.1 hc
        exact J_lv [0] rfl (K_X8_takeNumber_44   a0  st_3 h)
      · have h := h.2 hc
        refine J_aload_n 0 dX8_takeNumber_31 rfl rfl ?_
        refine J_dup dX8_takeNumber_32 rfl ?_
        obtain ⟨hf, h⟩ := h
        refine J_getI fl_RX8_23 dX8_takeNumber_33 hf ?_
        refine J_iconst 1 dX8_takeNumber_36 (by decide) ?_
        refine J_iadd dX8_takeNumber_37 ?_
        obtain ⟨hf, h⟩ := h
        refine J_putI fp_RX8_23 dX8_takeNumber_38 rfl hf ?_
        refine J_goto 5 dX8_takeNumber_41 (by decide) ?_
        exact J_lv [0] rfl (ih (sI st_3 a0 2 ((gI st_3 a0 2) + 1)) h)
set_option maxRecDepth 100000 in
set_option maxHeartbeats 4000000 in
theorem ct_X8_takeNumber {l : Launch} {E : En}  {a0 : Nat} {st : St} {post : St → Prop} (h : P_X8_takeNumber  a0 st post) : CtV l E (CFc E) 2 0 0 yX8_takeNumber cX8_takeNumber 2 none [.ref a0] st post := by
  refine ctV_of (by decide) (Nat.le_of_ble_eq_true rfl) ?_
  show Jg l E (CFc E) (Rm 2 0 0) cX8_takeNumber 2 RX8 none (fun _ => True) (QV E post 0 0) 0 0 0 [(0, .ref a0)] [] st
  unfold P_X8_takeNumber at h
  refine J_aload_n 0 dX8_takeNumber_0 rfl rfl ?_
  refine J_iconst 2 dX8_takeNumber_1 (by decide) ?_
  obtain ⟨hf, h⟩ := h
  refine J_putI fp_RX8_46 dX8_takeNumber_2 rfl hf ?_
  obtain ⟨n8, h⟩ := h
  exact J_lv [0] rfl (K_X8_takeNumber_5   a0  n8 (sI st a0 3 2) h)
/-! X10_stands -/
def P_X10_stands_18  (a0 : Nat) (a1 : Nat) (a2 : Int32) (a3 : Int32)  (post : Int32 → St → Prop) : Nat → Int32 → St → Prop
  | 0, _, _ => False
  | n9 + 1, x4, st => enOk a0 ∧ kOk (a0 + 1000) ∧ P_J0_length_8abf5  (a0 + 1000) st (fun z_1 st_2 => ((z_1 ≤ x4 → post 1 st_2) ∧ (¬ z_1 ≤ x4 → vp_in (a2 + x4) (al 0 a1) ∧ enOk a0 ∧ kOk (a0 + 1000) ∧ P_J0_charAt_5068e  (a0 + 1000) x4 st_2 (fun z_3 st_4 => (((gA st_2 a1 (a2 + x4 : Int32).toNatClampNeg) = z_3 → P_X10_stands_18  a0 a1 a2 a3  post n9 (x4 + 1) st_4) ∧ (¬ (gA st_2 a1 (a2 + x4 : Int32).toNatClampNeg) = z_3 → post 0 st_4))))))
def P_X10_stands  (a0 : Nat) (a1 : Nat) (a2 : Int32) (a3 : Int32) (st : St) (post : Int32 → St → Prop) : Prop := enOk a0 ∧ kOk (a0 + 1000) ∧ P_J0_length_8abf5  (a0 + 1000) st (fun z_1 st_2 => (((a3 - a2) = z_1 → ∃ n8, P_X10_stands_18  a0 a1 a2 a3  post n8 0 st_2) ∧ (¬ (a3 - a2) = z_1 → post 0 st_2)))
set_option maxRecDepth 100000 in
set_option maxHeartbeats 4000000 in
theorem K_X10_stands_18 {l : Launch} {E : En}   (a0 : Nat) (a1 : Nat) (a2 : Int32) (a3 : Int32)  {post : Int32 → St → Prop}   : ∀ (n9 : Nat) (x4 : Int32) (st : St), P_X10_stands_18  a0 a1 a2 a3  post n9 x4 st → Jg l E (CFc E) (Rm 5 0 0) cX10_stands 5 RX10 (some .boolean) (fun _ => True) (QI E post 0 0) 0 0 18 [(0, .ref a0), (1, .ref a1), (2, .int a2), (3, .int a3), (4, .int x4)] [] st := by
  intro n9
  induction n9 with
  | zero => intro x4 st h; exact h.elim
  | succ n9 ih =>
    intro x4 st h
    unfold P_X10_stands_18 at h
    refine J_iload 4 dX10_stands_18 rfl ?_
    refine J_aload_n 0 dX10_stands_20 rfl rfl ?_
    obtain ⟨hf, h⟩ := h
    refine J_enL k_288 dX10_stands_21 hf ?_
    obtain ⟨ho, h⟩ := h
    refine J_cvi (As := []) md_J0_length_8abf5 k_289 (rc_str ho) rfl rfl ⟨Nat.le_of_ble_eq_true rfl, Nat.le_of_ble_eq_true rfl⟩ ⟨Nat.le_of_ble_eq_true rfl, Nat.le_of_ble_eq_true rfl⟩ (Nat.le_of_ble_eq_true rfl) dX10_stands_24 (ct_J0_length_8abf5  h) (fun z_1 st_2 h => ?_)
    refine J_icmp_ge 56 dX10_stands_27 (by decide) (fun hc => ?_) (fun hc => ?_)
    · have h := h.1 hc
      refine J_iconst 1 dX10_stands_56 (by decide) ?_
      exact J_retz rfl (Or.inr rfl) dX10_stands_57 h
    · have h := h.2 hc
      refine J_aload_n 1 dX10_stands_30 rfl rfl ?_
      refine J_iload_n 2 dX10_stands_31 rfl rfl ?_
      refine J_iload 4 dX10_stands_32 rfl ?_
      refine J_iadd dX10_stands_34 ?_
      obtain ⟨hi, h⟩ := h
      refine J_iald dX10_stands_35 hi ?_
      refine J_aload_n 0 dX10_stands_36 rfl rfl ?_
      obtain ⟨hf, h⟩ := h
      refine J_enL k_288 dX10_stands_37 hf ?_
      refine J_iload 4 dX10_stands_40 rfl ?_
      obtain ⟨ho, h⟩ := h
      refine J_cvi (As := [_]) md_J0_charAt_5068e k_292 (rc_str ho) rfl rfl ⟨Nat.le_of_ble_eq_true rfl, Nat.le_of_ble_eq_true rfl⟩ ⟨Nat.le_of_ble_eq_true rfl, Nat.le_of_ble_eq_true rfl⟩ (Nat.le_of_ble_eq_true rfl) dX10_stands_42 (ct_J0_charAt_5068e  h) (fun z_3 st_4 h => ?_)
      refine J_icmp_eq 50 dX10_stands_45 (by decide) (fun hc => ?_) (fun hc => ?_)
      · have h := h.1 hc
        refine J_iinc 4 (x4 + 1) _ dX10_stands_50 rfl (by rfl) (by decide) rfl ?_
        refine J_goto 18 dX10_stands_53 (by decide) ?_
        exact J_lv [1, 2, 3, 4, 0] rfl (ih (x4 + 1) st_4 h)
      · have h := h.2 hc
        refine J_iconst 0 dX10_stands_48 (by decide) ?_
        exact J_retz rfl (Or.inl rfl) dX10_stands_49 h
set_option maxRecDepth 100000 in
set_option maxHeartbeats 4000000 in
theorem ct_X10_stands {l : Launch} {E : En}  {a0 : Nat} {a1 : Nat} {a2 : Int32} {a3 : Int32} {st : St} {post : Int32 → St → Prop} (h : P_X10_stands  a0 a1 a2 a3 st post) : CtI l E (CFc E) 5 0 0 yX10_stands cX10_stands 5 (some .boolean) [.ref a0, .ref a1, .int a2, .int a3] st post := by
  refine ctI_of (by decide) (Nat.le_of_ble_eq_true rfl) ?_
  show Jg l E (CFc E) (Rm 5 0 0) cX10_stands 5 RX10 (some .boolean) (fun _ => True) (QI E post 0 0) 0 0 0 [(0, .ref a0), (1, .ref a1), (2, .int a2), (3, .int a3)] [] st
  unfold P_X10_stands at h
  refine J_iload_n 3 dX10_stands_0 rfl rfl ?_
  refine J_iload_n 2 dX10_stands_1 rfl rfl ?_
  refine J_isub dX10_stands_2 ?_
  refine J_aload_n 0 dX10_stands_3 rfl rfl ?_
  obtain ⟨hf, h⟩ := h
  refine J_enL k_288 dX10_stands_4 hf ?_
  obtain ⟨ho, h⟩ := h
  refine J_cvi (As := []) md_J0_length_8abf5 k_289 (rc_str ho) rfl rfl ⟨Nat.le_of_ble_eq_true rfl, Nat.le_of_ble_eq_true rfl⟩ ⟨Nat.le_of_ble_eq_true rfl, Nat.le_of_ble_eq_true rfl⟩ (Nat.le_of_ble_eq_true rfl) dX10_stands_7 (ct_J0_length_8abf5  h) (fun z_1 st_2 h => ?_)
  refine J_icmp_eq 15 dX10_stands_10 (by decide) (fun hc => ?_) (fun hc => ?_)
  · have h := h.1 hc
    refine J_iconst 0 dX10_stands_15 (by decide) ?_
    refine J_istore _ dX10_stands_16 (by decide) rfl ?_
    obtain ⟨n8, h⟩ := h
    exact J_lv [1, 2, 3, 4, 0] rfl (K_X10_stands_18   a0 a1 a2 a3  n8 0 st_2 h)
  · have h := h.2 hc
    refine J_iconst 0 dX10_stands_13 (by decide) ?_
    exact J_retz rfl (Or.inl rfl) dX10_stands_14 h
/-! X10_find -/
def P_X10_find_2  (a0 : Nat) (a1 : Int32) (a2 : Int32)  (post : Option Nat → St → Prop) : Nat → Int32 → St → Prop
  | 0, _, _ => False
  | n9 + 1, x3, st => ((19 ≤ x3 → post none st) ∧ (¬ 19 ≤ x3 → vp_in x3 19 ∧ enOk (1000 + (x3 : Int32).toNatClampNeg) ∧ P_X10_stands  (1000 + (x3 : Int32).toNatClampNeg) a0 a1 a2 st (fun z_1 st_2 => ((z_1 = 0 → P_X10_find_2  a0 a1 a2  post n9 (x3 + 1) st_2) ∧ (¬ z_1 = 0 → vp_in x3 19 ∧ post (some (1000 + (x3 : Int32).toNatClampNeg)) st_2)))))
def P_X10_find  (a0 : Nat) (a1 : Int32) (a2 : Int32) (st : St) (post : Option Nat → St → Prop) : Prop := ∃ n8, P_X10_find_2  a0 a1 a2  post n8 0 st
set_option maxRecDepth 100000 in
set_option maxHeartbeats 4000000 in
theorem K_X10_find_2 {l : Launch} {E : En}   (a0 : Nat) (a1 : Int32) (a2 : Int32)  {post : Option Nat → St → Prop}   : ∀ (n9 : Nat) (x3 : Int32) (st : St), P_X10_find_2  a0 a1 a2  post n9 x3 st → Jg l E (CFc E) (Rm 6 0 0) cX10_find 4 RX10 (some (.object "GivenAway$Word")) (fun _ => True) (QR E post 0 0) 0 0 2 [(0, .ref a0), (1, .int a1), (2, .int a2), (3, .int x3)] [] st := by
  intro n9
  induction n9 with
  | zero => intro x3 st h; exact h.elim
  | succ n9 ih =>
    intro x3 st h
    unfold P_X10_find_2 at h
    refine J_iload_n 3 dX10_find_2 rfl rfl ?_
    refine J_gsA k_296 dX10_find_3 ?_
    refine J_aLen dX10_find_6 ?_
    refine J_icmp_ge 36 dX10_find_7 (by decide) (fun hc => ?_) (fun hc => ?_)
    · have h := h.1 hc
      refine J_null dX10_find_36 ?_
      exact J_retr (v := none) rfl dX10_find_37 h
    · have h := h.2 hc
      refine J_gsA k_296 dX10_find_10 ?_
      refine J_iload_n 3 dX10_find_13 rfl rfl ?_
      obtain ⟨hi, h⟩ := h
      refine J_aLd dX10_find_14 hi ?_
      refine J_aload_n 0 dX10_find_15 rfl rfl ?_
      refine J_iload_n 1 dX10_find_16 rfl rfl ?_
      refine J_iload_n 2 dX10_find_17 rfl rfl ?_
      obtain ⟨ho, h⟩ := h
      refine J_cvi (As := [_, _, _]) md_X10_stands k_297 (rc_enm ho) rfl rfl ⟨Nat.le_of_ble_eq_true rfl, Nat.le_of_ble_eq_true rfl⟩ ⟨Nat.le_of_ble_eq_true rfl, Nat.le_of_ble_eq_true rfl⟩ (Nat.le_of_ble_eq_true rfl) dX10_find_18 (ct_X10_stands  h) (fun z_1 st_2 h => ?_)
      refine J_if_eq 30 dX10_find_21 (by decide) (fun hc => ?_) (fun hc => ?_)
      · have h := h.1 hc
        refine J_iinc 3 (x3 + 1) _ dX10_find_30 rfl (by rfl) (by decide) rfl ?_
        refine J_goto 2 dX10_find_33 (by decide) ?_
        exact J_lv [1, 2, 3, 0] rfl (ih (x3 + 1) st_2 h)
      · have h := h.2 hc
        refine J_gsA k_296 dX10_find_24 ?_
        refine J_iload_n 3 dX10_find_27 rfl rfl ?_
        obtain ⟨hi, h⟩ := h
        refine J_aLd dX10_find_28 hi ?_
        exact J_retr (v := (some (1000 + (x3 : Int32).toNatClampNeg))) rfl dX10_find_29 h
set_option maxRecDepth 100000 in
set_option maxHeartbeats 4000000 in
theorem ct_X10_find {l : Launch} {E : En}  {a0 : Nat} {a1 : Int32} {a2 : Int32} {st : St} {post : Option Nat → St → Prop} (h : P_X10_find  a0 a1 a2 st post) : CtR l E (CFc E) 6 0 0 yX10_find cX10_find 4 (some (.object "GivenAway$Word")) [.ref a0, .int a1, .int a2] st post := by
  refine ctR_of (by decide) (Nat.le_of_ble_eq_true rfl) ?_
  show Jg l E (CFc E) (Rm 6 0 0) cX10_find 4 RX10 (some (.object "GivenAway$Word")) (fun _ => True) (QR E post 0 0) 0 0 0 [(0, .ref a0), (1, .int a1), (2, .int a2)] [] st
  unfold P_X10_find at h
  refine J_iconst 0 dX10_find_0 (by decide) ?_
  refine J_istore_n _ dX10_find_1 rfl (by decide) rfl ?_
  obtain ⟨n8, h⟩ := h
  exact J_lv [1, 2, 3, 0] rfl (K_X10_find_2   a0 a1 a2  n8 0 st h)
/-! X8_takeWord -/
def P_X8_takeWord_44  (a0 : Nat)  (post : St → Prop)  (st : St) : Prop := ∃ r_1, rv st a0 8 0 = some r_1 ∧ fk a0 8 4 = some 0 ∧ fk a0 8 2 = some 0 ∧ P_X10_find  r_1 (gI st a0 4) (gI st a0 2) st (fun z_2 st_3 => fk a0 8 7 = some 1 ∧ post (sR st_3 a0 7 z_2))
def P_X8_takeWord_5  (a0 : Nat)  (post : St → Prop) : Nat → St → Prop
  | 0, _ => False
  | n9 + 1, st => fk a0 8 2 = some 0 ∧ fk a0 8 1 = some 0 ∧ (((gI st a0 1) ≤ (gI st a0 2) → P_X8_takeWord_44  a0  post st) ∧ (¬ (gI st a0 1) ≤ (gI st a0 2) → ∃ r_1, rv st a0 8 0 = some r_1 ∧ fk a0 8 2 = some 0 ∧ vp_in (gI st a0 2) (al 0 r_1) ∧ P_X8_isLetter  (gA st r_1 (gI st a0 2 : Int32).toNatClampNeg) st (fun z_2 st_3 => ((z_2 = 0 → P_X8_takeWord_44  a0  post st_3) ∧ (¬ z_2 = 0 → fk a0 8 2 = some 0 ∧ fk a0 8 2 = some 0 ∧ P_X8_takeWord_5  a0  post n9 (sI st_3 a0 2 ((gI st_3 a0 2) + 1)))))))
def P_X8_takeWord  (a0 : Nat) (st : St) (post : St → Prop) : Prop := fk a0 8 3 = some 0 ∧ ∃ n8, P_X8_takeWord_5  a0  post n8 (sI st a0 3 1)
set_option maxRecDepth 100000 in
set_option maxHeartbeats 4000000 in
theorem K_X8_takeWord_44 {l : Launch} {E : En}   (a0 : Nat)  {post : St → Prop}    (st : St) (h : P_X8_takeWord_44  a0  post  st) : Jg l E (CFc E) (Rm 7 0 0) cX8_takeWord 1 RX8 none (fun _ => True) (QV E post 0 0) 0 0 44 [(0, .ref a0)] [] st := by
  unfold P_X8_takeWord_44 at h
  refine J_aload_n 0 dX8_takeWord_44 rfl rfl ?_
  refine J_aload_n 0 dX8_takeWord_45 rfl rfl ?_
  obtain ⟨r_1, hf, h⟩ := h
  refine J_getR fl_RX8_7 dX8_takeWord_46 hf ?_
  refine J_aload_n 0 dX8_takeWord_49 rfl rfl ?_
  obtain ⟨hf, h⟩ := h
  refine J_getI fl_RX8_29 dX8_takeWord_50 hf ?_
  refine J_aload_n 0 dX8_takeWord_53 rfl rfl ?_
  obtain ⟨hf, h⟩ := h
  refine J_getI fl_RX8_23 dX8_takeWord_54 hf ?_
  refine J_csr (As := [_, _, _]) md_X10_find k_309 rfl rfl ⟨Nat.le_of_ble_eq_true rfl, Nat.le_of_ble_eq_true rfl⟩ ⟨Nat.le_of_ble_eq_true rfl, Nat.le_of_ble_eq_true rfl⟩ (Nat.le_of_ble_eq_true rfl) dX8_takeWord_57 (ct_X10_find  h) (fun z_2 st_3 h => ?_)
  obtain ⟨hf, h⟩ := h
  refine J_putQ (v := z_2) fp_RX8_32 dX8_takeWord_60 (Or.inl ⟨_, rfl⟩) hf ?_
  exact J_retv rfl dX8_takeWord_63 h
set_option maxRecDepth 100000 in
set_option maxHeartbeats 4000000 in
theorem K_X8_takeWord_5 {l : Launch} {E : En}   (a0 : Nat)  {post : St → Prop}   : ∀ (n9 : Nat)  (st : St), P_X8_takeWord_5  a0  post n9  st → Jg l E (CFc E) (Rm 7 0 0) cX8_takeWord 1 RX8 none (fun _ => True) (QV E post 0 0) 0 0 5 [(0, .ref a0)] [] st := by
  intro n9
  induction n9 with
  | zero => intro  st h; exact h.elim
  | succ n9 ih =>
    intro  st h
    unfold P_X8_takeWord_5 at h
    refine J_aload_n 0 dX8_takeWord_5 rfl rfl ?_
    obtain ⟨hf, h⟩ := h
    refine J_getI fl_RX8_23 dX8_takeWord_6 hf ?_
    refine J_aload_n 0 dX8_takeWord_9 rfl rfl ?_
    obtain ⟨hf, h⟩ := h
    refine J_getI fl_RX8_19 dX8_takeWord_10 hf ?_
    refine J_icmp_ge 44 dX8_takeWord_13 (by decide) (fun hc => ?_) (fun hc => ?_)
    · have h := h.1 hc
      exact J_lv [0] rfl (K_X8_takeWord_44   a0  st h)
    · have h := h.2 hc
      refine J_aload_n 0 dX8_takeWord_16 rfl rfl ?_
      obtain ⟨r_1, hf, h⟩ := h
      refine J_getR fl_RX8_7 dX8_takeWord_17 hf ?_
      refine J_aload_n 0 dX8_takeWord_20 rfl rfl ?_
      obtain ⟨hf, h⟩ := h
      refine J_getI fl_RX8_23 dX8_takeWord_21 hf ?_
      obtain ⟨hi, h⟩ := h
      refine J_iald dX8_takeWord_24 hi ?_
      refine J_csi (As := [_]) md_X8_isLetter k_307 rfl rfl ⟨Nat.le_of_ble_eq_true rfl, Nat.le_of_ble_eq_true rfl⟩ ⟨Nat.le_of_ble_eq_true rfl, Nat.le_of_ble_eq_true rfl⟩ (Nat.le_of_ble_eq_true rfl) dX8_takeWord_25 (ct_X8_isLetter  h) (fun z_2 st_3 h => ?_)
      refine J_if_eq 44 dX8_takeWord_28 (by decide) (fun hc => ?_) (fun hc => ?_)
      · have h := h.1 hc
        exact J_lv [0] rfl (K_X8_takeWord_44   a0  st_3 h)
      · have h := h.2 hc
        refine J_aload_n 0 dX8_takeWord_31 rfl rfl ?_
        refine J_dup dX8_takeWord_32 rfl ?_
        obtain ⟨hf, h⟩ := h
        refine J_getI fl_RX8_23 dX8_takeWord_33 hf ?_
        refine J_iconst 1 dX8_takeWord_36 (by decide) ?_
        refine J_iadd dX8_takeWord_37 ?_
        obtain ⟨hf, h⟩ := h
        refine J_putI fp_RX8_23 dX8_takeWord_38 rfl hf ?_
        refine J_goto 5 dX8_takeWord_41 (by decide) ?_
        exact J_lv [0] rfl (ih (sI st_3 a0 2 ((gI st_3 a0 2) + 1)) h)
set_option maxRecDepth 100000 in
set_option maxHeartbeats 4000000 in
theorem ct_X8_takeWord {l : Launch} {E : En}  {a0 : Nat} {st : St} {post : St → Prop} (h : P_X8_takeWord  a0 st post) : CtV l E (CFc E) 7 0 0 yX8_takeWord cX8_takeWord 1 none [.ref a0] st post := by
  refine ctV_of (by decide) (Nat.le_of_ble_eq_true rfl) ?_
  show Jg l E (CFc E) (Rm 7 0 0) cX8_takeWord 1 RX8 none (fun _ => True) (QV E post 0 0) 0 0 0 [(0, .ref a0)] [] st
  unfold P_X8_takeWord at h
  refine J_aload_n 0 dX8_takeWord_0 rfl rfl ?_
  refine J_iconst 1 dX8_takeWord_1 (by decide) ?_
  obtain ⟨hf, h⟩ := h
  refine J_putI fp_RX8_46 dX8_takeWord_2 rfl hf ?_
  obtain ⟨n8, h⟩ := h
  exact J_lv [0] rfl (K_X8_takeWord_5   a0  n8 (sI st a0 3 1) h)
/-! X8_advance -/
def P_X8_advance_181  (a0 : Nat)  (post : St → Prop)  (st : St) : Prop := post st
def P_X8_advance_60  (a0 : Nat)  (post : St → Prop)  (st : St) : Prop := fk a0 8 7 = some 1 ∧ fk a0 8 5 = some 0 ∧ fk a0 8 6 = some 0 ∧ fk a0 8 8 = some 0 ∧ fk a0 8 4 = some 0 ∧ fk a0 8 1 = some 0 ∧ (((gI (sI (sI (sI (sR st a0 7 none) a0 5 0) a0 6 0) a0 8 0) a0 4) < (gI (sI (sI (sI (sR st a0 7 none) a0 5 0) a0 6 0) a0 8 0) a0 1) → ∃ r_1, rv (sI (sI (sI (sR st a0 7 none) a0 5 0) a0 6 0) a0 8 0) a0 8 0 = some r_1 ∧ fk a0 8 4 = some 0 ∧ vp_in (gI (sI (sI (sI (sR st a0 7 none) a0 5 0) a0 6 0) a0 8 0) a0 4) (al 0 r_1) ∧ fk a0 8 4 = some 0 ∧ fk a0 8 2 = some 0 ∧ P_X8_isLetter  (gA (sI (sI (sI (sR st a0 7 none) a0 5 0) a0 6 0) a0 8 0) r_1 (gI (sI (sI (sI (sR st a0 7 none) a0 5 0) a0 6 0) a0 8 0) a0 4 : Int32).toNatClampNeg) (sI (sI (sI (sI (sR st a0 7 none) a0 5 0) a0 6 0) a0 8 0) a0 2 ((gI (sI (sI (sI (sR st a0 7 none) a0 5 0) a0 6 0) a0 8 0) a0 4) + 1)) (fun z_2 st_3 => ((z_2 = 0 → P_X8_isDigit  (gA (sI (sI (sI (sR st a0 7 none) a0 5 0) a0 6 0) a0 8 0) r_1 (gI (sI (sI (sI (sR st a0 7 none) a0 5 0) a0 6 0) a0 8 0) a0 4 : Int32).toNatClampNeg) st_3 (fun z_4 st_5 => ((z_4 = 0 → kOk 2019 ∧ P_J0_indexOf_0f7a4  2019 (((gA (sI (sI (sI (sR st a0 7 none) a0 5 0) a0 6 0) a0 8 0) r_1 (gI (sI (sI (sI (sR st a0 7 none) a0 5 0) a0 6 0) a0 8 0) a0 4 : Int32).toNatClampNeg : Int32).toUInt32 % 65536).toInt32) st_5 (fun z_6 st_7 => ((z_6 < 0 → fk a0 8 3 = some 0 ∧ P_X8_advance_181  a0  post (sI st_7 a0 3 4)) ∧ (¬ z_6 < 0 → fk a0 8 3 = some 0 ∧ fk a0 8 8 = some 0 ∧ P_X8_advance_181  a0  post (sI (sI st_7 a0 3 3) a0 8 (gA (sI (sI (sI (sR st a0 7 none) a0 5 0) a0 6 0) a0 8 0) r_1 (gI (sI (sI (sI (sR st a0 7 none) a0 5 0) a0 6 0) a0 8 0) a0 4 : Int32).toNatClampNeg)))))) ∧ (¬ z_4 = 0 → oC a0 8 ∧ P_X8_takeNumber  a0 st_5 (fun st_9 => P_X8_advance_181  a0  post st_9))))) ∧ (¬ z_2 = 0 → oC a0 8 ∧ P_X8_takeWord  a0 st_3 (fun st_11 => P_X8_advance_181  a0  post st_11))))) ∧ (¬ (gI (sI (sI (sI (sR st a0 7 none) a0 5 0) a0 6 0) a0 8 0) a0 4) < (gI (sI (sI (sI (sR st a0 7 none) a0 5 0) a0 6 0) a0 8 0) a0 1) → fk a0 8 3 = some 0 ∧ fk a0 8 4 = some 0 ∧ fk a0 8 2 = some 0 ∧ post (sI (sI (sI (sI (sI (sR st a0 7 none) a0 5 0) a0 6 0) a0 8 0) a0 3 0) a0 2 (gI (sI (sI (sI (sI (sR st a0 7 none) a0 5 0) a0 6 0) a0 8 0) a0 3 0) a0 4))))
def P_X8_advance_47  (a0 : Nat) (k8 : St → Prop) (post : St → Prop)  (st : St) : Prop := fk a0 8 4 = some 0 ∧ fk a0 8 4 = some 0 ∧ k8 (sI st a0 4 ((gI st a0 4) + 1))
def P_X8_advance_8  (a0 : Nat)  (post : St → Prop) : Nat → St → Prop
  | 0, _ => False
  | n9 + 1, st => fk a0 8 4 = some 0 ∧ fk a0 8 1 = some 0 ∧ (((gI st a0 1) ≤ (gI st a0 4) → P_X8_advance_60  a0  post st) ∧ (¬ (gI st a0 1) ≤ (gI st a0 4) → ∃ r_1, rv st a0 8 0 = some r_1 ∧ fk a0 8 4 = some 0 ∧ vp_in (gI st a0 4) (al 0 r_1) ∧ (((gA st r_1 (gI st a0 4 : Int32).toNatClampNeg) = 32 → P_X8_advance_47  a0 (fun st => P_X8_advance_8  a0  post n9 st) post st) ∧ (¬ (gA st r_1 (gI st a0 4 : Int32).toNatClampNeg) = 32 → ∃ r_2, rv st a0 8 0 = some r_2 ∧ fk a0 8 4 = some 0 ∧ vp_in (gI st a0 4) (al 0 r_2) ∧ ((¬ (gA st r_2 (gI st a0 4 : Int32).toNatClampNeg) = 10 → P_X8_advance_60  a0  post st) ∧ ((gA st r_2 (gI st a0 4 : Int32).toNatClampNeg) = 10 → P_X8_advance_47  a0 (fun st => P_X8_advance_8  a0  post n9 st) post st))))))
def P_X8_advance  (a0 : Nat) (st : St) (post : St → Prop) : Prop := fk a0 8 2 = some 0 ∧ fk a0 8 4 = some 0 ∧ ∃ n8, P_X8_advance_8  a0  post n8 (sI st a0 4 (gI st a0 2))
set_option maxRecDepth 100000 in
set_option maxHeartbeats 4000000 in
theorem K_X8_advance_181 {l : Launch} {E : En}   (a0 : Nat)  {post : St → Prop}    (st : St) (h : P_X8_advance_181  a0  post  st) : Jg l E (CFc E) (Rm 8 0 0) cX8_advance 2 RX8 none (fun _ => True) (QV E post 0 0) 0 0 181 [(0, .ref a0)] [] st := by
  unfold P_X8_advance_181 at h
  exact J_retv rfl dX8_advance_181 h
set_option maxRecDepth 100000 in
set_option maxHeartbeats 4000000 in
theorem K_X8_advance_60 {l : Launch} {E : En}   (a0 : Nat)  {post : St → Prop}    (st : St) (h : P_X8_advance_60  a0  post  st) : Jg l E (CFc E) (Rm 8 0 0) cX8_advance 2 RX8 none (fun _ => True) (QV E post 0 0) 0 0 60 [(0, .ref a0)] [] st := by
  unfold P_X8_advance_60 at h
  refine J_aload_n 0 dX8_advance_60 rfl rfl ?_
  refine J_null dX8_advance_61 ?_
  obtain ⟨hf, h⟩ := h
  refine J_putQ (v := none) fp_RX8_32 dX8_advance_62 (Or.inl ⟨_, rfl⟩) hf ?_
  refine J_aload_n 0 dX8_advance_65 rfl rfl ?_
  refine J_iconst 0 dX8_advance_66 (by decide) ?_
  obtain ⟨hf, h⟩ := h
  refine J_putI fp_RX8_36 dX8_advance_67 rfl hf ?_
  refine J_aload_n 0 dX8_advance_70 rfl rfl ?_
  refine J_iconst 0 dX8_advance_71 (by decide) ?_
  obtain ⟨hf, h⟩ := h
  refine J_putZ fp_RX8_39 dX8_advance_72 rfl (Or.inl rfl) hf ?_
  refine J_aload_n 0 dX8_advance_75 rfl rfl ?_
  refine J_iconst 0 dX8_advance_76 (by decide) ?_
  obtain ⟨hf, h⟩ := h
  refine J_putI fp_RX8_43 dX8_advance_77 rfl hf ?_
  refine J_aload_n 0 dX8_advance_80 rfl rfl ?_
  obtain ⟨hf, h⟩ := h
  refine J_getI fl_RX8_29 dX8_advance_81 hf ?_
  refine J_aload_n 0 dX8_advance_84 rfl rfl ?_
  obtain ⟨hf, h⟩ := h
  refine J_getI fl_RX8_19 dX8_advance_85 hf ?_
  refine J_icmp_lt 105 dX8_advance_88 (by decide) (fun hc => ?_) (fun hc => ?_)
  · have h := h.1 hc
    refine J_aload_n 0 dX8_advance_105 rfl rfl ?_
    obtain ⟨r_1, hf, h⟩ := h
    refine J_getR fl_RX8_7 dX8_advance_106 hf ?_
    refine J_aload_n 0 dX8_advance_109 rfl rfl ?_
    obtain ⟨hf, h⟩ := h
    refine J_getI fl_RX8_29 dX8_advance_110 hf ?_
    obtain ⟨hi, h⟩ := h
    refine J_iald dX8_advance_113 hi ?_
    refine J_istore_n _ dX8_advance_114 rfl (by decide) rfl ?_
    refine J_aload_n 1 dX8_advance_115 rfl rfl ?_
    refine J_aload_n 1 dX8_advance_116 rfl rfl ?_
    obtain ⟨hf, h⟩ := h
    refine J_getI fl_RX8_29 dX8_advance_117 hf ?_
    refine J_iconst 1 dX8_advance_120 (by decide) ?_
    refine J_iadd dX8_advance_121 ?_
    obtain ⟨hf, h⟩ := h
    refine J_putI fp_RX8_23 dX8_advance_122 rfl hf ?_
    refine J_iload_n 0 dX8_advance_125 rfl rfl ?_
    refine J_csi (As := [_]) md_X8_isLetter k_307 rfl rfl ⟨Nat.le_of_ble_eq_true rfl, Nat.le_of_ble_eq_true rfl⟩ ⟨Nat.le_of_ble_eq_true rfl, Nat.le_of_ble_eq_true rfl⟩ (Nat.le_of_ble_eq_true rfl) dX8_advance_126 (ct_X8_isLetter  h) (fun z_2 st_3 h => ?_)
    refine J_if_eq 139 dX8_advance_129 (by decide) (fun hc => ?_) (fun hc => ?_)
    · have h := h.1 hc
      refine J_iload_n 0 dX8_advance_139 rfl rfl ?_
      refine J_csi (As := [_]) md_X8_isDigit k_316 rfl rfl ⟨Nat.le_of_ble_eq_true rfl, Nat.le_of_ble_eq_true rfl⟩ ⟨Nat.le_of_ble_eq_true rfl, Nat.le_of_ble_eq_true rfl⟩ (Nat.le_of_ble_eq_true rfl) dX8_advance_140 (ct_X8_isDigit  h) (fun z_4 st_5 h => ?_)
      refine J_if_eq 153 dX8_advance_143 (by decide) (fun hc => ?_) (fun hc => ?_)
      · have h := h.1 hc
        refine J_ldS ld_RX8_62 dX8_advance_153 ?_
        refine J_iload_n 0 dX8_advance_155 rfl rfl ?_
        refine J_i2c dX8_advance_156 ?_
        obtain ⟨ho, h⟩ := h
        refine J_cvi (As := [_]) md_J0_indexOf_0f7a4 k_378 (rc_str ho) rfl rfl ⟨Nat.le_of_ble_eq_true rfl, Nat.le_of_ble_eq_true rfl⟩ ⟨Nat.le_of_ble_eq_true rfl, Nat.le_of_ble_eq_true rfl⟩ (Nat.le_of_ble_eq_true rfl) dX8_advance_157 (ct_J0_indexOf_0f7a4  h) (fun z_6 st_7 h => ?_)
        refine J_if_lt 176 dX8_advance_160 (by decide) (fun hc => ?_) (fun hc => ?_)
        · have h := h.1 hc
          refine J_aload_n 1 dX8_advance_176 rfl rfl ?_
          refine J_iconst 4 dX8_advance_177 (by decide) ?_
          obtain ⟨hf, h⟩ := h
          refine J_putI fp_RX8_46 dX8_advance_178 rfl hf ?_
          exact J_lv [1] rfl (K_X8_advance_181   a0  (sI st_7 a0 3 4) h)
        · have h := h.2 hc
          refine J_aload_n 1 dX8_advance_163 rfl rfl ?_
          refine J_iconst 3 dX8_advance_164 (by decide) ?_
          obtain ⟨hf, h⟩ := h
          refine J_putI fp_RX8_46 dX8_advance_165 rfl hf ?_
          refine J_aload_n 1 dX8_advance_168 rfl rfl ?_
          refine J_iload_n 0 dX8_advance_169 rfl rfl ?_
          obtain ⟨hf, h⟩ := h
          refine J_putI fp_RX8_43 dX8_advance_170 rfl hf ?_
          refine J_goto 181 dX8_advance_173 (by decide) ?_
          exact J_lv [1] rfl (K_X8_advance_181   a0  (sI (sI st_7 a0 3 3) a0 8 (gA (sI (sI (sI (sR st a0 7 none) a0 5 0) a0 6 0) a0 8 0) r_1 (gI (sI (sI (sI (sR st a0 7 none) a0 5 0) a0 6 0) a0 8 0) a0 4 : Int32).toNatClampNeg)) h)
      · have h := h.2 hc
        refine J_aload_n 1 dX8_advance_146 rfl rfl ?_
        obtain ⟨ho, h⟩ := h
        refine J_cvv (As := []) md_X8_takeNumber k_375 (rc_obj cl_8 ho) rfl rfl ⟨Nat.le_of_ble_eq_true rfl, Nat.le_of_ble_eq_true rfl⟩ ⟨Nat.le_of_ble_eq_true rfl, Nat.le_of_ble_eq_true rfl⟩ (Nat.le_of_ble_eq_true rfl) dX8_advance_147 (ct_X8_takeNumber  h) (fun st_9 h => ?_)
        refine J_goto 181 dX8_advance_150 (by decide) ?_
        exact J_lv [1] rfl (K_X8_advance_181   a0  st_9 h)
    · have h := h.2 hc
      refine J_aload_n 1 dX8_advance_132 rfl rfl ?_
      obtain ⟨ho, h⟩ := h
      refine J_cvv (As := []) md_X8_takeWord k_372 (rc_obj cl_8 ho) rfl rfl ⟨Nat.le_of_ble_eq_true rfl, Nat.le_of_ble_eq_true rfl⟩ ⟨Nat.le_of_ble_eq_true rfl, Nat.le_of_ble_eq_true rfl⟩ (Nat.le_of_ble_eq_true rfl) dX8_advance_133 (ct_X8_takeWord  h) (fun st_11 h => ?_)
      refine J_goto 181 dX8_advance_136 (by decide) ?_
      exact J_lv [1] rfl (K_X8_advance_181   a0  st_11 h)
  · have h := h.2 hc
    refine J_aload_n 0 dX8_advance_91 rfl rfl ?_
    refine J_iconst 0 dX8_advance_92 (by decide) ?_
    obtain ⟨hf, h⟩ := h
    refine J_putI fp_RX8_46 dX8_advance_93 rfl hf ?_
    refine J_aload_n 0 dX8_advance_96 rfl rfl ?_
    refine J_aload_n 0 dX8_advance_97 rfl rfl ?_
    obtain ⟨hf, h⟩ := h
    refine J_getI fl_RX8_29 dX8_advance_98 hf ?_
    obtain ⟨hf, h⟩ := h
    refine J_putI fp_RX8_23 dX8_advance_101 rfl hf ?_
    exact J_retv rfl dX8_advance_104 h
set_option maxRecDepth 100000 in
set_option maxHeartbeats 4000000 in
theorem K_X8_advance_47 {l : Launch} {E : En}   (a0 : Nat) {k8 : St → Prop} {post : St → Prop}  (hk8 : ∀  (st : St), k8  st → Jg l E (CFc E) (Rm 8 0 0) cX8_advance 2 RX8 none (fun _ => True) (QV E post 0 0) 0 0 8 [(0, .ref a0)] [] st)  (st : St) (h : P_X8_advance_47  a0 k8 post  st) : Jg l E (CFc E) (Rm 8 0 0) cX8_advance 2 RX8 none (fun _ => True) (QV E post 0 0) 0 0 47 [(0, .ref a0)] [] st := by
  unfold P_X8_advance_47 at h
  refine J_aload_n 0 dX8_advance_47 rfl rfl ?_
  refine J_dup dX8_advance_48 rfl ?_
  obtain ⟨hf, h⟩ := h
  refine J_getI fl_RX8_29 dX8_advance_49 hf ?_
  refine J_iconst 1 dX8_advance_52 (by decide) ?_
  refine J_iadd dX8_advance_53 ?_
  obtain ⟨hf, h⟩ := h
  refine J_putI fp_RX8_29 dX8_advance_54 rfl hf ?_
  refine J_goto 8 dX8_advance_57 (by decide) ?_
  exact J_lv [0] rfl (hk8 (sI st a0 4 ((gI st a0 4) + 1)) h)
set_option maxRecDepth 100000 in
set_option maxHeartbeats 4000000 in
theorem K_X8_advance_8 {l : Launch} {E : En}   (a0 : Nat)  {post : St → Prop}   : ∀ (n9 : Nat)  (st : St), P_X8_advance_8  a0  post n9  st → Jg l E (CFc E) (Rm 8 0 0) cX8_advance 2 RX8 none (fun _ => True) (QV E post 0 0) 0 0 8 [(0, .ref a0)] [] st := by
  intro n9
  induction n9 with
  | zero => intro  st h; exact h.elim
  | succ n9 ih =>
    intro  st h
    unfold P_X8_advance_8 at h
    refine J_aload_n 0 dX8_advance_8 rfl rfl ?_
    obtain ⟨hf, h⟩ := h
    refine J_getI fl_RX8_29 dX8_advance_9 hf ?_
    refine J_aload_n 0 dX8_advance_12 rfl rfl ?_
    obtain ⟨hf, h⟩ := h
    refine J_getI fl_RX8_19 dX8_advance_13 hf ?_
    refine J_icmp_ge 60 dX8_advance_16 (by decide) (fun hc => ?_) (fun hc => ?_)
    · have h := h.1 hc
      exact J_lv [0] rfl (K_X8_advance_60   a0  st h)
    · have h := h.2 hc
      refine J_aload_n 0 dX8_advance_19 rfl rfl ?_
      obtain ⟨r_1, hf, h⟩ := h
      refine J_getR fl_RX8_7 dX8_advance_20 hf ?_
      refine J_aload_n 0 dX8_advance_23 rfl rfl ?_
      obtain ⟨hf, h⟩ := h
      refine J_getI fl_RX8_29 dX8_advance_24 hf ?_
      obtain ⟨hi, h⟩ := h
      refine J_iald dX8_advance_27 hi ?_
      refine J_bipush 32 dX8_advance_28 (by decide) ?_
      refine J_icmp_eq 47 dX8_advance_30 (by decide) (fun hc => ?_) (fun hc => ?_)
      · have h := h.1 hc
        exact J_lv [0] rfl (K_X8_advance_47   a0 (fun st h => ih st h) st h)
      · have h := h.2 hc
        refine J_aload_n 0 dX8_advance_33 rfl rfl ?_
        obtain ⟨r_2, hf, h⟩ := h
        refine J_getR fl_RX8_7 dX8_advance_34 hf ?_
        refine J_aload_n 0 dX8_advance_37 rfl rfl ?_
        obtain ⟨hf, h⟩ := h
        refine J_getI fl_RX8_29 dX8_advance_38 hf ?_
        obtain ⟨hi, h⟩ := h
        refine J_iald dX8_advance_41 hi ?_
        refine J_bipush 10 dX8_advance_42 (by decide) ?_
        refine J_icmp_ne 60 dX8_advance_44 (by decide) (fun hc => ?_) (fun hc => ?_)
        · have h := h.1 hc
          exact J_lv [0] rfl (K_X8_advance_60   a0  st h)
        · have h := h.2 hc
          exact J_lv [0] rfl (K_X8_advance_47   a0 (fun st h => ih st h) st h)
set_option maxRecDepth 100000 in
set_option maxHeartbeats 4000000 in
theorem ct_X8_advance {l : Launch} {E : En}  {a0 : Nat} {st : St} {post : St → Prop} (h : P_X8_advance  a0 st post) : CtV l E (CFc E) 8 0 0 yX8_advance cX8_advance 2 none [.ref a0] st post := by
  refine ctV_of (by decide) (Nat.le_of_ble_eq_true rfl) ?_
  show Jg l E (CFc E) (Rm 8 0 0) cX8_advance 2 RX8 none (fun _ => True) (QV E post 0 0) 0 0 0 [(0, .ref a0)] [] st
  unfold P_X8_advance at h
  refine J_aload_n 0 dX8_advance_0 rfl rfl ?_
  refine J_aload_n 0 dX8_advance_1 rfl rfl ?_
  obtain ⟨hf, h⟩ := h
  refine J_getI fl_RX8_23 dX8_advance_2 hf ?_
  obtain ⟨hf, h⟩ := h
  refine J_putI fp_RX8_29 dX8_advance_5 rfl hf ?_
  obtain ⟨n8, h⟩ := h
  exact J_lv [0] rfl (K_X8_advance_8   a0  n8 (sI st a0 4 (gI st a0 2)) h)
/-! X4_takeNumber -/
def P_X4_takeNumber_31  (a0 : Nat) (a1 : Int32) (a2 : Int32)  (post : Int32 → St → Prop)  (st : St) : Prop := oC a0 4 ∧ P_X4_refuseToken  a0 2 st (fun z_1 st_2 => (z_1 = 0 ∨ z_1 = 1) ∧ post z_1 st_2)
def P_X4_takeNumber  (a0 : Nat) (a1 : Int32) (a2 : Int32) (st : St) (post : Int32 → St → Prop) : Prop := oC a0 4 ∧ P_X4_isNumber  a0 st (fun z_1 st_2 => ((¬ z_1 = 0 → ∃ r_3, rv st_2 a0 4 0 = some r_3 ∧ fk r_3 8 5 = some 0 ∧ (((gI st_2 r_3 5) < a1 → P_X4_takeNumber_31  a0 a1 a2  post st_2) ∧ (¬ (gI st_2 r_3 5) < a1 → ∃ r_4, rv st_2 a0 4 0 = some r_4 ∧ fk r_4 8 5 = some 0 ∧ (((gI st_2 r_4 5) ≤ a2 → ∃ r_5, rv st_2 a0 4 0 = some r_5 ∧ fk r_5 8 5 = some 0 ∧ fk a0 4 5 = some 0 ∧ ∃ r_6, rv (sI st_2 a0 5 (gI st_2 r_5 5)) a0 4 0 = some r_6 ∧ oC r_6 8 ∧ P_X8_advance  r_6 (sI st_2 a0 5 (gI st_2 r_5 5)) (fun st_8 => post 1 st_8)) ∧ (¬ (gI st_2 r_4 5) ≤ a2 → P_X4_takeNumber_31  a0 a1 a2  post st_2))))) ∧ (z_1 = 0 → post 0 st_2)))
set_option maxRecDepth 100000 in
set_option maxHeartbeats 4000000 in
theorem K_X4_takeNumber_31 {l : Launch} {E : En}   (a0 : Nat) (a1 : Int32) (a2 : Int32)  {post : Int32 → St → Prop}    (st : St) (h : P_X4_takeNumber_31  a0 a1 a2  post  st) : Jg l E (CFc E) (Rm 9 0 0) cX4_takeNumber 3 RX4 (some .boolean) (fun _ => True) (QI E post 0 0) 0 0 31 [(0, .ref a0), (1, .int a1), (2, .int a2)] [] st := by
  unfold P_X4_takeNumber_31 at h
  refine J_aload_n 0 dX4_takeNumber_31 rfl rfl ?_
  refine J_iconst 2 dX4_takeNumber_32 (by decide) ?_
  obtain ⟨ho, h⟩ := h
  refine J_cvi (As := [_]) md_X4_refuseToken k_392 (rc_obj cl_4 ho) rfl rfl ⟨Nat.le_of_ble_eq_true rfl, Nat.le_of_ble_eq_true rfl⟩ ⟨Nat.le_of_ble_eq_true rfl, Nat.le_of_ble_eq_true rfl⟩ (Nat.le_of_ble_eq_true rfl) dX4_takeNumber_33 (ct_X4_refuseToken  h) (fun z_1 st_2 h => ?_)
  exact J_retz rfl h.1 dX4_takeNumber_36 h.2
set_option maxRecDepth 100000 in
set_option maxHeartbeats 4000000 in
theorem ct_X4_takeNumber {l : Launch} {E : En}  {a0 : Nat} {a1 : Int32} {a2 : Int32} {st : St} {post : Int32 → St → Prop} (h : P_X4_takeNumber  a0 a1 a2 st post) : CtI l E (CFc E) 9 0 0 yX4_takeNumber cX4_takeNumber 3 (some .boolean) [.ref a0, .int a1, .int a2] st post := by
  refine ctI_of (by decide) (Nat.le_of_ble_eq_true rfl) ?_
  show Jg l E (CFc E) (Rm 9 0 0) cX4_takeNumber 3 RX4 (some .boolean) (fun _ => True) (QI E post 0 0) 0 0 0 [(0, .ref a0), (1, .int a1), (2, .int a2)] [] st
  unfold P_X4_takeNumber at h
  refine J_aload_n 0 dX4_takeNumber_0 rfl rfl ?_
  obtain ⟨ho, h⟩ := h
  refine J_cvi (As := []) md_X4_isNumber k_398 (rc_obj cl_4 ho) rfl rfl ⟨Nat.le_of_ble_eq_true rfl, Nat.le_of_ble_eq_true rfl⟩ ⟨Nat.le_of_ble_eq_true rfl, Nat.le_of_ble_eq_true rfl⟩ (Nat.le_of_ble_eq_true rfl) dX4_takeNumber_1 (ct_X4_isNumber  h) (fun z_1 st_2 h => ?_)
  refine J_if_ne 9 dX4_takeNumber_4 (by decide) (fun hc => ?_) (fun hc => ?_)
  · have h := h.1 hc
    refine J_aload_n 0 dX4_takeNumber_9 rfl rfl ?_
    obtain ⟨r_3, hf, h⟩ := h
    refine J_getR fl_RX4_14 dX4_takeNumber_10 hf ?_
    obtain ⟨hf, h⟩ := h
    refine J_getI fl_RX4_143 dX4_takeNumber_13 hf ?_
    refine J_iload_n 1 dX4_takeNumber_16 rfl rfl ?_
    refine J_icmp_lt 31 dX4_takeNumber_17 (by decide) (fun hc => ?_) (fun hc => ?_)
    · have h := h.1 hc
      exact J_lv [0, 1, 2] rfl (K_X4_takeNumber_31   a0 a1 a2  st_2 h)
    · have h := h.2 hc
      refine J_aload_n 0 dX4_takeNumber_20 rfl rfl ?_
      obtain ⟨r_4, hf, h⟩ := h
      refine J_getR fl_RX4_14 dX4_takeNumber_21 hf ?_
      obtain ⟨hf, h⟩ := h
      refine J_getI fl_RX4_143 dX4_takeNumber_24 hf ?_
      refine J_iload_n 2 dX4_takeNumber_27 rfl rfl ?_
      refine J_icmp_le 37 dX4_takeNumber_28 (by decide) (fun hc => ?_) (fun hc => ?_)
      · have h := h.1 hc
        refine J_aload_n 0 dX4_takeNumber_37 rfl rfl ?_
        refine J_aload_n 0 dX4_takeNumber_38 rfl rfl ?_
        obtain ⟨r_5, hf, h⟩ := h
        refine J_getR fl_RX4_14 dX4_takeNumber_39 hf ?_
        obtain ⟨hf, h⟩ := h
        refine J_getI fl_RX4_143 dX4_takeNumber_42 hf ?_
        obtain ⟨hf, h⟩ := h
        refine J_putI fp_RX4_114 dX4_takeNumber_45 rfl hf ?_
        refine J_aload_n 0 dX4_takeNumber_48 rfl rfl ?_
        obtain ⟨r_6, hf, h⟩ := h
        refine J_getR fl_RX4_14 dX4_takeNumber_49 hf ?_
        obtain ⟨ho, h⟩ := h
        refine J_cvv (As := []) md_X8_advance k_401 (rc_obj cl_8 ho) rfl rfl ⟨Nat.le_of_ble_eq_true rfl, Nat.le_of_ble_eq_true rfl⟩ ⟨Nat.le_of_ble_eq_true rfl, Nat.le_of_ble_eq_true rfl⟩ (Nat.le_of_ble_eq_true rfl) dX4_takeNumber_52 (ct_X8_advance  h) (fun st_8 h => ?_)
        refine J_iconst 1 dX4_takeNumber_55 (by decide) ?_
        exact J_retz rfl (Or.inr rfl) dX4_takeNumber_56 h
      · have h := h.2 hc
        exact J_lv [0, 1, 2] rfl (K_X4_takeNumber_31   a0 a1 a2  st_2 h)
  · have h := h.2 hc
    refine J_iconst 0 dX4_takeNumber_7 (by decide) ?_
    exact J_retz rfl (Or.inl rfl) dX4_takeNumber_8 h
/-! X4_takeKnown -/
def P_X4_takeKnown  (a0 : Nat) (a1 : Int32) (st : St) (post : Int32 → St → Prop) : Prop := oC a0 4 ∧ P_X4_isKnown  a0 a1 st (fun z_1 st_2 => ((¬ z_1 = 0 → ∃ r_3, rv st_2 a0 4 0 = some r_3 ∧ fk r_3 8 5 = some 0 ∧ fk a0 4 5 = some 0 ∧ ∃ r_4, rv (sI st_2 a0 5 (gI st_2 r_3 5)) a0 4 0 = some r_4 ∧ oC r_4 8 ∧ P_X8_advance  r_4 (sI st_2 a0 5 (gI st_2 r_3 5)) (fun st_6 => post 1 st_6)) ∧ (z_1 = 0 → post 0 st_2)))
set_option maxRecDepth 100000 in
set_option maxHeartbeats 4000000 in
theorem ct_X4_takeKnown {l : Launch} {E : En}  {a0 : Nat} {a1 : Int32} {st : St} {post : Int32 → St → Prop} (h : P_X4_takeKnown  a0 a1 st post) : CtI l E (CFc E) 9 0 0 yX4_takeKnown cX4_takeKnown 2 (some .boolean) [.ref a0, .int a1] st post := by
  refine ctI_of (by decide) (Nat.le_of_ble_eq_true rfl) ?_
  show Jg l E (CFc E) (Rm 9 0 0) cX4_takeKnown 2 RX4 (some .boolean) (fun _ => True) (QI E post 0 0) 0 0 0 [(0, .ref a0), (1, .int a1)] [] st
  unfold P_X4_takeKnown at h
  refine J_aload_n 0 dX4_takeKnown_0 rfl rfl ?_
  refine J_iload_n 1 dX4_takeKnown_1 rfl rfl ?_
  obtain ⟨ho, h⟩ := h
  refine J_cvi (As := [_]) md_X4_isKnown k_425 (rc_obj cl_4 ho) rfl rfl ⟨Nat.le_of_ble_eq_true rfl, Nat.le_of_ble_eq_true rfl⟩ ⟨Nat.le_of_ble_eq_true rfl, Nat.le_of_ble_eq_true rfl⟩ (Nat.le_of_ble_eq_true rfl) dX4_takeKnown_2 (ct_X4_isKnown  h) (fun z_1 st_2 h => ?_)
  refine J_if_ne 10 dX4_takeKnown_5 (by decide) (fun hc => ?_) (fun hc => ?_)
  · have h := h.1 hc
    refine J_aload_n 0 dX4_takeKnown_10 rfl rfl ?_
    refine J_aload_n 0 dX4_takeKnown_11 rfl rfl ?_
    obtain ⟨r_3, hf, h⟩ := h
    refine J_getR fl_RX4_14 dX4_takeKnown_12 hf ?_
    obtain ⟨hf, h⟩ := h
    refine J_getI fl_RX4_143 dX4_takeKnown_15 hf ?_
    obtain ⟨hf, h⟩ := h
    refine J_putI fp_RX4_114 dX4_takeKnown_18 rfl hf ?_
    refine J_aload_n 0 dX4_takeKnown_21 rfl rfl ?_
    obtain ⟨r_4, hf, h⟩ := h
    refine J_getR fl_RX4_14 dX4_takeKnown_22 hf ?_
    obtain ⟨ho, h⟩ := h
    refine J_cvv (As := []) md_X8_advance k_401 (rc_obj cl_8 ho) rfl rfl ⟨Nat.le_of_ble_eq_true rfl, Nat.le_of_ble_eq_true rfl⟩ ⟨Nat.le_of_ble_eq_true rfl, Nat.le_of_ble_eq_true rfl⟩ (Nat.le_of_ble_eq_true rfl) dX4_takeKnown_25 (ct_X8_advance  h) (fun st_6 h => ?_)
    refine J_iconst 1 dX4_takeKnown_28 (by decide) ?_
    exact J_retz rfl (Or.inr rfl) dX4_takeKnown_29 h
  · have h := h.2 hc
    refine J_iconst 0 dX4_takeKnown_8 (by decide) ?_
    exact J_retz rfl (Or.inl rfl) dX4_takeKnown_9 h
/-! X4_takeSign -/
def P_X4_takeSign  (a0 : Nat) (a1 : Int32) (st : St) (post : Int32 → St → Prop) : Prop := ∃ r_1, rv st a0 4 0 = some r_1 ∧ fk r_1 8 8 = some 0 ∧ (((gI st r_1 8) = a1 → ∃ r_2, rv st a0 4 0 = some r_2 ∧ oC r_2 8 ∧ P_X8_advance  r_2 st (fun st_4 => post 1 st_4)) ∧ (¬ (gI st r_1 8) = a1 → oC a0 4 ∧ P_X4_refuseToken  a0 1 st (fun z_5 st_6 => (z_5 = 0 ∨ z_5 = 1) ∧ post z_5 st_6)))
set_option maxRecDepth 100000 in
set_option maxHeartbeats 4000000 in
theorem ct_X4_takeSign {l : Launch} {E : En}  {a0 : Nat} {a1 : Int32} {st : St} {post : Int32 → St → Prop} (h : P_X4_takeSign  a0 a1 st post) : CtI l E (CFc E) 9 0 0 yX4_takeSign cX4_takeSign 2 (some .boolean) [.ref a0, .int a1] st post := by
  refine ctI_of (by decide) (Nat.le_of_ble_eq_true rfl) ?_
  show Jg l E (CFc E) (Rm 9 0 0) cX4_takeSign 2 RX4 (some .boolean) (fun _ => True) (QI E post 0 0) 0 0 0 [(0, .ref a0), (1, .int a1)] [] st
  unfold P_X4_takeSign at h
  refine J_aload_n 0 dX4_takeSign_0 rfl rfl ?_
  obtain ⟨r_1, hf, h⟩ := h
  refine J_getR fl_RX4_14 dX4_takeSign_1 hf ?_
  obtain ⟨hf, h⟩ := h
  refine J_getI fl_RX4_170 dX4_takeSign_4 hf ?_
  refine J_iload_n 1 dX4_takeSign_7 rfl rfl ?_
  refine J_icmp_eq 17 dX4_takeSign_8 (by decide) (fun hc => ?_) (fun hc => ?_)
  · have h := h.1 hc
    refine J_aload_n 0 dX4_takeSign_17 rfl rfl ?_
    obtain ⟨r_2, hf, h⟩ := h
    refine J_getR fl_RX4_14 dX4_takeSign_18 hf ?_
    obtain ⟨ho, h⟩ := h
    refine J_cvv (As := []) md_X8_advance k_401 (rc_obj cl_8 ho) rfl rfl ⟨Nat.le_of_ble_eq_true rfl, Nat.le_of_ble_eq_true rfl⟩ ⟨Nat.le_of_ble_eq_true rfl, Nat.le_of_ble_eq_true rfl⟩ (Nat.le_of_ble_eq_true rfl) dX4_takeSign_21 (ct_X8_advance  h) (fun st_4 h => ?_)
    refine J_iconst 1 dX4_takeSign_24 (by decide) ?_
    exact J_retz rfl (Or.inr rfl) dX4_takeSign_25 h
  · have h := h.2 hc
    refine J_aload_n 0 dX4_takeSign_11 rfl rfl ?_
    refine J_iconst 1 dX4_takeSign_12 (by decide) ?_
    obtain ⟨ho, h⟩ := h
    refine J_cvi (As := [_]) md_X4_refuseToken k_392 (rc_obj cl_4 ho) rfl rfl ⟨Nat.le_of_ble_eq_true rfl, Nat.le_of_ble_eq_true rfl⟩ ⟨Nat.le_of_ble_eq_true rfl, Nat.le_of_ble_eq_true rfl⟩ (Nat.le_of_ble_eq_true rfl) dX4_takeSign_13 (ct_X4_refuseToken  h) (fun z_5 st_6 h => ?_)
    exact J_retz rfl h.1 dX4_takeSign_16 h.2
/-! X4_readPart -/
def P_X4_readPart_120 (rc_X4_readEither : Nat → Int32 → St → (Int32 → St → Prop) → Prop) (a0 : Nat) (a1 : Int32)  (post : Int32 → St → Prop)  (st : St) : Prop := ∃ r_1, rv st a0 4 0 = some r_1 ∧ oC r_1 8 ∧ P_X8_advance  r_1 st (fun st_3 => post 1 st_3)
def P_X4_readPart_43 (rc_X4_readEither : Nat → Int32 → St → (Int32 → St → Prop) → Prop) (a0 : Nat) (a1 : Int32)  (post : Int32 → St → Prop) (s0 : Int32) (st : St) : Prop := (s0 = 0 ∨ s0 = 1) ∧ post s0 st
def P_X4_readPart_42 (rc_X4_readEither : Nat → Int32 → St → (Int32 → St → Prop) → Prop) (a0 : Nat) (a1 : Int32)  (post : Int32 → St → Prop)  (st : St) : Prop := P_X4_readPart_43 rc_X4_readEither a0 a1  post 0 st
def P_X4_readPart (rc_X4_readEither : Nat → Int32 → St → (Int32 → St → Prop) → Prop) (a0 : Nat) (a1 : Int32) (st : St) (post : Int32 → St → Prop) : Prop := ∃ r_1, rv st a0 4 0 = some r_1 ∧ fk r_1 8 8 = some 0 ∧ ((¬ (gI st r_1 8) = 40 → ∃ r_2, rv st a0 4 0 = some r_2 ∧ fk r_2 8 3 = some 0 ∧ ((¬ (gI st r_2 3) = 1 → oC a0 4 ∧ P_X4_isNumber  a0 st (fun z_3 st_4 => ((¬ z_3 = 0 → ∃ r_5, rv st_4 a0 4 2 = some r_5 ∧ ∃ r_6, rv st_4 a0 4 0 = some r_6 ∧ fk r_6 8 5 = some 0 ∧ oC r_5 5 ∧ P_X5_add  r_5 (gI st_4 r_6 5) st_4 (fun st_8 => P_X4_readPart_120 rc_X4_readEither a0 a1  post st_8)) ∧ (z_3 = 0 → post 0 st_4)))) ∧ ((gI st r_2 3) = 1 → ∃ r_9, rv st a0 4 0 = some r_9 ∧ fk r_9 8 7 = some 1 ∧ oC a0 4 ∧ P_X4_isValue  a0 (gR st r_9 7) st (fun z_10 st_11 => ((¬ z_10 = 0 → ∃ r_12, rv st_11 a0 4 2 = some r_12 ∧ ∃ r_13, rv st_11 a0 4 0 = some r_13 ∧ fk r_13 8 7 = some 1 ∧ ∃ i_14, (gR st_11 r_13 7) = some i_14 ∧ enOk i_14 ∧ oC r_12 5 ∧ P_X5_add  r_12 ((-1) - (vaL.getD (i_14 - 1000) 0)) st_11 (fun st_16 => P_X4_readPart_120 rc_X4_readEither a0 a1  post st_16)) ∧ (z_10 = 0 → oC a0 4 ∧ P_X4_refuseToken  a0 3 st_11 (fun z_17 st_18 => (z_17 = 0 ∨ z_17 = 1) ∧ post z_17 st_18))))))) ∧ ((gI st r_1 8) = 40 → ∃ r_19, rv st a0 4 0 = some r_19 ∧ oC r_19 8 ∧ P_X8_advance  r_19 st (fun st_21 => oC a0 4 ∧ rc_X4_readEither a0 (a1 + 1) st_21 (fun z_22 st_23 => ((z_22 = 0 → P_X4_readPart_42 rc_X4_readEither a0 a1  post st_23) ∧ (¬ z_22 = 0 → oC a0 4 ∧ P_X4_takeSign  a0 41 st_23 (fun z_24 st_25 => ((z_24 = 0 → P_X4_readPart_42 rc_X4_readEither a0 a1  post st_25) ∧ (¬ z_24 = 0 → P_X4_readPart_43 rc_X4_readEither a0 a1  post 1 st_25)))))))))
set_option maxRecDepth 100000 in
set_option maxHeartbeats 4000000 in
theorem K_X4_readPart_120 {l : Launch} {E : En}  {L0 : Nat} (hL0 : 16 ≤ L0) {rc_X4_readEither : Nat → Int32 → St → (Int32 → St → Prop) → Prop} (hrc_X4_readEither : ∀ {b0 : Nat} {b1 : Int32} {st : St} {post : Int32 → St → Prop}, rc_X4_readEither b0 b1 st post → CtI l E (CFc E) L0 0 0 yX4_readEither cX4_readEither 4 (some .boolean) [.ref b0, .int b1] st post) (a0 : Nat) (a1 : Int32)  {post : Int32 → St → Prop}    (st : St) (h : P_X4_readPart_120 rc_X4_readEither a0 a1  post  st) : Jg l E (CFc E) (Rm (L0 + 1) 0 0) cX4_readPart 2 RX4 (some .boolean) (fun _ => True) (QI E post 0 0) 0 0 120 [(0, .ref a0), (1, .int a1)] [] st := by
  unfold P_X4_readPart_120 at h
  refine J_aload_n 0 dX4_readPart_120 rfl rfl ?_
  obtain ⟨r_1, hf, h⟩ := h
  refine J_getR fl_RX4_14 dX4_readPart_121 hf ?_
  obtain ⟨ho, h⟩ := h
  refine J_cvv (As := []) md_X8_advance k_401 (rc_obj cl_8 ho) rfl rfl ⟨(by simp only [Rm]; omega), (by simp only [Rm]; omega)⟩ ⟨Nat.le_refl _, Nat.le_refl _⟩ (Nat.le_of_ble_eq_true rfl) dX4_readPart_124 (ct_X8_advance  h) (fun st_3 h => ?_)
  refine J_iconst 1 dX4_readPart_127 (by decide) ?_
  exact J_retz rfl (Or.inr rfl) dX4_readPart_128 h
set_option maxRecDepth 100000 in
set_option maxHeartbeats 4000000 in
theorem K_X4_readPart_43 {l : Launch} {E : En}  {L0 : Nat} (hL0 : 16 ≤ L0) {rc_X4_readEither : Nat → Int32 → St → (Int32 → St → Prop) → Prop} (hrc_X4_readEither : ∀ {b0 : Nat} {b1 : Int32} {st : St} {post : Int32 → St → Prop}, rc_X4_readEither b0 b1 st post → CtI l E (CFc E) L0 0 0 yX4_readEither cX4_readEither 4 (some .boolean) [.ref b0, .int b1] st post) (a0 : Nat) (a1 : Int32)  {post : Int32 → St → Prop}   (s0 : Int32) (st : St) (h : P_X4_readPart_43 rc_X4_readEither a0 a1  post s0 st) : Jg l E (CFc E) (Rm (L0 + 1) 0 0) cX4_readPart 2 RX4 (some .boolean) (fun _ => True) (QI E post 0 0) 0 0 43 [(0, .ref a0), (1, .int a1)] [.int s0] st := by
  unfold P_X4_readPart_43 at h
  exact J_retz rfl h.1 dX4_readPart_43 h.2
set_option maxRecDepth 100000 in
set_option maxHeartbeats 4000000 in
theorem K_X4_readPart_42 {l : Launch} {E : En}  {L0 : Nat} (hL0 : 16 ≤ L0) {rc_X4_readEither : Nat → Int32 → St → (Int32 → St → Prop) → Prop} (hrc_X4_readEither : ∀ {b0 : Nat} {b1 : Int32} {st : St} {post : Int32 → St → Prop}, rc_X4_readEither b0 b1 st post → CtI l E (CFc E) L0 0 0 yX4_readEither cX4_readEither 4 (some .boolean) [.ref b0, .int b1] st post) (a0 : Nat) (a1 : Int32)  {post : Int32 → St → Prop}    (st : St) (h : P_X4_readPart_42 rc_X4_readEither a0 a1  post  st) : Jg l E (CFc E) (Rm (L0 + 1) 0 0) cX4_readPart 2 RX4 (some .boolean) (fun _ => True) (QI E post 0 0) 0 0 42 [(0, .ref a0), (1, .int a1)] [] st := by
  unfold P_X4_readPart_42 at h
  refine J_iconst 0 dX4_readPart_42 (by decide) ?_
  exact J_lv [0, 1] rfl (K_X4_readPart_43  hL0 hrc_X4_readEither a0 a1  0 st h)
set_option maxRecDepth 100000 in
set_option maxHeartbeats 4000000 in
theorem ct_X4_readPart {l : Launch} {E : En} {L0 : Nat} (hL0 : 16 ≤ L0) {rc_X4_readEither : Nat → Int32 → St → (Int32 → St → Prop) → Prop} (hrc_X4_readEither : ∀ {b0 : Nat} {b1 : Int32} {st : St} {post : Int32 → St → Prop}, rc_X4_readEither b0 b1 st post → CtI l E (CFc E) L0 0 0 yX4_readEither cX4_readEither 4 (some .boolean) [.ref b0, .int b1] st post) {a0 : Nat} {a1 : Int32} {st : St} {post : Int32 → St → Prop} (h : P_X4_readPart rc_X4_readEither a0 a1 st post) : CtI l E (CFc E) (L0 + 1) 0 0 yX4_readPart cX4_readPart 2 (some .boolean) [.ref a0, .int a1] st post := by
  refine ctI_of (by decide) (Nat.le_of_ble_eq_true rfl) ?_
  show Jg l E (CFc E) (Rm (L0 + 1) 0 0) cX4_readPart 2 RX4 (some .boolean) (fun _ => True) (QI E post 0 0) 0 0 0 [(0, .ref a0), (1, .int a1)] [] st
  unfold P_X4_readPart at h
  refine J_aload_n 0 dX4_readPart_0 rfl rfl ?_
  obtain ⟨r_1, hf, h⟩ := h
  refine J_getR fl_RX4_14 dX4_readPart_1 hf ?_
  obtain ⟨hf, h⟩ := h
  refine J_getI fl_RX4_170 dX4_readPart_4 hf ?_
  refine J_bipush 40 dX4_readPart_7 (by decide) ?_
  refine J_icmp_ne 44 dX4_readPart_9 (by decide) (fun hc => ?_) (fun hc => ?_)
  · have h := h.1 hc
    refine J_aload_n 0 dX4_readPart_44 rfl rfl ?_
    obtain ⟨r_2, hf, h⟩ := h
    refine J_getR fl_RX4_14 dX4_readPart_45 hf ?_
    obtain ⟨hf, h⟩ := h
    refine J_getI fl_RX4_50 dX4_readPart_48 hf ?_
    refine J_iconst 1 dX4_readPart_51 (by decide) ?_
    refine J_icmp_ne 97 dX4_readPart_52 (by decide) (fun hc => ?_) (fun hc => ?_)
    · have h := h.1 hc
      refine J_aload_n 0 dX4_readPart_97 rfl rfl ?_
      obtain ⟨ho, h⟩ := h
      refine J_cvi (As := []) md_X4_isNumber k_398 (rc_obj cl_4 ho) rfl rfl ⟨(by simp only [Rm]; omega), (by simp only [Rm]; omega)⟩ ⟨Nat.le_refl _, Nat.le_refl _⟩ (Nat.le_of_ble_eq_true rfl) dX4_readPart_98 (ct_X4_isNumber  h) (fun z_3 st_4 h => ?_)
      refine J_if_ne 106 dX4_readPart_101 (by decide) (fun hc => ?_) (fun hc => ?_)
      · have h := h.1 hc
        refine J_aload_n 0 dX4_readPart_106 rfl rfl ?_
        obtain ⟨r_5, hf, h⟩ := h
        refine J_getR fl_RX4_36 dX4_readPart_107 hf ?_
        refine J_aload_n 0 dX4_readPart_110 rfl rfl ?_
        obtain ⟨r_6, hf, h⟩ := h
        refine J_getR fl_RX4_14 dX4_readPart_111 hf ?_
        obtain ⟨hf, h⟩ := h
        refine J_getI fl_RX4_143 dX4_readPart_114 hf ?_
        obtain ⟨ho, h⟩ := h
        refine J_cvv (As := [_]) md_X5_add k_448 (rc_obj cl_5 ho) rfl rfl ⟨(by simp only [Rm]; omega), (by simp only [Rm]; omega)⟩ ⟨Nat.le_refl _, Nat.le_refl _⟩ (Nat.le_of_ble_eq_true rfl) dX4_readPart_117 (ct_X5_add  h) (fun st_8 h => ?_)
        exact J_lv [0, 1] rfl (K_X4_readPart_120  hL0 hrc_X4_readEither a0 a1  st_8 h)
      · have h := h.2 hc
        refine J_iconst 0 dX4_readPart_104 (by decide) ?_
        exact J_retz rfl (Or.inl rfl) dX4_readPart_105 h
    · have h := h.2 hc
      refine J_aload_n 0 dX4_readPart_55 rfl rfl ?_
      refine J_aload_n 0 dX4_readPart_56 rfl rfl ?_
      obtain ⟨r_9, hf, h⟩ := h
      refine J_getR fl_RX4_14 dX4_readPart_57 hf ?_
      obtain ⟨hf, h⟩ := h
      refine J_getQ fl_RX4_53 dX4_readPart_60 hf ?_
      obtain ⟨ho, h⟩ := h
      refine J_cvi (As := [_]) md_X4_isValue k_468 (rc_obj cl_4 ho) rfl rfl ⟨(by simp only [Rm]; omega), (by simp only [Rm]; omega)⟩ ⟨Nat.le_refl _, Nat.le_refl _⟩ (Nat.le_of_ble_eq_true rfl) dX4_readPart_63 (ct_X4_isValue  h) (fun z_10 st_11 h => ?_)
      refine J_if_ne 75 dX4_readPart_66 (by decide) (fun hc => ?_) (fun hc => ?_)
      · have h := h.1 hc
        refine J_aload_n 0 dX4_readPart_75 rfl rfl ?_
        obtain ⟨r_12, hf, h⟩ := h
        refine J_getR fl_RX4_36 dX4_readPart_76 hf ?_
        refine J_iconst (-1) dX4_readPart_79 (by decide) ?_
        refine J_aload_n 0 dX4_readPart_80 rfl rfl ?_
        obtain ⟨r_13, hf, h⟩ := h
        refine J_getR fl_RX4_14 dX4_readPart_81 hf ?_
        obtain ⟨hf, h⟩ := h
        refine J_getQ fl_RX4_53 dX4_readPart_84 hf ?_
        obtain ⟨i_14, hx, h⟩ := h
        refine J_some hx ?_
        obtain ⟨hf, h⟩ := h
        refine J_enV k_441 dX4_readPart_87 hf ?_
        refine J_isub dX4_readPart_90 ?_
        obtain ⟨ho, h⟩ := h
        refine J_cvv (As := [_]) md_X5_add k_448 (rc_obj cl_5 ho) rfl rfl ⟨(by simp only [Rm]; omega), (by simp only [Rm]; omega)⟩ ⟨Nat.le_refl _, Nat.le_refl _⟩ (Nat.le_of_ble_eq_true rfl) dX4_readPart_91 (ct_X5_add  h) (fun st_16 h => ?_)
        refine J_goto 120 dX4_readPart_94 (by decide) ?_
        exact J_lv [0, 1] rfl (K_X4_readPart_120  hL0 hrc_X4_readEither a0 a1  st_16 h)
      · have h := h.2 hc
        refine J_aload_n 0 dX4_readPart_69 rfl rfl ?_
        refine J_iconst 3 dX4_readPart_70 (by decide) ?_
        obtain ⟨ho, h⟩ := h
        refine J_cvi (As := [_]) md_X4_refuseToken k_392 (rc_obj cl_4 ho) rfl rfl ⟨(by simp only [Rm]; omega), (by simp only [Rm]; omega)⟩ ⟨Nat.le_refl _, Nat.le_refl _⟩ (Nat.le_of_ble_eq_true rfl) dX4_readPart_71 (ct_X4_refuseToken  h) (fun z_17 st_18 h => ?_)
        exact J_retz rfl h.1 dX4_readPart_74 h.2
  · have h := h.2 hc
    refine J_aload_n 0 dX4_readPart_12 rfl rfl ?_
    obtain ⟨r_19, hf, h⟩ := h
    refine J_getR fl_RX4_14 dX4_readPart_13 hf ?_
    obtain ⟨ho, h⟩ := h
    refine J_cvv (As := []) md_X8_advance k_401 (rc_obj cl_8 ho) rfl rfl ⟨(by simp only [Rm]; omega), (by simp only [Rm]; omega)⟩ ⟨Nat.le_refl _, Nat.le_refl _⟩ (Nat.le_of_ble_eq_true rfl) dX4_readPart_16 (ct_X8_advance  h) (fun st_21 h => ?_)
    refine J_aload_n 0 dX4_readPart_19 rfl rfl ?_
    refine J_iload_n 1 dX4_readPart_20 rfl rfl ?_
    refine J_iconst 1 dX4_readPart_21 (by decide) ?_
    refine J_iadd dX4_readPart_22 ?_
    obtain ⟨ho, h⟩ := h
    refine J_cvi (As := [_]) md_X4_readEither k_465 (rc_obj cl_4 ho) rfl rfl ⟨(by simp only [Rm]; omega), (by simp only [Rm]; omega)⟩ ⟨Nat.le_refl _, Nat.le_refl _⟩ (Nat.le_of_ble_eq_true rfl) dX4_readPart_23 (hrc_X4_readEither h) (fun z_22 st_23 h => ?_)
    refine J_if_eq 42 dX4_readPart_26 (by decide) (fun hc => ?_) (fun hc => ?_)
    · have h := h.1 hc
      exact J_lv [0, 1] rfl (K_X4_readPart_42  hL0 hrc_X4_readEither a0 a1  st_23 h)
    · have h := h.2 hc
      refine J_aload_n 0 dX4_readPart_29 rfl rfl ?_
      refine J_bipush 41 dX4_readPart_30 (by decide) ?_
      obtain ⟨ho, h⟩ := h
      refine J_cvi (As := [_]) md_X4_takeSign k_415 (rc_obj cl_4 ho) rfl rfl ⟨(by simp only [Rm]; omega), (by simp only [Rm]; omega)⟩ ⟨Nat.le_refl _, Nat.le_refl _⟩ (Nat.le_of_ble_eq_true rfl) dX4_readPart_32 (ct_X4_takeSign  h) (fun z_24 st_25 h => ?_)
      refine J_if_eq 42 dX4_readPart_35 (by decide) (fun hc => ?_) (fun hc => ?_)
      · have h := h.1 hc
        exact J_lv [0, 1] rfl (K_X4_readPart_42  hL0 hrc_X4_readEither a0 a1  st_25 h)
      · have h := h.2 hc
        refine J_iconst 1 dX4_readPart_38 (by decide) ?_
        refine J_goto 43 dX4_readPart_39 (by decide) ?_
        exact J_lv [0, 1] rfl (K_X4_readPart_43  hL0 hrc_X4_readEither a0 a1  1 st_25 h)
/-! X8_start -/
def P_X8_start  (a0 : Nat) (a1 : Int32) (st : St) (post : St → Prop) : Prop := ∃ r_1, rv st a0 8 0 = some r_1 ∧ 0 < al 0 r_1 ∧ fk a0 8 1 = some 0 ∧ fk a0 8 2 = some 0 ∧ oC a0 8 ∧ P_X8_advance  a0 (sI (sI st a0 1 (if ((Int32.ofNat (al 0 r_1)) : Int32) < a1 then (Int32.ofNat (al 0 r_1)) else a1)) a0 2 0) (fun st_3 => post st_3)
set_option maxRecDepth 100000 in
set_option maxHeartbeats 4000000 in
theorem ct_X8_start {l : Launch} {E : En}  {a0 : Nat} {a1 : Int32} {st : St} {post : St → Prop} (h : P_X8_start  a0 a1 st post) : CtV l E (CFc E) 9 0 0 yX8_start cX8_start 2 none [.ref a0, .int a1] st post := by
  refine ctV_of (by decide) (Nat.le_of_ble_eq_true rfl) ?_
  show Jg l E (CFc E) (Rm 9 0 0) cX8_start 2 RX8 none (fun _ => True) (QV E post 0 0) 0 0 0 [(0, .ref a0), (1, .int a1)] [] st
  unfold P_X8_start at h
  refine J_aload_n 0 dX8_start_0 rfl rfl ?_
  refine J_iload_n 1 dX8_start_1 rfl rfl ?_
  refine J_aload_n 0 dX8_start_2 rfl rfl ?_
  obtain ⟨r_1, hf, h⟩ := h
  refine J_getR fl_RX8_7 dX8_start_3 hf ?_
  obtain ⟨hf, h⟩ := h
  refine J_alenI dX8_start_6 hf ?_
  refine J_mmin k_382 k_162 k_158 k_163 ⟨Nat.le_of_ble_eq_true rfl, Nat.le_of_ble_eq_true rfl, Nat.le_of_ble_eq_true rfl, Nat.le_of_ble_eq_true rfl⟩ dX8_start_7 ?_
  obtain ⟨hf, h⟩ := h
  refine J_putI fp_RX8_19 dX8_start_10 rfl hf ?_
  refine J_aload_n 0 dX8_start_13 rfl rfl ?_
  refine J_iconst 0 dX8_start_14 (by decide) ?_
  obtain ⟨hf, h⟩ := h
  refine J_putI fp_RX8_23 dX8_start_15 rfl hf ?_
  refine J_aload_n 0 dX8_start_18 rfl rfl ?_
  obtain ⟨ho, h⟩ := h
  refine J_cvv (As := []) md_X8_advance k_383 (rc_obj cl_8 ho) rfl rfl ⟨Nat.le_of_ble_eq_true rfl, Nat.le_of_ble_eq_true rfl⟩ ⟨Nat.le_of_ble_eq_true rfl, Nat.le_of_ble_eq_true rfl⟩ (Nat.le_of_ble_eq_true rfl) dX8_start_19 (ct_X8_advance  h) (fun st_3 h => ?_)
  exact J_retv rfl dX8_start_22 h
/-! X4_readPerson -/
def P_X4_readPerson  (a0 : Nat) (a1 : Int32) (st : St) (post : Int32 → St → Prop) : Prop := ∃ r_1, rv st a0 4 1 = some r_1 ∧ ∃ r_2, rv st r_1 2 0 = some r_2 ∧ fk r_2 3 0 = some 0 ∧ (((gI st r_2 0) < 9 → ∃ r_3, rv st a0 4 0 = some r_3 ∧ oC r_3 8 ∧ P_X8_advance  r_3 st (fun st_5 => ∃ r_6, rv st_5 r_2 3 2 = some r_6 ∧ vp_in (gI st r_2 0) (al 0 r_6) ∧ oC a0 4 ∧ P_X4_takeNumber  a0 0 99 (sA st_5 r_6 (gI st r_2 0 : Int32).toNatClampNeg a1) (fun z_7 st_8 => ((¬ z_7 = 0 → ∃ r_9, rv st_8 a0 4 1 = some r_9 ∧ fk a0 4 5 = some 0 ∧ oC r_9 2 ∧ P_X2_setGrief  r_9 (gI st r_2 0) (gI st_8 a0 5) st_8 (fun st_11 => oC a0 4 ∧ P_X4_takeNumber  a0 0 9 st_11 (fun z_12 st_13 => ((¬ z_12 = 0 → ∃ r_14, rv st_13 a0 4 1 = some r_14 ∧ fk a0 4 5 = some 0 ∧ oC r_14 2 ∧ P_X2_setTrains  r_14 (gI st r_2 0) (gI st_13 a0 5) st_13 (fun st_16 => oC a0 4 ∧ P_X4_takeNumber  a0 0 9 st_16 (fun z_17 st_18 => ((¬ z_17 = 0 → ∃ r_19, rv st_18 a0 4 1 = some r_19 ∧ fk a0 4 5 = some 0 ∧ oC r_19 2 ∧ P_X2_setOnions  r_19 (gI st r_2 0) (gI st_18 a0 5) st_18 (fun st_21 => fk r_2 3 0 = some 0 ∧ fk r_2 3 0 = some 0 ∧ oC a0 4 ∧ P_X4_takeSign  a0 59 (sI st_21 r_2 0 ((gI st_21 r_2 0) + 1)) (fun z_22 st_23 => (z_22 = 0 ∨ z_22 = 1) ∧ post z_22 st_23))) ∧ (z_17 = 0 → post 0 st_18))))) ∧ (z_12 = 0 → post 0 st_13))))) ∧ (z_7 = 0 → post 0 st_8))))) ∧ (¬ (gI st r_2 0) < 9 → oC a0 4 ∧ P_X4_refuseToken  a0 2 st (fun z_24 st_25 => (z_24 = 0 ∨ z_24 = 1) ∧ post z_24 st_25)))
set_option maxRecDepth 100000 in
set_option maxHeartbeats 4000000 in
theorem ct_X4_readPerson {l : Launch} {E : En}  {a0 : Nat} {a1 : Int32} {st : St} {post : Int32 → St → Prop} (h : P_X4_readPerson  a0 a1 st post) : CtI l E (CFc E) 10 0 0 yX4_readPerson cX4_readPerson 4 (some .boolean) [.ref a0, .int a1] st post := by
  refine ctI_of (by decide) (Nat.le_of_ble_eq_true rfl) ?_
  show Jg l E (CFc E) (Rm 10 0 0) cX4_readPerson 4 RX4 (some .boolean) (fun _ => True) (QI E post 0 0) 0 0 0 [(0, .ref a0), (1, .int a1)] [] st
  unfold P_X4_readPerson at h
  refine J_aload_n 0 dX4_readPerson_0 rfl rfl ?_
  obtain ⟨r_1, hf, h⟩ := h
  refine J_getR fl_RX4_20 dX4_readPerson_1 hf ?_
  obtain ⟨r_2, hf, h⟩ := h
  refine J_getR fl_RX4_24 dX4_readPerson_4 hf ?_
  refine J_astore_n _ dX4_readPerson_7 rfl (by decide) rfl ?_
  refine J_aload_n 0 dX4_readPerson_8 rfl rfl ?_
  obtain ⟨hf, h⟩ := h
  refine J_getI fl_RX4_100 dX4_readPerson_9 hf ?_
  refine J_istore_n _ dX4_readPerson_12 rfl (by decide) rfl ?_
  refine J_iload_n 0 dX4_readPerson_13 rfl rfl ?_
  refine J_bipush 9 dX4_readPerson_14 (by decide) ?_
  refine J_icmp_lt 25 dX4_readPerson_16 (by decide) (fun hc => ?_) (fun hc => ?_)
  · have h := h.1 hc
    refine J_aload_n 2 dX4_readPerson_25 rfl rfl ?_
    obtain ⟨r_3, hf, h⟩ := h
    refine J_getR fl_RX4_14 dX4_readPerson_26 hf ?_
    obtain ⟨ho, h⟩ := h
    refine J_cvv (As := []) md_X8_advance k_401 (rc_obj cl_8 ho) rfl rfl ⟨Nat.le_of_ble_eq_true rfl, Nat.le_of_ble_eq_true rfl⟩ ⟨Nat.le_of_ble_eq_true rfl, Nat.le_of_ble_eq_true rfl⟩ (Nat.le_of_ble_eq_true rfl) dX4_readPerson_29 (ct_X8_advance  h) (fun st_5 h => ?_)
    refine J_aload_n 1 dX4_readPerson_32 rfl rfl ?_
    obtain ⟨r_6, hf, h⟩ := h
    refine J_getR fl_RX4_106 dX4_readPerson_33 hf ?_
    refine J_iload_n 0 dX4_readPerson_36 rfl rfl ?_
    refine J_iload_n 3 dX4_readPerson_37 rfl rfl ?_
    obtain ⟨hi, h⟩ := h
    refine J_iast dX4_readPerson_38 hi ?_
    refine J_aload_n 2 dX4_readPerson_39 rfl rfl ?_
    refine J_iconst 0 dX4_readPerson_40 (by decide) ?_
    refine J_bipush 99 dX4_readPerson_41 (by decide) ?_
    obtain ⟨ho, h⟩ := h
    refine J_cvi (As := [_, _]) md_X4_takeNumber k_407 (rc_obj cl_4 ho) rfl rfl ⟨Nat.le_of_ble_eq_true rfl, Nat.le_of_ble_eq_true rfl⟩ ⟨Nat.le_of_ble_eq_true rfl, Nat.le_of_ble_eq_true rfl⟩ (Nat.le_of_ble_eq_true rfl) dX4_readPerson_43 (ct_X4_takeNumber  h) (fun z_7 st_8 h => ?_)
    refine J_if_ne 51 dX4_readPerson_46 (by decide) (fun hc => ?_) (fun hc => ?_)
    · have h := h.1 hc
      refine J_aload_n 2 dX4_readPerson_51 rfl rfl ?_
      obtain ⟨r_9, hf, h⟩ := h
      refine J_getR fl_RX4_20 dX4_readPerson_52 hf ?_
      refine J_iload_n 0 dX4_readPerson_55 rfl rfl ?_
      refine J_aload_n 2 dX4_readPerson_56 rfl rfl ?_
      obtain ⟨hf, h⟩ := h
      refine J_getI fl_RX4_114 dX4_readPerson_57 hf ?_
      obtain ⟨ho, h⟩ := h
      refine J_cvv (As := [_, _]) md_X2_setGrief k_410 (rc_obj cl_2 ho) rfl rfl ⟨Nat.le_of_ble_eq_true rfl, Nat.le_of_ble_eq_true rfl⟩ ⟨Nat.le_of_ble_eq_true rfl, Nat.le_of_ble_eq_true rfl⟩ (Nat.le_of_ble_eq_true rfl) dX4_readPerson_60 (ct_X2_setGrief  h) (fun st_11 h => ?_)
      refine J_aload_n 2 dX4_readPerson_63 rfl rfl ?_
      refine J_iconst 0 dX4_readPerson_64 (by decide) ?_
      refine J_bipush 9 dX4_readPerson_65 (by decide) ?_
      obtain ⟨ho, h⟩ := h
      refine J_cvi (As := [_, _]) md_X4_takeNumber k_407 (rc_obj cl_4 ho) rfl rfl ⟨Nat.le_of_ble_eq_true rfl, Nat.le_of_ble_eq_true rfl⟩ ⟨Nat.le_of_ble_eq_true rfl, Nat.le_of_ble_eq_true rfl⟩ (Nat.le_of_ble_eq_true rfl) dX4_readPerson_67 (ct_X4_takeNumber  h) (fun z_12 st_13 h => ?_)
      refine J_if_ne 75 dX4_readPerson_70 (by decide) (fun hc => ?_) (fun hc => ?_)
      · have h := h.1 hc
        refine J_aload_n 2 dX4_readPerson_75 rfl rfl ?_
        obtain ⟨r_14, hf, h⟩ := h
        refine J_getR fl_RX4_20 dX4_readPerson_76 hf ?_
        refine J_iload_n 0 dX4_readPerson_79 rfl rfl ?_
        refine J_aload_n 2 dX4_readPerson_80 rfl rfl ?_
        obtain ⟨hf, h⟩ := h
        refine J_getI fl_RX4_114 dX4_readPerson_81 hf ?_
        obtain ⟨ho, h⟩ := h
        refine J_cvv (As := [_, _]) md_X2_setTrains k_411 (rc_obj cl_2 ho) rfl rfl ⟨Nat.le_of_ble_eq_true rfl, Nat.le_of_ble_eq_true rfl⟩ ⟨Nat.le_of_ble_eq_true rfl, Nat.le_of_ble_eq_true rfl⟩ (Nat.le_of_ble_eq_true rfl) dX4_readPerson_84 (ct_X2_setTrains  h) (fun st_16 h => ?_)
        refine J_aload_n 2 dX4_readPerson_87 rfl rfl ?_
        refine J_iconst 0 dX4_readPerson_88 (by decide) ?_
        refine J_bipush 9 dX4_readPerson_89 (by decide) ?_
        obtain ⟨ho, h⟩ := h
        refine J_cvi (As := [_, _]) md_X4_takeNumber k_407 (rc_obj cl_4 ho) rfl rfl ⟨Nat.le_of_ble_eq_true rfl, Nat.le_of_ble_eq_true rfl⟩ ⟨Nat.le_of_ble_eq_true rfl, Nat.le_of_ble_eq_true rfl⟩ (Nat.le_of_ble_eq_true rfl) dX4_readPerson_91 (ct_X4_takeNumber  h) (fun z_17 st_18 h => ?_)
        refine J_if_ne 99 dX4_readPerson_94 (by decide) (fun hc => ?_) (fun hc => ?_)
        · have h := h.1 hc
          refine J_aload_n 2 dX4_readPerson_99 rfl rfl ?_
          obtain ⟨r_19, hf, h⟩ := h
          refine J_getR fl_RX4_20 dX4_readPerson_100 hf ?_
          refine J_iload_n 0 dX4_readPerson_103 rfl rfl ?_
          refine J_aload_n 2 dX4_readPerson_104 rfl rfl ?_
          obtain ⟨hf, h⟩ := h
          refine J_getI fl_RX4_114 dX4_readPerson_105 hf ?_
          obtain ⟨ho, h⟩ := h
          refine J_cvv (As := [_, _]) md_X2_setOnions k_414 (rc_obj cl_2 ho) rfl rfl ⟨Nat.le_of_ble_eq_true rfl, Nat.le_of_ble_eq_true rfl⟩ ⟨Nat.le_of_ble_eq_true rfl, Nat.le_of_ble_eq_true rfl⟩ (Nat.le_of_ble_eq_true rfl) dX4_readPerson_108 (ct_X2_setOnions  h) (fun st_21 h => ?_)
          refine J_aload_n 1 dX4_readPerson_111 rfl rfl ?_
          refine J_dup dX4_readPerson_112 rfl ?_
          obtain ⟨hf, h⟩ := h
          refine J_getI fl_RX4_100 dX4_readPerson_113 hf ?_
          refine J_iconst 1 dX4_readPerson_116 (by decide) ?_
          refine J_iadd dX4_readPerson_117 ?_
          obtain ⟨hf, h⟩ := h
          refine J_putI fp_RX4_100 dX4_readPerson_118 rfl hf ?_
          refine J_aload_n 2 dX4_readPerson_121 rfl rfl ?_
          refine J_bipush 59 dX4_readPerson_122 (by decide) ?_
          obtain ⟨ho, h⟩ := h
          refine J_cvi (As := [_]) md_X4_takeSign k_415 (rc_obj cl_4 ho) rfl rfl ⟨Nat.le_of_ble_eq_true rfl, Nat.le_of_ble_eq_true rfl⟩ ⟨Nat.le_of_ble_eq_true rfl, Nat.le_of_ble_eq_true rfl⟩ (Nat.le_of_ble_eq_true rfl) dX4_readPerson_124 (ct_X4_takeSign  h) (fun z_22 st_23 h => ?_)
          exact J_retz rfl h.1 dX4_readPerson_127 h.2
        · have h := h.2 hc
          refine J_iconst 0 dX4_readPerson_97 (by decide) ?_
          exact J_retz rfl (Or.inl rfl) dX4_readPerson_98 h
      · have h := h.2 hc
        refine J_iconst 0 dX4_readPerson_73 (by decide) ?_
        exact J_retz rfl (Or.inl rfl) dX4_readPerson_74 h
    · have h := h.2 hc
      refine J_iconst 0 dX4_readPerson_49 (by decide) ?_
      exact J_retz rfl (Or.inl rfl) dX4_readPerson_50 h
  · have h := h.2 hc
    refine J_aload_n 2 dX4_readPerson_19 rfl rfl ?_
    refine J_iconst 2 dX4_readPerson_20 (by decide) ?_
    obtain ⟨ho, h⟩ := h
    refine J_cvi (As := [_]) md_X4_refuseToken k_392 (rc_obj cl_4 ho) rfl rfl ⟨Nat.le_of_ble_eq_true rfl, Nat.le_of_ble_eq_true rfl⟩ ⟨Nat.le_of_ble_eq_true rfl, Nat.le_of_ble_eq_true rfl⟩ (Nat.le_of_ble_eq_true rfl) dX4_readPerson_21 (ct_X4_refuseToken  h) (fun z_24 st_25 h => ?_)
    exact J_retz rfl h.1 dX4_readPerson_24 h.2
/-! X4_readBride -/
def P_X4_readBride  (a0 : Nat) (st : St) (post : Int32 → St → Prop) : Prop := ∃ r_1, rv st a0 4 1 = some r_1 ∧ ∃ r_2, rv st r_1 2 0 = some r_2 ∧ fk r_2 3 1 = some 0 ∧ (((gI st r_2 1) < 6 → ∃ r_3, rv st a0 4 0 = some r_3 ∧ oC r_3 8 ∧ P_X8_advance  r_3 st (fun st_5 => oC a0 4 ∧ P_X4_takeNumber  a0 0 60 st_5 (fun z_6 st_7 => ((¬ z_6 = 0 → ∃ r_8, rv st_7 a0 4 1 = some r_8 ∧ fk a0 4 5 = some 0 ∧ oC r_8 2 ∧ P_X2_welcome  r_8 (gI st r_2 1) (gI st_7 a0 5) st_7 (fun st_10 => fk r_2 3 1 = some 0 ∧ fk r_2 3 1 = some 0 ∧ oC a0 4 ∧ P_X4_takeSign  a0 59 (sI st_10 r_2 1 ((gI st_10 r_2 1) + 1)) (fun z_11 st_12 => (z_11 = 0 ∨ z_11 = 1) ∧ post z_11 st_12))) ∧ (z_6 = 0 → post 0 st_7))))) ∧ (¬ (gI st r_2 1) < 6 → oC a0 4 ∧ P_X4_refuseToken  a0 2 st (fun z_13 st_14 => (z_13 = 0 ∨ z_13 = 1) ∧ post z_13 st_14)))
set_option maxRecDepth 100000 in
set_option maxHeartbeats 4000000 in
theorem ct_X4_readBride {l : Launch} {E : En}  {a0 : Nat} {st : St} {post : Int32 → St → Prop} (h : P_X4_readBride  a0 st post) : CtI l E (CFc E) 10 0 0 yX4_readBride cX4_readBride 3 (some .boolean) [.ref a0] st post := by
  refine ctI_of (by decide) (Nat.le_of_ble_eq_true rfl) ?_
  show Jg l E (CFc E) (Rm 10 0 0) cX4_readBride 3 RX4 (some .boolean) (fun _ => True) (QI E post 0 0) 0 0 0 [(0, .ref a0)] [] st
  unfold P_X4_readBride at h
  refine J_aload_n 0 dX4_readBride_0 rfl rfl ?_
  obtain ⟨r_1, hf, h⟩ := h
  refine J_getR fl_RX4_20 dX4_readBride_1 hf ?_
  obtain ⟨r_2, hf, h⟩ := h
  refine J_getR fl_RX4_24 dX4_readBride_4 hf ?_
  refine J_astore_n _ dX4_readBride_7 rfl (by decide) rfl ?_
  refine J_aload_n 0 dX4_readBride_8 rfl rfl ?_
  obtain ⟨hf, h⟩ := h
  refine J_getI fl_RX4_131 dX4_readBride_9 hf ?_
  refine J_istore_n _ dX4_readBride_12 rfl (by decide) rfl ?_
  refine J_iload_n 0 dX4_readBride_13 rfl rfl ?_
  refine J_bipush 6 dX4_readBride_14 (by decide) ?_
  refine J_icmp_lt 25 dX4_readBride_16 (by decide) (fun hc => ?_) (fun hc => ?_)
  · have h := h.1 hc
    refine J_aload_n 2 dX4_readBride_25 rfl rfl ?_
    obtain ⟨r_3, hf, h⟩ := h
    refine J_getR fl_RX4_14 dX4_readBride_26 hf ?_
    obtain ⟨ho, h⟩ := h
    refine J_cvv (As := []) md_X8_advance k_401 (rc_obj cl_8 ho) rfl rfl ⟨Nat.le_of_ble_eq_true rfl, Nat.le_of_ble_eq_true rfl⟩ ⟨Nat.le_of_ble_eq_true rfl, Nat.le_of_ble_eq_true rfl⟩ (Nat.le_of_ble_eq_true rfl) dX4_readBride_29 (ct_X8_advance  h) (fun st_5 h => ?_)
    refine J_aload_n 2 dX4_readBride_32 rfl rfl ?_
    refine J_iconst 0 dX4_readBride_33 (by decide) ?_
    refine J_bipush 60 dX4_readBride_34 (by decide) ?_
    obtain ⟨ho, h⟩ := h
    refine J_cvi (As := [_, _]) md_X4_takeNumber k_407 (rc_obj cl_4 ho) rfl rfl ⟨Nat.le_of_ble_eq_true rfl, Nat.le_of_ble_eq_true rfl⟩ ⟨Nat.le_of_ble_eq_true rfl, Nat.le_of_ble_eq_true rfl⟩ (Nat.le_of_ble_eq_true rfl) dX4_readBride_36 (ct_X4_takeNumber  h) (fun z_6 st_7 h => ?_)
    refine J_if_ne 44 dX4_readBride_39 (by decide) (fun hc => ?_) (fun hc => ?_)
    · have h := h.1 hc
      refine J_aload_n 2 dX4_readBride_44 rfl rfl ?_
      obtain ⟨r_8, hf, h⟩ := h
      refine J_getR fl_RX4_20 dX4_readBride_45 hf ?_
      refine J_iload_n 0 dX4_readBride_48 rfl rfl ?_
      refine J_aload_n 2 dX4_readBride_49 rfl rfl ?_
      obtain ⟨hf, h⟩ := h
      refine J_getI fl_RX4_114 dX4_readBride_50 hf ?_
      obtain ⟨ho, h⟩ := h
      refine J_cvv (As := [_, _]) md_X2_welcome k_420 (rc_obj cl_2 ho) rfl rfl ⟨Nat.le_of_ble_eq_true rfl, Nat.le_of_ble_eq_true rfl⟩ ⟨Nat.le_of_ble_eq_true rfl, Nat.le_of_ble_eq_true rfl⟩ (Nat.le_of_ble_eq_true rfl) dX4_readBride_53 (ct_X2_welcome  h) (fun st_10 h => ?_)
      refine J_aload_n 1 dX4_readBride_56 rfl rfl ?_
      refine J_dup dX4_readBride_57 rfl ?_
      obtain ⟨hf, h⟩ := h
      refine J_getI fl_RX4_131 dX4_readBride_58 hf ?_
      refine J_iconst 1 dX4_readBride_61 (by decide) ?_
      refine J_iadd dX4_readBride_62 ?_
      obtain ⟨hf, h⟩ := h
      refine J_putI fp_RX4_131 dX4_readBride_63 rfl hf ?_
      refine J_aload_n 2 dX4_readBride_66 rfl rfl ?_
      refine J_bipush 59 dX4_readBride_67 (by decide) ?_
      obtain ⟨ho, h⟩ := h
      refine J_cvi (As := [_]) md_X4_takeSign k_415 (rc_obj cl_4 ho) rfl rfl ⟨Nat.le_of_ble_eq_true rfl, Nat.le_of_ble_eq_true rfl⟩ ⟨Nat.le_of_ble_eq_true rfl, Nat.le_of_ble_eq_true rfl⟩ (Nat.le_of_ble_eq_true rfl) dX4_readBride_69 (ct_X4_takeSign  h) (fun z_11 st_12 h => ?_)
      exact J_retz rfl h.1 dX4_readBride_72 h.2
    · have h := h.2 hc
      refine J_iconst 0 dX4_readBride_42 (by decide) ?_
      exact J_retz rfl (Or.inl rfl) dX4_readBride_43 h
  · have h := h.2 hc
    refine J_aload_n 2 dX4_readBride_19 rfl rfl ?_
    refine J_iconst 2 dX4_readBride_20 (by decide) ?_
    obtain ⟨ho, h⟩ := h
    refine J_cvi (As := [_]) md_X4_refuseToken k_392 (rc_obj cl_4 ho) rfl rfl ⟨Nat.le_of_ble_eq_true rfl, Nat.le_of_ble_eq_true rfl⟩ ⟨Nat.le_of_ble_eq_true rfl, Nat.le_of_ble_eq_true rfl⟩ (Nat.le_of_ble_eq_true rfl) dX4_readBride_21 (ct_X4_refuseToken  h) (fun z_13 st_14 h => ?_)
    exact J_retz rfl h.1 dX4_readBride_24 h.2
/-! X4_readTie -/
def P_X4_readTie  (a0 : Nat) (st : St) (post : Int32 → St → Prop) : Prop := fk a0 4 4 = some 0 ∧ (((gI st a0 4) < 24 → fk a0 4 4 = some 0 ∧ fk a0 4 4 = some 0 ∧ ∃ r_1, rv (sI st a0 4 ((gI st a0 4) + 1)) a0 4 0 = some r_1 ∧ oC r_1 8 ∧ P_X8_advance  r_1 (sI st a0 4 ((gI st a0 4) + 1)) (fun st_3 => ∃ r_4, rv st_3 a0 4 1 = some r_4 ∧ ∃ r_5, rv st_3 r_4 2 0 = some r_5 ∧ fk r_5 3 0 = some 0 ∧ oC a0 4 ∧ P_X4_takeKnown  a0 (gI st_3 r_5 0) st_3 (fun z_6 st_7 => ((¬ z_6 = 0 → fk a0 4 5 = some 0 ∧ ∃ r_8, rv st_7 a0 4 1 = some r_8 ∧ ∃ r_9, rv st_7 r_8 2 0 = some r_9 ∧ fk r_9 3 1 = some 0 ∧ oC a0 4 ∧ P_X4_isKnown  a0 (gI st_7 r_9 1) st_7 (fun z_10 st_11 => ((¬ z_10 = 0 → ∃ r_12, rv st_11 a0 4 0 = some r_12 ∧ fk r_12 8 5 = some 0 ∧ ∃ r_13, rv st_11 a0 4 1 = some r_13 ∧ oC r_13 2 ∧ P_X2_yearsOf  r_13 (gI st_7 a0 5) (gI st_11 r_12 5) st_11 (fun z_14 st_15 => ((z_14 ≤ 0 → ∃ r_16, rv st_15 a0 4 0 = some r_16 ∧ oC r_16 8 ∧ P_X8_advance  r_16 st_15 (fun st_18 => oC a0 4 ∧ P_X4_takeNumber  a0 1 40 st_18 (fun z_19 st_20 => ((¬ z_19 = 0 → ∃ r_21, rv st_20 a0 4 1 = some r_21 ∧ fk a0 4 5 = some 0 ∧ oC r_21 2 ∧ P_X2_setYears  r_21 (gI st_7 a0 5) (gI st_11 r_12 5) (gI st_20 a0 5) st_20 (fun st_23 => oC a0 4 ∧ P_X4_takeSign  a0 59 st_23 (fun z_24 st_25 => (z_24 = 0 ∨ z_24 = 1) ∧ post z_24 st_25))) ∧ (z_19 = 0 → post 0 st_20))))) ∧ (¬ z_14 ≤ 0 → oC a0 4 ∧ P_X4_refuseToken  a0 4 st_15 (fun z_26 st_27 => (z_26 = 0 ∨ z_26 = 1) ∧ post z_26 st_27))))) ∧ (z_10 = 0 → post 0 st_11)))) ∧ (z_6 = 0 → post 0 st_7))))) ∧ (¬ (gI st a0 4) < 24 → oC a0 4 ∧ P_X4_refuseToken  a0 2 st (fun z_28 st_29 => (z_28 = 0 ∨ z_28 = 1) ∧ post z_28 st_29)))
set_option maxRecDepth 100000 in
set_option maxHeartbeats 4000000 in
theorem ct_X4_readTie {l : Launch} {E : En}  {a0 : Nat} {st : St} {post : Int32 → St → Prop} (h : P_X4_readTie  a0 st post) : CtI l E (CFc E) 10 0 0 yX4_readTie cX4_readTie 3 (some .boolean) [.ref a0] st post := by
  refine ctI_of (by decide) (Nat.le_of_ble_eq_true rfl) ?_
  show Jg l E (CFc E) (Rm 10 0 0) cX4_readTie 3 RX4 (some .boolean) (fun _ => True) (QI E post 0 0) 0 0 0 [(0, .ref a0)] [] st
  unfold P_X4_readTie at h
  refine J_aload_n 0 dX4_readTie_0 rfl rfl ?_
  obtain ⟨hf, h⟩ := h
  refine J_getI fl_RX4_43 dX4_readTie_1 hf ?_
  refine J_bipush 24 dX4_readTie_4 (by decide) ?_
  refine J_icmp_lt 15 dX4_readTie_6 (by decide) (fun hc => ?_) (fun hc => ?_)
  · have h := h.1 hc
    refine J_aload_n 0 dX4_readTie_15 rfl rfl ?_
    refine J_dup dX4_readTie_16 rfl ?_
    obtain ⟨hf, h⟩ := h
    refine J_getI fl_RX4_43 dX4_readTie_17 hf ?_
    refine J_iconst 1 dX4_readTie_20 (by decide) ?_
    refine J_iadd dX4_readTie_21 ?_
    obtain ⟨hf, h⟩ := h
    refine J_putI fp_RX4_43 dX4_readTie_22 rfl hf ?_
    refine J_aload_n 0 dX4_readTie_25 rfl rfl ?_
    obtain ⟨r_1, hf, h⟩ := h
    refine J_getR fl_RX4_14 dX4_readTie_26 hf ?_
    obtain ⟨ho, h⟩ := h
    refine J_cvv (As := []) md_X8_advance k_401 (rc_obj cl_8 ho) rfl rfl ⟨Nat.le_of_ble_eq_true rfl, Nat.le_of_ble_eq_true rfl⟩ ⟨Nat.le_of_ble_eq_true rfl, Nat.le_of_ble_eq_true rfl⟩ (Nat.le_of_ble_eq_true rfl) dX4_readTie_29 (ct_X8_advance  h) (fun st_3 h => ?_)
    refine J_aload_n 0 dX4_readTie_32 rfl rfl ?_
    refine J_aload_n 0 dX4_readTie_33 rfl rfl ?_
    obtain ⟨r_4, hf, h⟩ := h
    refine J_getR fl_RX4_20 dX4_readTie_34 hf ?_
    obtain ⟨r_5, hf, h⟩ := h
    refine J_getR fl_RX4_24 dX4_readTie_37 hf ?_
    obtain ⟨hf, h⟩ := h
    refine J_getI fl_RX4_100 dX4_readTie_40 hf ?_
    obtain ⟨ho, h⟩ := h
    refine J_cvi (As := [_]) md_X4_takeKnown k_430 (rc_obj cl_4 ho) rfl rfl ⟨Nat.le_of_ble_eq_true rfl, Nat.le_of_ble_eq_true rfl⟩ ⟨Nat.le_of_ble_eq_true rfl, Nat.le_of_ble_eq_true rfl⟩ (Nat.le_of_ble_eq_true rfl) dX4_readTie_43 (ct_X4_takeKnown  h) (fun z_6 st_7 h => ?_)
    refine J_if_ne 51 dX4_readTie_46 (by decide) (fun hc => ?_) (fun hc => ?_)
    · have h := h.1 hc
      refine J_aload_n 0 dX4_readTie_51 rfl rfl ?_
      obtain ⟨hf, h⟩ := h
      refine J_getI fl_RX4_114 dX4_readTie_52 hf ?_
      refine J_istore_n _ dX4_readTie_55 rfl (by decide) rfl ?_
      refine J_aload_n 1 dX4_readTie_56 rfl rfl ?_
      refine J_aload_n 1 dX4_readTie_57 rfl rfl ?_
      obtain ⟨r_8, hf, h⟩ := h
      refine J_getR fl_RX4_20 dX4_readTie_58 hf ?_
      obtain ⟨r_9, hf, h⟩ := h
      refine J_getR fl_RX4_24 dX4_readTie_61 hf ?_
      obtain ⟨hf, h⟩ := h
      refine J_getI fl_RX4_131 dX4_readTie_64 hf ?_
      obtain ⟨ho, h⟩ := h
      refine J_cvi (As := [_]) md_X4_isKnown k_425 (rc_obj cl_4 ho) rfl rfl ⟨Nat.le_of_ble_eq_true rfl, Nat.le_of_ble_eq_true rfl⟩ ⟨Nat.le_of_ble_eq_true rfl, Nat.le_of_ble_eq_true rfl⟩ (Nat.le_of_ble_eq_true rfl) dX4_readTie_67 (ct_X4_isKnown  h) (fun z_10 st_11 h => ?_)
      refine J_if_ne 75 dX4_readTie_70 (by decide) (fun hc => ?_) (fun hc => ?_)
      · have h := h.1 hc
        refine J_aload_n 1 dX4_readTie_75 rfl rfl ?_
        obtain ⟨r_12, hf, h⟩ := h
        refine J_getR fl_RX4_14 dX4_readTie_76 hf ?_
        obtain ⟨hf, h⟩ := h
        refine J_getI fl_RX4_143 dX4_readTie_79 hf ?_
        refine J_istore_n _ dX4_readTie_82 rfl (by decide) rfl ?_
        refine J_aload_n 2 dX4_readTie_83 rfl rfl ?_
        obtain ⟨r_13, hf, h⟩ := h
        refine J_getR fl_RX4_20 dX4_readTie_84 hf ?_
        refine J_iload_n 1 dX4_readTie_87 rfl rfl ?_
        refine J_iload_n 0 dX4_readTie_88 rfl rfl ?_
        obtain ⟨ho, h⟩ := h
        refine J_cvi (As := [_, _]) md_X2_yearsOf k_433 (rc_obj cl_2 ho) rfl rfl ⟨Nat.le_of_ble_eq_true rfl, Nat.le_of_ble_eq_true rfl⟩ ⟨Nat.le_of_ble_eq_true rfl, Nat.le_of_ble_eq_true rfl⟩ (Nat.le_of_ble_eq_true rfl) dX4_readTie_89 (ct_X2_yearsOf  h) (fun z_14 st_15 h => ?_)
        refine J_if_le 101 dX4_readTie_92 (by decide) (fun hc => ?_) (fun hc => ?_)
        · have h := h.1 hc
          refine J_aload_n 2 dX4_readTie_101 rfl rfl ?_
          obtain ⟨r_16, hf, h⟩ := h
          refine J_getR fl_RX4_14 dX4_readTie_102 hf ?_
          obtain ⟨ho, h⟩ := h
          refine J_cvv (As := []) md_X8_advance k_401 (rc_obj cl_8 ho) rfl rfl ⟨Nat.le_of_ble_eq_true rfl, Nat.le_of_ble_eq_true rfl⟩ ⟨Nat.le_of_ble_eq_true rfl, Nat.le_of_ble_eq_true rfl⟩ (Nat.le_of_ble_eq_true rfl) dX4_readTie_105 (ct_X8_advance  h) (fun st_18 h => ?_)
          refine J_aload_n 2 dX4_readTie_108 rfl rfl ?_
          refine J_iconst 1 dX4_readTie_109 (by decide) ?_
          refine J_bipush 40 dX4_readTie_110 (by decide) ?_
          obtain ⟨ho, h⟩ := h
          refine J_cvi (As := [_, _]) md_X4_takeNumber k_407 (rc_obj cl_4 ho) rfl rfl ⟨Nat.le_of_ble_eq_true rfl, Nat.le_of_ble_eq_true rfl⟩ ⟨Nat.le_of_ble_eq_true rfl, Nat.le_of_ble_eq_true rfl⟩ (Nat.le_of_ble_eq_true rfl) dX4_readTie_112 (ct_X4_takeNumber  h) (fun z_19 st_20 h => ?_)
          refine J_if_ne 120 dX4_readTie_115 (by decide) (fun hc => ?_) (fun hc => ?_)
          · have h := h.1 hc
            refine J_aload_n 2 dX4_readTie_120 rfl rfl ?_
            obtain ⟨r_21, hf, h⟩ := h
            refine J_getR fl_RX4_20 dX4_readTie_121 hf ?_
            refine J_iload_n 1 dX4_readTie_124 rfl rfl ?_
            refine J_iload_n 0 dX4_readTie_125 rfl rfl ?_
            refine J_aload_n 2 dX4_readTie_126 rfl rfl ?_
            obtain ⟨hf, h⟩ := h
            refine J_getI fl_RX4_114 dX4_readTie_127 hf ?_
            obtain ⟨ho, h⟩ := h
            refine J_cvv (As := [_, _, _]) md_X2_setYears k_434 (rc_obj cl_2 ho) rfl rfl ⟨Nat.le_of_ble_eq_true rfl, Nat.le_of_ble_eq_true rfl⟩ ⟨Nat.le_of_ble_eq_true rfl, Nat.le_of_ble_eq_true rfl⟩ (Nat.le_of_ble_eq_true rfl) dX4_readTie_130 (ct_X2_setYears  h) (fun st_23 h => ?_)
            refine J_aload_n 2 dX4_readTie_133 rfl rfl ?_
            refine J_bipush 59 dX4_readTie_134 (by decide) ?_
            obtain ⟨ho, h⟩ := h
            refine J_cvi (As := [_]) md_X4_takeSign k_415 (rc_obj cl_4 ho) rfl rfl ⟨Nat.le_of_ble_eq_true rfl, Nat.le_of_ble_eq_true rfl⟩ ⟨Nat.le_of_ble_eq_true rfl, Nat.le_of_ble_eq_true rfl⟩ (Nat.le_of_ble_eq_true rfl) dX4_readTie_136 (ct_X4_takeSign  h) (fun z_24 st_25 h => ?_)
            exact J_retz rfl h.1 dX4_readTie_139 h.2
          · have h := h.2 hc
            refine J_iconst 0 dX4_readTie_118 (by decide) ?_
            exact J_retz rfl (Or.inl rfl) dX4_readTie_119 h
        · have h := h.2 hc
          refine J_aload_n 2 dX4_readTie_95 rfl rfl ?_
          refine J_iconst 4 dX4_readTie_96 (by decide) ?_
          obtain ⟨ho, h⟩ := h
          refine J_cvi (As := [_]) md_X4_refuseToken k_392 (rc_obj cl_4 ho) rfl rfl ⟨Nat.le_of_ble_eq_true rfl, Nat.le_of_ble_eq_true rfl⟩ ⟨Nat.le_of_ble_eq_true rfl, Nat.le_of_ble_eq_true rfl⟩ (Nat.le_of_ble_eq_true rfl) dX4_readTie_97 (ct_X4_refuseToken  h) (fun z_26 st_27 h => ?_)
          exact J_retz rfl h.1 dX4_readTie_100 h.2
      · have h := h.2 hc
        refine J_iconst 0 dX4_readTie_73 (by decide) ?_
        exact J_retz rfl (Or.inl rfl) dX4_readTie_74 h
    · have h := h.2 hc
      refine J_iconst 0 dX4_readTie_49 (by decide) ?_
      exact J_retz rfl (Or.inl rfl) dX4_readTie_50 h
  · have h := h.2 hc
    refine J_aload_n 0 dX4_readTie_9 rfl rfl ?_
    refine J_iconst 2 dX4_readTie_10 (by decide) ?_
    obtain ⟨ho, h⟩ := h
    refine J_cvi (As := [_]) md_X4_refuseToken k_392 (rc_obj cl_4 ho) rfl rfl ⟨Nat.le_of_ble_eq_true rfl, Nat.le_of_ble_eq_true rfl⟩ ⟨Nat.le_of_ble_eq_true rfl, Nat.le_of_ble_eq_true rfl⟩ (Nat.le_of_ble_eq_true rfl) dX4_readTie_11 (ct_X4_refuseToken  h) (fun z_28 st_29 h => ?_)
    exact J_retz rfl h.1 dX4_readTie_14 h.2
/-! X4_readProduct -/
def P_X4_readProduct_92 (rc_X4_readEither : Nat → Int32 → St → (Int32 → St → Prop) → Prop) (a0 : Nat) (a1 : Int32)  (post : Int32 → St → Prop) (x2 : Int32) (st : St) : Prop := (x2 = 0 ∨ x2 = 1) ∧ post x2 st
def P_X4_readProduct_62 (rc_X4_readEither : Nat → Int32 → St → (Int32 → St → Prop) → Prop) (a0 : Nat) (a1 : Int32) (k8 : Int32 → Int32 → St → Prop) (post : Int32 → St → Prop) (x3 : Int32) (s0 : Int32) (st : St) : Prop := ∃ r_1, rv st a0 4 0 = some r_1 ∧ oC r_1 8 ∧ P_X8_advance  r_1 st (fun st_3 => oC a0 4 ∧ P_X4_readPart rc_X4_readEither a0 a1 st_3 (fun z_4 st_5 => ∃ r_6, rv st_5 a0 4 2 = some r_6 ∧ oC r_6 5 ∧ P_X5_add  r_6 s0 st_5 (fun st_8 => k8 z_4 (x3 + 1) st_8)))
def P_X4_readProduct_43 (rc_X4_readEither : Nat → Int32 → St → (Int32 → St → Prop) → Prop) (a0 : Nat) (a1 : Int32) (k8 : Int32 → Int32 → St → Prop) (post : Int32 → St → Prop) (x3 : Int32) (st : St) : Prop := ∃ r_1, rv st a0 4 0 = some r_1 ∧ fk r_1 8 8 = some 0 ∧ ((¬ (gI st r_1 8) = 42 → P_X4_readProduct_62 rc_X4_readEither a0 a1 k8 post x3 (-17) st) ∧ ((gI st r_1 8) = 42 → P_X4_readProduct_62 rc_X4_readEither a0 a1 k8 post x3 (-16) st))
def P_X4_readProduct_8 (rc_X4_readEither : Nat → Int32 → St → (Int32 → St → Prop) → Prop) (a0 : Nat) (a1 : Int32)  (post : Int32 → St → Prop) : Nat → Int32 → Int32 → St → Prop
  | 0, _, _, _ => False
  | n9 + 1, x2, x3, st => ((700 ≤ x3 → P_X4_readProduct_92 rc_X4_readEither a0 a1  post x2 st) ∧ (¬ 700 ≤ x3 → ((x2 = 0 → P_X4_readProduct_92 rc_X4_readEither a0 a1  post x2 st) ∧ (¬ x2 = 0 → ∃ r_1, rv st a0 4 0 = some r_1 ∧ fk r_1 8 8 = some 0 ∧ (((gI st r_1 8) = 42 → P_X4_readProduct_43 rc_X4_readEither a0 a1 (fun x2 x3 st => P_X4_readProduct_8 rc_X4_readEither a0 a1  post n9 x2 x3 st) post x3 st) ∧ (¬ (gI st r_1 8) = 42 → ∃ r_2, rv st a0 4 0 = some r_2 ∧ fk r_2 8 8 = some 0 ∧ ((¬ (gI st r_2 8) = 47 → P_X4_readProduct_92 rc_X4_readEither a0 a1  post x2 st) ∧ ((gI st r_2 8) = 47 → P_X4_readProduct_43 rc_X4_readEither a0 a1 (fun x2 x3 st => P_X4_readProduct_8 rc_X4_readEither a0 a1  post n9 x2 x3 st) post x3 st))))))))
def P_X4_readProduct (rc_X4_readEither : Nat → Int32 → St → (Int32 → St → Prop) → Prop) (a0 : Nat) (a1 : Int32) (st : St) (post : Int32 → St → Prop) : Prop := oC a0 4 ∧ P_X4_readPart rc_X4_readEither a0 a1 st (fun z_1 st_2 => ∃ n8, P_X4_readProduct_8 rc_X4_readEither a0 a1  post n8 z_1 0 st_2)
set_option maxRecDepth 100000 in
set_option maxHeartbeats 4000000 in
theorem K_X4_readProduct_92 {l : Launch} {E : En}  {L0 : Nat} (hL0 : 16 ≤ L0) {rc_X4_readEither : Nat → Int32 → St → (Int32 → St → Prop) → Prop} (hrc_X4_readEither : ∀ {b0 : Nat} {b1 : Int32} {st : St} {post : Int32 → St → Prop}, rc_X4_readEither b0 b1 st post → CtI l E (CFc E) L0 0 0 yX4_readEither cX4_readEither 4 (some .boolean) [.ref b0, .int b1] st post) (a0 : Nat) (a1 : Int32)  {post : Int32 → St → Prop}   (x2 : Int32) (st : St) (h : P_X4_readProduct_92 rc_X4_readEither a0 a1  post x2 st) : Jg l E (CFc E) (Rm (L0 + 2) 0 0) cX4_readProduct 5 RX4 (some .boolean) (fun _ => True) (QI E post 0 0) 0 0 92 [(0, .ref a0), (1, .int a1), (2, .int x2)] [] st := by
  unfold P_X4_readProduct_92 at h
  refine J_iload_n 2 dX4_readProduct_92 rfl rfl ?_
  exact J_retz rfl h.1 dX4_readProduct_93 h.2
set_option maxRecDepth 100000 in
set_option maxHeartbeats 4000000 in
theorem K_X4_readProduct_62 {l : Launch} {E : En}  {L0 : Nat} (hL0 : 16 ≤ L0) {rc_X4_readEither : Nat → Int32 → St → (Int32 → St → Prop) → Prop} (hrc_X4_readEither : ∀ {b0 : Nat} {b1 : Int32} {st : St} {post : Int32 → St → Prop}, rc_X4_readEither b0 b1 st post → CtI l E (CFc E) L0 0 0 yX4_readEither cX4_readEither 4 (some .boolean) [.ref b0, .int b1] st post) (a0 : Nat) (a1 : Int32) {k8 : Int32 → Int32 → St → Prop} {post : Int32 → St → Prop}  (hk8 : ∀ (x2 : Int32) (x3 : Int32) (st : St), k8 x2 x3 st → Jg l E (CFc E) (Rm (L0 + 2) 0 0) cX4_readProduct 5 RX4 (some .boolean) (fun _ => True) (QI E post 0 0) 0 0 8 [(0, .ref a0), (1, .int a1), (2, .int x2), (3, .int x3)] [] st) (x3 : Int32) (s0 : Int32) (st : St) (h : P_X4_readProduct_62 rc_X4_readEither a0 a1 k8 post x3 s0 st) : Jg l E (CFc E) (Rm (L0 + 2) 0 0) cX4_readProduct 5 RX4 (some .boolean) (fun _ => True) (QI E post 0 0) 0 0 62 [(0, .ref a0), (1, .int a1), (3, .int x3)] [.int s0] st := by
  unfold P_X4_readProduct_62 at h
  refine J_istore _ dX4_readProduct_62 (by decide) rfl ?_
  refine J_aload_n 1 dX4_readProduct_64 rfl rfl ?_
  obtain ⟨r_1, hf, h⟩ := h
  refine J_getR fl_RX4_14 dX4_readProduct_65 hf ?_
  obtain ⟨ho, h⟩ := h
  refine J_cvv (As := []) md_X8_advance k_401 (rc_obj cl_8 ho) rfl rfl ⟨(by simp only [Rm]; omega), (by simp only [Rm]; omega)⟩ ⟨Nat.le_refl _, Nat.le_refl _⟩ (Nat.le_of_ble_eq_true rfl) dX4_readProduct_68 (ct_X8_advance  h) (fun st_3 h => ?_)
  refine J_aload_n 1 dX4_readProduct_71 rfl rfl ?_
  refine J_iload_n 2 dX4_readProduct_72 rfl rfl ?_
  obtain ⟨ho, h⟩ := h
  refine J_cvi (As := [_]) md_X4_readPart k_472 (rc_obj cl_4 ho) rfl rfl ⟨(by simp only [Rm]; omega), (by simp only [Rm]; omega)⟩ ⟨Nat.le_refl _, Nat.le_refl _⟩ (Nat.le_of_ble_eq_true rfl) dX4_readProduct_73 (ct_X4_readPart hL0 hrc_X4_readEither h) (fun z_4 st_5 h => ?_)
  refine J_istore_n _ dX4_readProduct_76 rfl (by decide) rfl ?_
  refine J_aload_n 2 dX4_readProduct_77 rfl rfl ?_
  obtain ⟨r_6, hf, h⟩ := h
  refine J_getR fl_RX4_36 dX4_readProduct_78 hf ?_
  refine J_iload 1 dX4_readProduct_81 rfl ?_
  obtain ⟨ho, h⟩ := h
  refine J_cvv (As := [_]) md_X5_add k_448 (rc_obj cl_5 ho) rfl rfl ⟨(by simp only [Rm]; omega), (by simp only [Rm]; omega)⟩ ⟨Nat.le_refl _, Nat.le_refl _⟩ (Nat.le_of_ble_eq_true rfl) dX4_readProduct_83 (ct_X5_add  h) (fun st_8 h => ?_)
  refine J_iinc 4 (x3 + 1) _ dX4_readProduct_86 rfl (by rfl) (by decide) rfl ?_
  refine J_goto 8 dX4_readProduct_89 (by decide) ?_
  exact J_lv [3, 4, 1, 0] rfl (hk8 z_4 (x3 + 1) st_8 h)
set_option maxRecDepth 100000 in
set_option maxHeartbeats 4000000 in
theorem K_X4_readProduct_43 {l : Launch} {E : En}  {L0 : Nat} (hL0 : 16 ≤ L0) {rc_X4_readEither : Nat → Int32 → St → (Int32 → St → Prop) → Prop} (hrc_X4_readEither : ∀ {b0 : Nat} {b1 : Int32} {st : St} {post : Int32 → St → Prop}, rc_X4_readEither b0 b1 st post → CtI l E (CFc E) L0 0 0 yX4_readEither cX4_readEither 4 (some .boolean) [.ref b0, .int b1] st post) (a0 : Nat) (a1 : Int32) {k8 : Int32 → Int32 → St → Prop} {post : Int32 → St → Prop}  (hk8 : ∀ (x2 : Int32) (x3 : Int32) (st : St), k8 x2 x3 st → Jg l E (CFc E) (Rm (L0 + 2) 0 0) cX4_readProduct 5 RX4 (some .boolean) (fun _ => True) (QI E post 0 0) 0 0 8 [(0, .ref a0), (1, .int a1), (2, .int x2), (3, .int x3)] [] st) (x3 : Int32) (st : St) (h : P_X4_readProduct_43 rc_X4_readEither a0 a1 k8 post x3 st) : Jg l E (CFc E) (Rm (L0 + 2) 0 0) cX4_readProduct 5 RX4 (some .boolean) (fun _ => True) (QI E post 0 0) 0 0 43 [(0, .ref a0), (1, .int a1), (3, .int x3)] [] st := by
  unfold P_X4_readProduct_43 at h
  refine J_aload_n 0 dX4_readProduct_43 rfl rfl ?_
  obtain ⟨r_1, hf, h⟩ := h
  refine J_getR fl_RX4_14 dX4_readProduct_44 hf ?_
  obtain ⟨hf, h⟩ := h
  refine J_getI fl_RX4_170 dX4_readProduct_47 hf ?_
  refine J_bipush 42 dX4_readProduct_50 (by decide) ?_
  refine J_icmp_ne 60 dX4_readProduct_52 (by decide) (fun hc => ?_) (fun hc => ?_)
  · have h := h.1 hc
    refine J_bipush (-17) dX4_readProduct_60 (by decide) ?_
    exact J_lv [0, 1, 2] rfl (K_X4_readProduct_62  hL0 hrc_X4_readEither a0 a1 hk8 x3 (-17) st h)
  · have h := h.2 hc
    refine J_bipush (-16) dX4_readProduct_55 (by decide) ?_
    refine J_goto 62 dX4_readProduct_57 (by decide) ?_
    exact J_lv [0, 1, 2] rfl (K_X4_readProduct_62  hL0 hrc_X4_readEither a0 a1 hk8 x3 (-16) st h)
set_option maxRecDepth 100000 in
set_option maxHeartbeats 4000000 in
theorem K_X4_readProduct_8 {l : Launch} {E : En}  {L0 : Nat} (hL0 : 16 ≤ L0) {rc_X4_readEither : Nat → Int32 → St → (Int32 → St → Prop) → Prop} (hrc_X4_readEither : ∀ {b0 : Nat} {b1 : Int32} {st : St} {post : Int32 → St → Prop}, rc_X4_readEither b0 b1 st post → CtI l E (CFc E) L0 0 0 yX4_readEither cX4_readEither 4 (some .boolean) [.ref b0, .int b1] st post) (a0 : Nat) (a1 : Int32)  {post : Int32 → St → Prop}   : ∀ (n9 : Nat) (x2 : Int32) (x3 : Int32) (st : St), P_X4_readProduct_8 rc_X4_readEither a0 a1  post n9 x2 x3 st → Jg l E (CFc E) (Rm (L0 + 2) 0 0) cX4_readProduct 5 RX4 (some .boolean) (fun _ => True) (QI E post 0 0) 0 0 8 [(0, .ref a0), (1, .int a1), (2, .int x2), (3, .int x3)] [] st := by
  intro n9
  induction n9 with
  | zero => intro x2 x3 st h; exact h.elim
  | succ n9 ih =>
    intro x2 x3 st h
    unfold P_X4_readProduct_8 at h
    refine J_iload_n 3 dX4_readProduct_8 rfl rfl ?_
    refine J_sipush 700 dX4_readProduct_9 (by decide) ?_
    refine J_icmp_ge 92 dX4_readProduct_12 (by decide) (fun hc => ?_) (fun hc => ?_)
    · have h := h.1 hc
      exact J_lv [0, 1, 2] rfl (K_X4_readProduct_92  hL0 hrc_X4_readEither a0 a1  x2 st h)
    · have h := h.2 hc
      refine J_iload_n 2 dX4_readProduct_15 rfl rfl ?_
      refine J_if_eq 92 dX4_readProduct_16 (by decide) (fun hc => ?_) (fun hc => ?_)
      · have h := h.1 hc
        exact J_lv [0, 1, 2] rfl (K_X4_readProduct_92  hL0 hrc_X4_readEither a0 a1  x2 st h)
      · have h := h.2 hc
        refine J_aload_n 0 dX4_readProduct_19 rfl rfl ?_
        obtain ⟨r_1, hf, h⟩ := h
        refine J_getR fl_RX4_14 dX4_readProduct_20 hf ?_
        obtain ⟨hf, h⟩ := h
        refine J_getI fl_RX4_170 dX4_readProduct_23 hf ?_
        refine J_bipush 42 dX4_readProduct_26 (by decide) ?_
        refine J_icmp_eq 43 dX4_readProduct_28 (by decide) (fun hc => ?_) (fun hc => ?_)
        · have h := h.1 hc
          exact J_lv [0, 1, 3] rfl (K_X4_readProduct_43  hL0 hrc_X4_readEither a0 a1 (fun x2 x3 st h => ih x2 x3 st h) x3 st h)
        · have h := h.2 hc
          refine J_aload_n 0 dX4_readProduct_31 rfl rfl ?_
          obtain ⟨r_2, hf, h⟩ := h
          refine J_getR fl_RX4_14 dX4_readProduct_32 hf ?_
          obtain ⟨hf, h⟩ := h
          refine J_getI fl_RX4_170 dX4_readProduct_35 hf ?_
          refine J_bipush 47 dX4_readProduct_38 (by decide) ?_
          refine J_icmp_ne 92 dX4_readProduct_40 (by decide) (fun hc => ?_) (fun hc => ?_)
          · have h := h.1 hc
            exact J_lv [0, 1, 2] rfl (K_X4_readProduct_92  hL0 hrc_X4_readEither a0 a1  x2 st h)
          · have h := h.2 hc
            exact J_lv [0, 1, 3] rfl (K_X4_readProduct_43  hL0 hrc_X4_readEither a0 a1 (fun x2 x3 st h => ih x2 x3 st h) x3 st h)
set_option maxRecDepth 100000 in
set_option maxHeartbeats 4000000 in
theorem ct_X4_readProduct {l : Launch} {E : En} {L0 : Nat} (hL0 : 16 ≤ L0) {rc_X4_readEither : Nat → Int32 → St → (Int32 → St → Prop) → Prop} (hrc_X4_readEither : ∀ {b0 : Nat} {b1 : Int32} {st : St} {post : Int32 → St → Prop}, rc_X4_readEither b0 b1 st post → CtI l E (CFc E) L0 0 0 yX4_readEither cX4_readEither 4 (some .boolean) [.ref b0, .int b1] st post) {a0 : Nat} {a1 : Int32} {st : St} {post : Int32 → St → Prop} (h : P_X4_readProduct rc_X4_readEither a0 a1 st post) : CtI l E (CFc E) (L0 + 2) 0 0 yX4_readProduct cX4_readProduct 5 (some .boolean) [.ref a0, .int a1] st post := by
  refine ctI_of (by decide) (Nat.le_of_ble_eq_true rfl) ?_
  show Jg l E (CFc E) (Rm (L0 + 2) 0 0) cX4_readProduct 5 RX4 (some .boolean) (fun _ => True) (QI E post 0 0) 0 0 0 [(0, .ref a0), (1, .int a1)] [] st
  unfold P_X4_readProduct at h
  refine J_aload_n 0 dX4_readProduct_0 rfl rfl ?_
  refine J_iload_n 1 dX4_readProduct_1 rfl rfl ?_
  obtain ⟨ho, h⟩ := h
  refine J_cvi (As := [_]) md_X4_readPart k_472 (rc_obj cl_4 ho) rfl rfl ⟨(by simp only [Rm]; omega), (by simp only [Rm]; omega)⟩ ⟨Nat.le_refl _, Nat.le_refl _⟩ (Nat.le_of_ble_eq_true rfl) dX4_readProduct_2 (ct_X4_readPart hL0 hrc_X4_readEither h) (fun z_1 st_2 h => ?_)
  refine J_istore_n _ dX4_readProduct_5 rfl (by decide) rfl ?_
  refine J_iconst 0 dX4_readProduct_6 (by decide) ?_
  refine J_istore_n _ dX4_readProduct_7 rfl (by decide) rfl ?_
  obtain ⟨n8, h⟩ := h
  exact J_lv [2, 3, 1, 0] rfl (K_X4_readProduct_8  hL0 hrc_X4_readEither a0 a1  n8 z_1 0 st_2 h)
/-! X4_readSum -/
def P_X4_readSum_92 (rc_X4_readEither : Nat → Int32 → St → (Int32 → St → Prop) → Prop) (a0 : Nat) (a1 : Int32)  (post : Int32 → St → Prop) (x2 : Int32) (st : St) : Prop := (x2 = 0 ∨ x2 = 1) ∧ post x2 st
def P_X4_readSum_62 (rc_X4_readEither : Nat → Int32 → St → (Int32 → St → Prop) → Prop) (a0 : Nat) (a1 : Int32) (k8 : Int32 → Int32 → St → Prop) (post : Int32 → St → Prop) (x3 : Int32) (s0 : Int32) (st : St) : Prop := ∃ r_1, rv st a0 4 0 = some r_1 ∧ oC r_1 8 ∧ P_X8_advance  r_1 st (fun st_3 => oC a0 4 ∧ P_X4_readProduct rc_X4_readEither a0 a1 st_3 (fun z_4 st_5 => ∃ r_6, rv st_5 a0 4 2 = some r_6 ∧ oC r_6 5 ∧ P_X5_add  r_6 s0 st_5 (fun st_8 => k8 z_4 (x3 + 1) st_8)))
def P_X4_readSum_43 (rc_X4_readEither : Nat → Int32 → St → (Int32 → St → Prop) → Prop) (a0 : Nat) (a1 : Int32) (k8 : Int32 → Int32 → St → Prop) (post : Int32 → St → Prop) (x3 : Int32) (st : St) : Prop := ∃ r_1, rv st a0 4 0 = some r_1 ∧ fk r_1 8 8 = some 0 ∧ ((¬ (gI st r_1 8) = 43 → P_X4_readSum_62 rc_X4_readEither a0 a1 k8 post x3 (-15) st) ∧ ((gI st r_1 8) = 43 → P_X4_readSum_62 rc_X4_readEither a0 a1 k8 post x3 (-14) st))
def P_X4_readSum_8 (rc_X4_readEither : Nat → Int32 → St → (Int32 → St → Prop) → Prop) (a0 : Nat) (a1 : Int32)  (post : Int32 → St → Prop) : Nat → Int32 → Int32 → St → Prop
  | 0, _, _, _ => False
  | n9 + 1, x2, x3, st => ((700 ≤ x3 → P_X4_readSum_92 rc_X4_readEither a0 a1  post x2 st) ∧ (¬ 700 ≤ x3 → ((x2 = 0 → P_X4_readSum_92 rc_X4_readEither a0 a1  post x2 st) ∧ (¬ x2 = 0 → ∃ r_1, rv st a0 4 0 = some r_1 ∧ fk r_1 8 8 = some 0 ∧ (((gI st r_1 8) = 43 → P_X4_readSum_43 rc_X4_readEither a0 a1 (fun x2 x3 st => P_X4_readSum_8 rc_X4_readEither a0 a1  post n9 x2 x3 st) post x3 st) ∧ (¬ (gI st r_1 8) = 43 → ∃ r_2, rv st a0 4 0 = some r_2 ∧ fk r_2 8 8 = some 0 ∧ ((¬ (gI st r_2 8) = 45 → P_X4_readSum_92 rc_X4_readEither a0 a1  post x2 st) ∧ ((gI st r_2 8) = 45 → P_X4_readSum_43 rc_X4_readEither a0 a1 (fun x2 x3 st => P_X4_readSum_8 rc_X4_readEither a0 a1  post n9 x2 x3 st) post x3 st))))))))
def P_X4_readSum (rc_X4_readEither : Nat → Int32 → St → (Int32 → St → Prop) → Prop) (a0 : Nat) (a1 : Int32) (st : St) (post : Int32 → St → Prop) : Prop := oC a0 4 ∧ P_X4_readProduct rc_X4_readEither a0 a1 st (fun z_1 st_2 => ∃ n8, P_X4_readSum_8 rc_X4_readEither a0 a1  post n8 z_1 0 st_2)
set_option maxRecDepth 100000 in
set_option maxHeartbeats 4000000 in
theorem K_X4_readSum_92 {l : Launch} {E : En}  {L0 : Nat} (hL0 : 16 ≤ L0) {rc_X4_readEither : Nat → Int32 → St → (Int32 → St → Prop) → Prop} (hrc_X4_readEither : ∀ {b0 : Nat} {b1 : Int32} {st : St} {post : Int32 → St → Prop}, rc_X4_readEither b0 b1 st post → CtI l E (CFc E) L0 0 0 yX4_readEither cX4_readEither 4 (some .boolean) [.ref b0, .int b1] st post) (a0 : Nat) (a1 : Int32)  {post : Int32 → St → Prop}   (x2 : Int32) (st : St) (h : P_X4_readSum_92 rc_X4_readEither a0 a1  post x2 st) : Jg l E (CFc E) (Rm (L0 + 3) 0 0) cX4_readSum 5 RX4 (some .boolean) (fun _ => True) (QI E post 0 0) 0 0 92 [(0, .ref a0), (1, .int a1), (2, .int x2)] [] st := by
  unfold P_X4_readSum_92 at h
  refine J_iload_n 2 dX4_readSum_92 rfl rfl ?_
  exact J_retz rfl h.1 dX4_readSum_93 h.2
set_option maxRecDepth 100000 in
set_option maxHeartbeats 4000000 in
theorem K_X4_readSum_62 {l : Launch} {E : En}  {L0 : Nat} (hL0 : 16 ≤ L0) {rc_X4_readEither : Nat → Int32 → St → (Int32 → St → Prop) → Prop} (hrc_X4_readEither : ∀ {b0 : Nat} {b1 : Int32} {st : St} {post : Int32 → St → Prop}, rc_X4_readEither b0 b1 st post → CtI l E (CFc E) L0 0 0 yX4_readEither cX4_readEither 4 (some .boolean) [.ref b0, .int b1] st post) (a0 : Nat) (a1 : Int32) {k8 : Int32 → Int32 → St → Prop} {post : Int32 → St → Prop}  (hk8 : ∀ (x2 : Int32) (x3 : Int32) (st : St), k8 x2 x3 st → Jg l E (CFc E) (Rm (L0 + 3) 0 0) cX4_readSum 5 RX4 (some .boolean) (fun _ => True) (QI E post 0 0) 0 0 8 [(0, .ref a0), (1, .int a1), (2, .int x2), (3, .int x3)] [] st) (x3 : Int32) (s0 : Int32) (st : St) (h : P_X4_readSum_62 rc_X4_readEither a0 a1 k8 post x3 s0 st) : Jg l E (CFc E) (Rm (L0 + 3) 0 0) cX4_readSum 5 RX4 (some .boolean) (fun _ => True) (QI E post 0 0) 0 0 62 [(0, .ref a0), (1, .int a1), (3, .int x3)] [.int s0] st := by
  unfold P_X4_readSum_62 at h
  refine J_istore _ dX4_readSum_62 (by decide) rfl ?_
  refine J_aload_n 1 dX4_readSum_64 rfl rfl ?_
  obtain ⟨r_1, hf, h⟩ := h
  refine J_getR fl_RX4_14 dX4_readSum_65 hf ?_
  obtain ⟨ho, h⟩ := h
  refine J_cvv (As := []) md_X8_advance k_401 (rc_obj cl_8 ho) rfl rfl ⟨(by simp only [Rm]; omega), (by simp only [Rm]; omega)⟩ ⟨Nat.le_refl _, Nat.le_refl _⟩ (Nat.le_of_ble_eq_true rfl) dX4_readSum_68 (ct_X8_advance  h) (fun st_3 h => ?_)
  refine J_aload_n 1 dX4_readSum_71 rfl rfl ?_
  refine J_iload_n 2 dX4_readSum_72 rfl rfl ?_
  obtain ⟨ho, h⟩ := h
  refine J_cvi (As := [_]) md_X4_readProduct k_476 (rc_obj cl_4 ho) rfl rfl ⟨(by simp only [Rm]; omega), (by simp only [Rm]; omega)⟩ ⟨Nat.le_refl _, Nat.le_refl _⟩ (Nat.le_of_ble_eq_true rfl) dX4_readSum_73 (ct_X4_readProduct hL0 hrc_X4_readEither h) (fun z_4 st_5 h => ?_)
  refine J_istore_n _ dX4_readSum_76 rfl (by decide) rfl ?_
  refine J_aload_n 2 dX4_readSum_77 rfl rfl ?_
  obtain ⟨r_6, hf, h⟩ := h
  refine J_getR fl_RX4_36 dX4_readSum_78 hf ?_
  refine J_iload 1 dX4_readSum_81 rfl ?_
  obtain ⟨ho, h⟩ := h
  refine J_cvv (As := [_]) md_X5_add k_448 (rc_obj cl_5 ho) rfl rfl ⟨(by simp only [Rm]; omega), (by simp only [Rm]; omega)⟩ ⟨Nat.le_refl _, Nat.le_refl _⟩ (Nat.le_of_ble_eq_true rfl) dX4_readSum_83 (ct_X5_add  h) (fun st_8 h => ?_)
  refine J_iinc 4 (x3 + 1) _ dX4_readSum_86 rfl (by rfl) (by decide) rfl ?_
  refine J_goto 8 dX4_readSum_89 (by decide) ?_
  exact J_lv [3, 4, 1, 0] rfl (hk8 z_4 (x3 + 1) st_8 h)
set_option maxRecDepth 100000 in
set_option maxHeartbeats 4000000 in
theorem K_X4_readSum_43 {l : Launch} {E : En}  {L0 : Nat} (hL0 : 16 ≤ L0) {rc_X4_readEither : Nat → Int32 → St → (Int32 → St → Prop) → Prop} (hrc_X4_readEither : ∀ {b0 : Nat} {b1 : Int32} {st : St} {post : Int32 → St → Prop}, rc_X4_readEither b0 b1 st post → CtI l E (CFc E) L0 0 0 yX4_readEither cX4_readEither 4 (some .boolean) [.ref b0, .int b1] st post) (a0 : Nat) (a1 : Int32) {k8 : Int32 → Int32 → St → Prop} {post : Int32 → St → Prop}  (hk8 : ∀ (x2 : Int32) (x3 : Int32) (st : St), k8 x2 x3 st → Jg l E (CFc E) (Rm (L0 + 3) 0 0) cX4_readSum 5 RX4 (some .boolean) (fun _ => True) (QI E post 0 0) 0 0 8 [(0, .ref a0), (1, .int a1), (2, .int x2), (3, .int x3)] [] st) (x3 : Int32) (st : St) (h : P_X4_readSum_43 rc_X4_readEither a0 a1 k8 post x3 st) : Jg l E (CFc E) (Rm (L0 + 3) 0 0) cX4_readSum 5 RX4 (some .boolean) (fun _ => True) (QI E post 0 0) 0 0 43 [(0, .ref a0), (1, .int a1), (3, .int x3)] [] st := by
  unfold P_X4_readSum_43 at h
  refine J_aload_n 0 dX4_readSum_43 rfl rfl ?_
  obtain ⟨r_1, hf, h⟩ := h
  refine J_getR fl_RX4_14 dX4_readSum_44 hf ?_
  obtain ⟨hf, h⟩ := h
  refine J_getI fl_RX4_170 dX4_readSum_47 hf ?_
  refine J_bipush 43 dX4_readSum_50 (by decide) ?_
  refine J_icmp_ne 60 dX4_readSum_52 (by decide) (fun hc => ?_) (fun hc => ?_)
  · have h := h.1 hc
    refine J_bipush (-15) dX4_readSum_60 (by decide) ?_
    exact J_lv [0, 1, 2] rfl (K_X4_readSum_62  hL0 hrc_X4_readEither a0 a1 hk8 x3 (-15) st h)
  · have h := h.2 hc
    refine J_bipush (-14) dX4_readSum_55 (by decide) ?_
    refine J_goto 62 dX4_readSum_57 (by decide) ?_
    exact J_lv [0, 1, 2] rfl (K_X4_readSum_62  hL0 hrc_X4_readEither a0 a1 hk8 x3 (-14) st h)
set_option maxRecDepth 100000 in
set_option maxHeartbeats 4000000 in
theorem K_X4_readSum_8 {l : Launch} {E : En}  {L0 : Nat} (hL0 : 16 ≤ L0) {rc_X4_readEither : Nat → Int32 → St → (Int32 → St → Prop) → Prop} (hrc_X4_readEither : ∀ {b0 : Nat} {b1 : Int32} {st : St} {post : Int32 → St → Prop}, rc_X4_readEither b0 b1 st post → CtI l E (CFc E) L0 0 0 yX4_readEither cX4_readEither 4 (some .boolean) [.ref b0, .int b1] st post) (a0 : Nat) (a1 : Int32)  {post : Int32 → St → Prop}   : ∀ (n9 : Nat) (x2 : Int32) (x3 : Int32) (st : St), P_X4_readSum_8 rc_X4_readEither a0 a1  post n9 x2 x3 st → Jg l E (CFc E) (Rm (L0 + 3) 0 0) cX4_readSum 5 RX4 (some .boolean) (fun _ => True) (QI E post 0 0) 0 0 8 [(0, .ref a0), (1, .int a1), (2, .int x2), (3, .int x3)] [] st := by
  intro n9
  induction n9 with
  | zero => intro x2 x3 st h; exact h.elim
  | succ n9 ih =>
    intro x2 x3 st h
    unfold P_X4_readSum_8 at h
    refine J_iload_n 3 dX4_readSum_8 rfl rfl ?_
    refine J_sipush 700 dX4_readSum_9 (by decide) ?_
    refine J_icmp_ge 92 dX4_readSum_12 (by decide) (fun hc => ?_) (fun hc => ?_)
    · have h := h.1 hc
      exact J_lv [0, 1, 2] rfl (K_X4_readSum_92  hL0 hrc_X4_readEither a0 a1  x2 st h)
    · have h := h.2 hc
      refine J_iload_n 2 dX4_readSum_15 rfl rfl ?_
      refine J_if_eq 92 dX4_readSum_16 (by decide) (fun hc => ?_) (fun hc => ?_)
      · have h := h.1 hc
        exact J_lv [0, 1, 2] rfl (K_X4_readSum_92  hL0 hrc_X4_readEither a0 a1  x2 st h)
      · have h := h.2 hc
        refine J_aload_n 0 dX4_readSum_19 rfl rfl ?_
        obtain ⟨r_1, hf, h⟩ := h
        refine J_getR fl_RX4_14 dX4_readSum_20 hf ?_
        obtain ⟨hf, h⟩ := h
        refine J_getI fl_RX4_170 dX4_readSum_23 hf ?_
        refine J_bipush 43 dX4_readSum_26 (by decide) ?_
        refine J_icmp_eq 43 dX4_readSum_28 (by decide) (fun hc => ?_) (fun hc => ?_)
        · have h := h.1 hc
          exact J_lv [0, 1, 3] rfl (K_X4_readSum_43  hL0 hrc_X4_readEither a0 a1 (fun x2 x3 st h => ih x2 x3 st h) x3 st h)
        · have h := h.2 hc
          refine J_aload_n 0 dX4_readSum_31 rfl rfl ?_
          obtain ⟨r_2, hf, h⟩ := h
          refine J_getR fl_RX4_14 dX4_readSum_32 hf ?_
          obtain ⟨hf, h⟩ := h
          refine J_getI fl_RX4_170 dX4_readSum_35 hf ?_
          refine J_bipush 45 dX4_readSum_38 (by decide) ?_
          refine J_icmp_ne 92 dX4_readSum_40 (by decide) (fun hc => ?_) (fun hc => ?_)
          · have h := h.1 hc
            exact J_lv [0, 1, 2] rfl (K_X4_readSum_92  hL0 hrc_X4_readEither a0 a1  x2 st h)
          · have h := h.2 hc
            exact J_lv [0, 1, 3] rfl (K_X4_readSum_43  hL0 hrc_X4_readEither a0 a1 (fun x2 x3 st h => ih x2 x3 st h) x3 st h)
set_option maxRecDepth 100000 in
set_option maxHeartbeats 4000000 in
theorem ct_X4_readSum {l : Launch} {E : En} {L0 : Nat} (hL0 : 16 ≤ L0) {rc_X4_readEither : Nat → Int32 → St → (Int32 → St → Prop) → Prop} (hrc_X4_readEither : ∀ {b0 : Nat} {b1 : Int32} {st : St} {post : Int32 → St → Prop}, rc_X4_readEither b0 b1 st post → CtI l E (CFc E) L0 0 0 yX4_readEither cX4_readEither 4 (some .boolean) [.ref b0, .int b1] st post) {a0 : Nat} {a1 : Int32} {st : St} {post : Int32 → St → Prop} (h : P_X4_readSum rc_X4_readEither a0 a1 st post) : CtI l E (CFc E) (L0 + 3) 0 0 yX4_readSum cX4_readSum 5 (some .boolean) [.ref a0, .int a1] st post := by
  refine ctI_of (by decide) (Nat.le_of_ble_eq_true rfl) ?_
  show Jg l E (CFc E) (Rm (L0 + 3) 0 0) cX4_readSum 5 RX4 (some .boolean) (fun _ => True) (QI E post 0 0) 0 0 0 [(0, .ref a0), (1, .int a1)] [] st
  unfold P_X4_readSum at h
  refine J_aload_n 0 dX4_readSum_0 rfl rfl ?_
  refine J_iload_n 1 dX4_readSum_1 rfl rfl ?_
  obtain ⟨ho, h⟩ := h
  refine J_cvi (As := [_]) md_X4_readProduct k_476 (rc_obj cl_4 ho) rfl rfl ⟨(by simp only [Rm]; omega), (by simp only [Rm]; omega)⟩ ⟨Nat.le_refl _, Nat.le_refl _⟩ (Nat.le_of_ble_eq_true rfl) dX4_readSum_2 (ct_X4_readProduct hL0 hrc_X4_readEither h) (fun z_1 st_2 h => ?_)
  refine J_istore_n _ dX4_readSum_5 rfl (by decide) rfl ?_
  refine J_iconst 0 dX4_readSum_6 (by decide) ?_
  refine J_istore_n _ dX4_readSum_7 rfl (by decide) rfl ?_
  obtain ⟨n8, h⟩ := h
  exact J_lv [2, 3, 1, 0] rfl (K_X4_readSum_8  hL0 hrc_X4_readEither a0 a1  n8 z_1 0 st_2 h)
/-! X4_readTest -/
def P_X4_readTest_62 (rc_X4_readEither : Nat → Int32 → St → (Int32 → St → Prop) → Prop) (a0 : Nat) (a1 : Int32)  (post : Int32 → St → Prop) (x3 : Int32) (s0 : Int32) (s1 : Nat) (st : St) : Prop := oC s1 5 ∧ P_X5_add  s1 s0 st (fun st_2 => (x3 = 0 ∨ x3 = 1) ∧ post x3 st_2)
def P_X4_readTest_32 (rc_X4_readEither : Nat → Int32 → St → (Int32 → St → Prop) → Prop) (a0 : Nat) (a1 : Int32)  (post : Int32 → St → Prop) (x2 : Int32) (st : St) : Prop := ∃ r_1, rv st a0 4 0 = some r_1 ∧ oC r_1 8 ∧ P_X8_advance  r_1 st (fun st_3 => oC a0 4 ∧ P_X4_readSum rc_X4_readEither a0 a1 st_3 (fun z_4 st_5 => ∃ r_6, rv st_5 a0 4 2 = some r_6 ∧ ((¬ x2 = 60 → P_X4_readTest_62 rc_X4_readEither a0 a1  post z_4 (-13) r_6 st_5) ∧ (x2 = 60 → P_X4_readTest_62 rc_X4_readEither a0 a1  post z_4 (-12) r_6 st_5))))
def P_X4_readTest (rc_X4_readEither : Nat → Int32 → St → (Int32 → St → Prop) → Prop) (a0 : Nat) (a1 : Int32) (st : St) (post : Int32 → St → Prop) : Prop := oC a0 4 ∧ P_X4_readSum rc_X4_readEither a0 a1 st (fun z_1 st_2 => ((¬ z_1 = 0 → ∃ r_3, rv st_2 a0 4 0 = some r_3 ∧ fk r_3 8 8 = some 0 ∧ (((gI st_2 r_3 8) = 60 → P_X4_readTest_32 rc_X4_readEither a0 a1  post (gI st_2 r_3 8) st_2) ∧ (¬ (gI st_2 r_3 8) = 60 → (((gI st_2 r_3 8) = 61 → P_X4_readTest_32 rc_X4_readEither a0 a1  post (gI st_2 r_3 8) st_2) ∧ (¬ (gI st_2 r_3 8) = 61 → post 1 st_2))))) ∧ (z_1 = 0 → post 0 st_2)))
set_option maxRecDepth 100000 in
set_option maxHeartbeats 4000000 in
theorem K_X4_readTest_62 {l : Launch} {E : En}  {L0 : Nat} (hL0 : 16 ≤ L0) {rc_X4_readEither : Nat → Int32 → St → (Int32 → St → Prop) → Prop} (hrc_X4_readEither : ∀ {b0 : Nat} {b1 : Int32} {st : St} {post : Int32 → St → Prop}, rc_X4_readEither b0 b1 st post → CtI l E (CFc E) L0 0 0 yX4_readEither cX4_readEither 4 (some .boolean) [.ref b0, .int b1] st post) (a0 : Nat) (a1 : Int32)  {post : Int32 → St → Prop}   (x3 : Int32) (s0 : Int32) (s1 : Nat) (st : St) (h : P_X4_readTest_62 rc_X4_readEither a0 a1  post x3 s0 s1 st) : Jg l E (CFc E) (Rm (L0 + 4) 0 0) cX4_readTest 4 RX4 (some .boolean) (fun _ => True) (QI E post 0 0) 0 0 62 [(0, .ref a0), (1, .int a1), (3, .int x3)] [.int s0, .ref s1] st := by
  unfold P_X4_readTest_62 at h
  obtain ⟨ho, h⟩ := h
  refine J_cvv (As := [_]) md_X5_add k_448 (rc_obj cl_5 ho) rfl rfl ⟨(by simp only [Rm]; omega), (by simp only [Rm]; omega)⟩ ⟨Nat.le_refl _, Nat.le_refl _⟩ (Nat.le_of_ble_eq_true rfl) dX4_readTest_62 (ct_X5_add  h) (fun st_2 h => ?_)
  refine J_iload_n 2 dX4_readTest_65 rfl rfl ?_
  exact J_retz rfl h.1 dX4_readTest_66 h.2
set_option maxRecDepth 100000 in
set_option maxHeartbeats 4000000 in
theorem K_X4_readTest_32 {l : Launch} {E : En}  {L0 : Nat} (hL0 : 16 ≤ L0) {rc_X4_readEither : Nat → Int32 → St → (Int32 → St → Prop) → Prop} (hrc_X4_readEither : ∀ {b0 : Nat} {b1 : Int32} {st : St} {post : Int32 → St → Prop}, rc_X4_readEither b0 b1 st post → CtI l E (CFc E) L0 0 0 yX4_readEither cX4_readEither 4 (some .boolean) [.ref b0, .int b1] st post) (a0 : Nat) (a1 : Int32)  {post : Int32 → St → Prop}   (x2 : Int32) (st : St) (h : P_X4_readTest_32 rc_X4_readEither a0 a1  post x2 st) : Jg l E (CFc E) (Rm (L0 + 4) 0 0) cX4_readTest 4 RX4 (some .boolean) (fun _ => True) (QI E post 0 0) 0 0 32 [(0, .ref a0), (1, .int a1), (2, .int x2)] [] st := by
  unfold P_X4_readTest_32 at h
  refine J_aload_n 0 dX4_readTest_32 rfl rfl ?_
  obtain ⟨r_1, hf, h⟩ := h
  refine J_getR fl_RX4_14 dX4_readTest_33 hf ?_
  obtain ⟨ho, h⟩ := h
  refine J_cvv (As := []) md_X8_advance k_401 (rc_obj cl_8 ho) rfl rfl ⟨(by simp only [Rm]; omega), (by simp only [Rm]; omega)⟩ ⟨Nat.le_refl _, Nat.le_refl _⟩ (Nat.le_of_ble_eq_true rfl) dX4_readTest_36 (ct_X8_advance  h) (fun st_3 h => ?_)
  refine J_aload_n 0 dX4_readTest_39 rfl rfl ?_
  refine J_iload_n 1 dX4_readTest_40 rfl rfl ?_
  obtain ⟨ho, h⟩ := h
  refine J_cvi (As := [_]) md_X4_readSum k_480 (rc_obj cl_4 ho) rfl rfl ⟨(by simp only [Rm]; omega), (by simp only [Rm]; omega)⟩ ⟨Nat.le_refl _, Nat.le_refl _⟩ (Nat.le_of_ble_eq_true rfl) dX4_readTest_41 (ct_X4_readSum hL0 hrc_X4_readEither h) (fun z_4 st_5 h => ?_)
  refine J_istore_n _ dX4_readTest_44 rfl (by decide) rfl ?_
  refine J_aload_n 1 dX4_readTest_45 rfl rfl ?_
  obtain ⟨r_6, hf, h⟩ := h
  refine J_getR fl_RX4_36 dX4_readTest_46 hf ?_
  refine J_iload_n 3 dX4_readTest_49 rfl rfl ?_
  refine J_bipush 60 dX4_readTest_50 (by decide) ?_
  refine J_icmp_ne 60 dX4_readTest_52 (by decide) (fun hc => ?_) (fun hc => ?_)
  · have h := h.1 hc
    refine J_bipush (-13) dX4_readTest_60 (by decide) ?_
    exact J_lv [1, 2, 0] rfl (K_X4_readTest_62  hL0 hrc_X4_readEither a0 a1  z_4 (-13) r_6 st_5 h)
  · have h := h.2 hc
    refine J_bipush (-12) dX4_readTest_55 (by decide) ?_
    refine J_goto 62 dX4_readTest_57 (by decide) ?_
    exact J_lv [1, 2, 0] rfl (K_X4_readTest_62  hL0 hrc_X4_readEither a0 a1  z_4 (-12) r_6 st_5 h)
set_option maxRecDepth 100000 in
set_option maxHeartbeats 4000000 in
theorem ct_X4_readTest {l : Launch} {E : En} {L0 : Nat} (hL0 : 16 ≤ L0) {rc_X4_readEither : Nat → Int32 → St → (Int32 → St → Prop) → Prop} (hrc_X4_readEither : ∀ {b0 : Nat} {b1 : Int32} {st : St} {post : Int32 → St → Prop}, rc_X4_readEither b0 b1 st post → CtI l E (CFc E) L0 0 0 yX4_readEither cX4_readEither 4 (some .boolean) [.ref b0, .int b1] st post) {a0 : Nat} {a1 : Int32} {st : St} {post : Int32 → St → Prop} (h : P_X4_readTest rc_X4_readEither a0 a1 st post) : CtI l E (CFc E) (L0 + 4) 0 0 yX4_readTest cX4_readTest 4 (some .boolean) [.ref a0, .int a1] st post := by
  refine ctI_of (by decide) (Nat.le_of_ble_eq_true rfl) ?_
  show Jg l E (CFc E) (Rm (L0 + 4) 0 0) cX4_readTest 4 RX4 (some .boolean) (fun _ => True) (QI E post 0 0) 0 0 0 [(0, .ref a0), (1, .int a1)] [] st
  unfold P_X4_readTest at h
  refine J_aload_n 0 dX4_readTest_0 rfl rfl ?_
  refine J_iload_n 1 dX4_readTest_1 rfl rfl ?_
  obtain ⟨ho, h⟩ := h
  refine J_cvi (As := [_]) md_X4_readSum k_480 (rc_obj cl_4 ho) rfl rfl ⟨(by simp only [Rm]; omega), (by simp only [Rm]; omega)⟩ ⟨Nat.le_refl _, Nat.le_refl _⟩ (Nat.le_of_ble_eq_true rfl) dX4_readTest_2 (ct_X4_readSum hL0 hrc_X4_readEither h) (fun z_1 st_2 h => ?_)
  refine J_if_ne 10 dX4_readTest_5 (by decide) (fun hc => ?_) (fun hc => ?_)
  · have h := h.1 hc
    refine J_aload_n 0 dX4_readTest_10 rfl rfl ?_
    obtain ⟨r_3, hf, h⟩ := h
    refine J_getR fl_RX4_14 dX4_readTest_11 hf ?_
    obtain ⟨hf, h⟩ := h
    refine J_getI fl_RX4_170 dX4_readTest_14 hf ?_
    refine J_istore_n _ dX4_readTest_17 rfl (by decide) rfl ?_
    refine J_iload_n 0 dX4_readTest_18 rfl rfl ?_
    refine J_bipush 60 dX4_readTest_19 (by decide) ?_
    refine J_icmp_eq 32 dX4_readTest_21 (by decide) (fun hc => ?_) (fun hc => ?_)
    · have h := h.1 hc
      exact J_lv [1, 2, 0] rfl (K_X4_readTest_32  hL0 hrc_X4_readEither a0 a1  (gI st_2 r_3 8) st_2 h)
    · have h := h.2 hc
      refine J_iload_n 0 dX4_readTest_24 rfl rfl ?_
      refine J_bipush 61 dX4_readTest_25 (by decide) ?_
      refine J_icmp_eq 32 dX4_readTest_27 (by decide) (fun hc => ?_) (fun hc => ?_)
      · have h := h.1 hc
        exact J_lv [1, 2, 0] rfl (K_X4_readTest_32  hL0 hrc_X4_readEither a0 a1  (gI st_2 r_3 8) st_2 h)
      · have h := h.2 hc
        refine J_iconst 1 dX4_readTest_30 (by decide) ?_
        exact J_retz rfl (Or.inr rfl) dX4_readTest_31 h
  · have h := h.2 hc
    refine J_iconst 0 dX4_readTest_8 (by decide) ?_
    exact J_retz rfl (Or.inl rfl) dX4_readTest_9 h
/-! X4_readNot -/
def P_X4_readNot_62 (rc_X4_readEither : Nat → Int32 → St → (Int32 → St → Prop) → Prop) (a0 : Nat) (a1 : Int32)  (post : Int32 → St → Prop) : Nat → Int32 → Int32 → Int32 → St → Prop
  | 0, _, _, _, _ => False
  | n9 + 1, x2, x3, x4, st => ((x2 ≤ x4 → (x3 = 0 ∨ x3 = 1) ∧ post x3 st) ∧ (¬ x2 ≤ x4 → ∃ r_1, rv st a0 4 2 = some r_1 ∧ oC r_1 5 ∧ P_X5_add  r_1 (-11) st (fun st_3 => P_X4_readNot_62 rc_X4_readEither a0 a1  post n9 x2 x3 (x4 + 1) st_3)))
def P_X4_readNot_34 (rc_X4_readEither : Nat → Int32 → St → (Int32 → St → Prop) → Prop) (a0 : Nat) (a1 : Int32)  (post : Int32 → St → Prop) (x2 : Int32) (st : St) : Prop := ∃ r_1, rv st a0 4 0 = some r_1 ∧ fk r_1 8 7 = some 1 ∧ wOk (gR st r_1 7) ∧ wOk (some 1010) ∧ ((¬ (gR st r_1 7) = (some 1010) → oC a0 4 ∧ P_X4_readTest rc_X4_readEither a0 a1 st (fun z_2 st_3 => ∃ n8, P_X4_readNot_62 rc_X4_readEither a0 a1  post n8 x2 z_2 0 st_3)) ∧ ((gR st r_1 7) = (some 1010) → oC a0 4 ∧ P_X4_refuseToken  a0 2 st (fun z_4 st_5 => (z_4 = 0 ∨ z_4 = 1) ∧ post z_4 st_5)))
def P_X4_readNot_2 (rc_X4_readEither : Nat → Int32 → St → (Int32 → St → Prop) → Prop) (a0 : Nat) (a1 : Int32)  (post : Int32 → St → Prop) : Nat → Int32 → St → Prop
  | 0, _, _ => False
  | n9 + 1, x2, st => ((6 ≤ x2 → P_X4_readNot_34 rc_X4_readEither a0 a1  post x2 st) ∧ (¬ 6 ≤ x2 → ∃ r_1, rv st a0 4 0 = some r_1 ∧ fk r_1 8 7 = some 1 ∧ wOk (gR st r_1 7) ∧ wOk (some 1010) ∧ ((¬ (gR st r_1 7) = (some 1010) → P_X4_readNot_34 rc_X4_readEither a0 a1  post x2 st) ∧ ((gR st r_1 7) = (some 1010) → ∃ r_2, rv st a0 4 0 = some r_2 ∧ oC r_2 8 ∧ P_X8_advance  r_2 st (fun st_4 => P_X4_readNot_2 rc_X4_readEither a0 a1  post n9 (x2 + 1) st_4)))))
def P_X4_readNot (rc_X4_readEither : Nat → Int32 → St → (Int32 → St → Prop) → Prop) (a0 : Nat) (a1 : Int32) (st : St) (post : Int32 → St → Prop) : Prop := ∃ n8, P_X4_readNot_2 rc_X4_readEither a0 a1  post n8 0 st
set_option maxRecDepth 100000 in
set_option maxHeartbeats 4000000 in
theorem K_X4_readNot_62 {l : Launch} {E : En}  {L0 : Nat} (hL0 : 16 ≤ L0) {rc_X4_readEither : Nat → Int32 → St → (Int32 → St → Prop) → Prop} (hrc_X4_readEither : ∀ {b0 : Nat} {b1 : Int32} {st : St} {post : Int32 → St → Prop}, rc_X4_readEither b0 b1 st post → CtI l E (CFc E) L0 0 0 yX4_readEither cX4_readEither 4 (some .boolean) [.ref b0, .int b1] st post) (a0 : Nat) (a1 : Int32)  {post : Int32 → St → Prop}   : ∀ (n9 : Nat) (x2 : Int32) (x3 : Int32) (x4 : Int32) (st : St), P_X4_readNot_62 rc_X4_readEither a0 a1  post n9 x2 x3 x4 st → Jg l E (CFc E) (Rm (L0 + 5) 0 0) cX4_readNot 5 RX4 (some .boolean) (fun _ => True) (QI E post 0 0) 0 0 62 [(0, .ref a0), (1, .int a1), (2, .int x2), (3, .int x3), (4, .int x4)] [] st := by
  intro n9
  induction n9 with
  | zero => intro x2 x3 x4 st h; exact h.elim
  | succ n9 ih =>
    intro x2 x3 x4 st h
    unfold P_X4_readNot_62 at h
    refine J_iload 4 dX4_readNot_62 rfl ?_
    refine J_iload_n 2 dX4_readNot_64 rfl rfl ?_
    refine J_icmp_ge 83 dX4_readNot_65 (by decide) (fun hc => ?_) (fun hc => ?_)
    · have h := h.1 hc
      refine J_iload_n 3 dX4_readNot_83 rfl rfl ?_
      exact J_retz rfl h.1 dX4_readNot_84 h.2
    · have h := h.2 hc
      refine J_aload_n 0 dX4_readNot_68 rfl rfl ?_
      obtain ⟨r_1, hf, h⟩ := h
      refine J_getR fl_RX4_36 dX4_readNot_69 hf ?_
      refine J_bipush (-11) dX4_readNot_72 (by decide) ?_
      obtain ⟨ho, h⟩ := h
      refine J_cvv (As := [_]) md_X5_add k_448 (rc_obj cl_5 ho) rfl rfl ⟨(by simp only [Rm]; omega), (by simp only [Rm]; omega)⟩ ⟨Nat.le_refl _, Nat.le_refl _⟩ (Nat.le_of_ble_eq_true rfl) dX4_readNot_74 (ct_X5_add  h) (fun st_3 h => ?_)
      refine J_iinc 4 (x4 + 1) _ dX4_readNot_77 rfl (by rfl) (by decide) rfl ?_
      refine J_goto 62 dX4_readNot_80 (by decide) ?_
      exact J_lv [1, 2, 3, 4, 0] rfl (ih x2 x3 (x4 + 1) st_3 h)
set_option maxRecDepth 100000 in
set_option maxHeartbeats 4000000 in
theorem K_X4_readNot_34 {l : Launch} {E : En}  {L0 : Nat} (hL0 : 16 ≤ L0) {rc_X4_readEither : Nat → Int32 → St → (Int32 → St → Prop) → Prop} (hrc_X4_readEither : ∀ {b0 : Nat} {b1 : Int32} {st : St} {post : Int32 → St → Prop}, rc_X4_readEither b0 b1 st post → CtI l E (CFc E) L0 0 0 yX4_readEither cX4_readEither 4 (some .boolean) [.ref b0, .int b1] st post) (a0 : Nat) (a1 : Int32)  {post : Int32 → St → Prop}   (x2 : Int32) (st : St) (h : P_X4_readNot_34 rc_X4_readEither a0 a1  post x2 st) : Jg l E (CFc E) (Rm (L0 + 5) 0 0) cX4_readNot 5 RX4 (some .boolean) (fun _ => True) (QI E post 0 0) 0 0 34 [(0, .ref a0), (1, .int a1), (2, .int x2)] [] st := by
  unfold P_X4_readNot_34 at h
  refine J_aload_n 0 dX4_readNot_34 rfl rfl ?_
  obtain ⟨r_1, hf, h⟩ := h
  refine J_getR fl_RX4_14 dX4_readNot_35 hf ?_
  obtain ⟨hf, h⟩ := h
  refine J_getQ fl_RX4_53 dX4_readNot_38 hf ?_
  refine J_gsW (i := 10) (by decide) k_460 dX4_readNot_41 ?_
  obtain ⟨hx, hy, h⟩ := h
  refine J_acmp_ne (rx := (gR st r_1 7)) (ry := (some 1010)) 53 dX4_readNot_44 (by decide) hx hy (fun hc => ?_) (fun hc => ?_)
  · have h := h.1 hc
    refine J_aload_n 0 dX4_readNot_53 rfl rfl ?_
    refine J_iload_n 1 dX4_readNot_54 rfl rfl ?_
    obtain ⟨ho, h⟩ := h
    refine J_cvi (As := [_]) md_X4_readTest k_461 (rc_obj cl_4 ho) rfl rfl ⟨(by simp only [Rm]; omega), (by simp only [Rm]; omega)⟩ ⟨Nat.le_refl _, Nat.le_refl _⟩ (Nat.le_of_ble_eq_true rfl) dX4_readNot_55 (ct_X4_readTest hL0 hrc_X4_readEither h) (fun z_2 st_3 h => ?_)
    refine J_istore_n _ dX4_readNot_58 rfl (by decide) rfl ?_
    refine J_iconst 0 dX4_readNot_59 (by decide) ?_
    refine J_istore _ dX4_readNot_60 (by decide) rfl ?_
    obtain ⟨n8, h⟩ := h
    exact J_lv [2, 3, 4, 1, 0] rfl (K_X4_readNot_62  hL0 hrc_X4_readEither a0 a1  n8 x2 z_2 0 st_3 h)
  · have h := h.2 hc
    refine J_aload_n 0 dX4_readNot_47 rfl rfl ?_
    refine J_iconst 2 dX4_readNot_48 (by decide) ?_
    obtain ⟨ho, h⟩ := h
    refine J_cvi (As := [_]) md_X4_refuseToken k_392 (rc_obj cl_4 ho) rfl rfl ⟨(by simp only [Rm]; omega), (by simp only [Rm]; omega)⟩ ⟨Nat.le_refl _, Nat.le_refl _⟩ (Nat.le_of_ble_eq_true rfl) dX4_readNot_49 (ct_X4_refuseToken  h) (fun z_4 st_5 h => ?_)
    exact J_retz rfl h.1 dX4_readNot_52 h.2
set_option maxRecDepth 100000 in
set_option maxHeartbeats 4000000 in
theorem K_X4_readNot_2 {l : Launch} {E : En}  {L0 : Nat} (hL0 : 16 ≤ L0) {rc_X4_readEither : Nat → Int32 → St → (Int32 → St → Prop) → Prop} (hrc_X4_readEither : ∀ {b0 : Nat} {b1 : Int32} {st : St} {post : Int32 → St → Prop}, rc_X4_readEither b0 b1 st post → CtI l E (CFc E) L0 0 0 yX4_readEither cX4_readEither 4 (some .boolean) [.ref b0, .int b1] st post) (a0 : Nat) (a1 : Int32)  {post : Int32 → St → Prop}   : ∀ (n9 : Nat) (x2 : Int32) (st : St), P_X4_readNot_2 rc_X4_readEither a0 a1  post n9 x2 st → Jg l E (CFc E) (Rm (L0 + 5) 0 0) cX4_readNot 5 RX4 (some .boolean) (fun _ => True) (QI E post 0 0) 0 0 2 [(0, .ref a0), (1, .int a1), (2, .int x2)] [] st := by
  intro n9
  induction n9 with
  | zero => intro x2 st h; exact h.elim
  | succ n9 ih =>
    intro x2 st h
    unfold P_X4_readNot_2 at h
    refine J_iload_n 2 dX4_readNot_2 rfl rfl ?_
    refine J_bipush 6 dX4_readNot_3 (by decide) ?_
    refine J_icmp_ge 34 dX4_readNot_5 (by decide) (fun hc => ?_) (fun hc => ?_)
    · have h := h.1 hc
      exact J_lv [0, 1, 2] rfl (K_X4_readNot_34  hL0 hrc_X4_readEither a0 a1  x2 st h)
    · have h := h.2 hc
      refine J_aload_n 0 dX4_readNot_8 rfl rfl ?_
      obtain ⟨r_1, hf, h⟩ := h
      refine J_getR fl_RX4_14 dX4_readNot_9 hf ?_
      obtain ⟨hf, h⟩ := h
      refine J_getQ fl_RX4_53 dX4_readNot_12 hf ?_
      refine J_gsW (i := 10) (by decide) k_460 dX4_readNot_15 ?_
      obtain ⟨hx, hy, h⟩ := h
      refine J_acmp_ne (rx := (gR st r_1 7)) (ry := (some 1010)) 34 dX4_readNot_18 (by decide) hx hy (fun hc => ?_) (fun hc => ?_)
      · have h := h.1 hc
        exact J_lv [0, 1, 2] rfl (K_X4_readNot_34  hL0 hrc_X4_readEither a0 a1  x2 st h)
      · have h := h.2 hc
        refine J_iinc 2 (x2 + 1) _ dX4_readNot_21 rfl (by rfl) (by decide) rfl ?_
        refine J_aload_n 1 dX4_readNot_24 rfl rfl ?_
        obtain ⟨r_2, hf, h⟩ := h
        refine J_getR fl_RX4_14 dX4_readNot_25 hf ?_
        obtain ⟨ho, h⟩ := h
        refine J_cvv (As := []) md_X8_advance k_401 (rc_obj cl_8 ho) rfl rfl ⟨(by simp only [Rm]; omega), (by simp only [Rm]; omega)⟩ ⟨Nat.le_refl _, Nat.le_refl _⟩ (Nat.le_of_ble_eq_true rfl) dX4_readNot_28 (ct_X8_advance  h) (fun st_4 h => ?_)
        refine J_goto 2 dX4_readNot_31 (by decide) ?_
        exact J_lv [1, 2, 0] rfl (ih (x2 + 1) st_4 h)
set_option maxRecDepth 100000 in
set_option maxHeartbeats 4000000 in
theorem ct_X4_readNot {l : Launch} {E : En} {L0 : Nat} (hL0 : 16 ≤ L0) {rc_X4_readEither : Nat → Int32 → St → (Int32 → St → Prop) → Prop} (hrc_X4_readEither : ∀ {b0 : Nat} {b1 : Int32} {st : St} {post : Int32 → St → Prop}, rc_X4_readEither b0 b1 st post → CtI l E (CFc E) L0 0 0 yX4_readEither cX4_readEither 4 (some .boolean) [.ref b0, .int b1] st post) {a0 : Nat} {a1 : Int32} {st : St} {post : Int32 → St → Prop} (h : P_X4_readNot rc_X4_readEither a0 a1 st post) : CtI l E (CFc E) (L0 + 5) 0 0 yX4_readNot cX4_readNot 5 (some .boolean) [.ref a0, .int a1] st post := by
  refine ctI_of (by decide) (Nat.le_of_ble_eq_true rfl) ?_
  show Jg l E (CFc E) (Rm (L0 + 5) 0 0) cX4_readNot 5 RX4 (some .boolean) (fun _ => True) (QI E post 0 0) 0 0 0 [(0, .ref a0), (1, .int a1)] [] st
  unfold P_X4_readNot at h
  refine J_iconst 0 dX4_readNot_0 (by decide) ?_
  refine J_istore_n _ dX4_readNot_1 rfl (by decide) rfl ?_
  obtain ⟨n8, h⟩ := h
  exact J_lv [1, 2, 0] rfl (K_X4_readNot_2  hL0 hrc_X4_readEither a0 a1  n8 0 st h)
/-! X4_readBoth -/
def P_X4_readBoth_60 (rc_X4_readEither : Nat → Int32 → St → (Int32 → St → Prop) → Prop) (a0 : Nat) (a1 : Int32)  (post : Int32 → St → Prop) (x2 : Int32) (st : St) : Prop := (x2 = 0 ∨ x2 = 1) ∧ post x2 st
def P_X4_readBoth_8 (rc_X4_readEither : Nat → Int32 → St → (Int32 → St → Prop) → Prop) (a0 : Nat) (a1 : Int32)  (post : Int32 → St → Prop) : Nat → Int32 → Int32 → St → Prop
  | 0, _, _, _ => False
  | n9 + 1, x2, x3, st => ((700 ≤ x3 → P_X4_readBoth_60 rc_X4_readEither a0 a1  post x2 st) ∧ (¬ 700 ≤ x3 → ((x2 = 0 → P_X4_readBoth_60 rc_X4_readEither a0 a1  post x2 st) ∧ (¬ x2 = 0 → ∃ r_1, rv st a0 4 0 = some r_1 ∧ fk r_1 8 7 = some 1 ∧ wOk (gR st r_1 7) ∧ wOk (some 1009) ∧ ((¬ (gR st r_1 7) = (some 1009) → P_X4_readBoth_60 rc_X4_readEither a0 a1  post x2 st) ∧ ((gR st r_1 7) = (some 1009) → ∃ r_2, rv st a0 4 0 = some r_2 ∧ oC r_2 8 ∧ P_X8_advance  r_2 st (fun st_4 => oC a0 4 ∧ P_X4_readNot rc_X4_readEither a0 a1 st_4 (fun z_5 st_6 => ∃ r_7, rv st_6 a0 4 2 = some r_7 ∧ oC r_7 5 ∧ P_X5_add  r_7 (-10) st_6 (fun st_9 => P_X4_readBoth_8 rc_X4_readEither a0 a1  post n9 z_5 (x3 + 1) st_9)))))))))
def P_X4_readBoth (rc_X4_readEither : Nat → Int32 → St → (Int32 → St → Prop) → Prop) (a0 : Nat) (a1 : Int32) (st : St) (post : Int32 → St → Prop) : Prop := oC a0 4 ∧ P_X4_readNot rc_X4_readEither a0 a1 st (fun z_1 st_2 => ∃ n8, P_X4_readBoth_8 rc_X4_readEither a0 a1  post n8 z_1 0 st_2)
set_option maxRecDepth 100000 in
set_option maxHeartbeats 4000000 in
theorem K_X4_readBoth_60 {l : Launch} {E : En}  {L0 : Nat} (hL0 : 16 ≤ L0) {rc_X4_readEither : Nat → Int32 → St → (Int32 → St → Prop) → Prop} (hrc_X4_readEither : ∀ {b0 : Nat} {b1 : Int32} {st : St} {post : Int32 → St → Prop}, rc_X4_readEither b0 b1 st post → CtI l E (CFc E) L0 0 0 yX4_readEither cX4_readEither 4 (some .boolean) [.ref b0, .int b1] st post) (a0 : Nat) (a1 : Int32)  {post : Int32 → St → Prop}   (x2 : Int32) (st : St) (h : P_X4_readBoth_60 rc_X4_readEither a0 a1  post x2 st) : Jg l E (CFc E) (Rm (L0 + 6) 0 0) cX4_readBoth 4 RX4 (some .boolean) (fun _ => True) (QI E post 0 0) 0 0 60 [(0, .ref a0), (1, .int a1), (2, .int x2)] [] st := by
  unfold P_X4_readBoth_60 at h
  refine J_iload_n 2 dX4_readBoth_60 rfl rfl ?_
  exact J_retz rfl h.1 dX4_readBoth_61 h.2
set_option maxRecDepth 100000 in
set_option maxHeartbeats 4000000 in
theorem K_X4_readBoth_8 {l : Launch} {E : En}  {L0 : Nat} (hL0 : 16 ≤ L0) {rc_X4_readEither : Nat → Int32 → St → (Int32 → St → Prop) → Prop} (hrc_X4_readEither : ∀ {b0 : Nat} {b1 : Int32} {st : St} {post : Int32 → St → Prop}, rc_X4_readEither b0 b1 st post → CtI l E (CFc E) L0 0 0 yX4_readEither cX4_readEither 4 (some .boolean) [.ref b0, .int b1] st post) (a0 : Nat) (a1 : Int32)  {post : Int32 → St → Prop}   : ∀ (n9 : Nat) (x2 : Int32) (x3 : Int32) (st : St), P_X4_readBoth_8 rc_X4_readEither a0 a1  post n9 x2 x3 st → Jg l E (CFc E) (Rm (L0 + 6) 0 0) cX4_readBoth 4 RX4 (some .boolean) (fun _ => True) (QI E post 0 0) 0 0 8 [(0, .ref a0), (1, .int a1), (2, .int x2), (3, .int x3)] [] st := by
  intro n9
  induction n9 with
  | zero => intro x2 x3 st h; exact h.elim
  | succ n9 ih =>
    intro x2 x3 st h
    unfold P_X4_readBoth_8 at h
    refine J_iload_n 3 dX4_readBoth_8 rfl rfl ?_
    refine J_sipush 700 dX4_readBoth_9 (by decide) ?_
    refine J_icmp_ge 60 dX4_readBoth_12 (by decide) (fun hc => ?_) (fun hc => ?_)
    · have h := h.1 hc
      exact J_lv [0, 1, 2] rfl (K_X4_readBoth_60  hL0 hrc_X4_readEither a0 a1  x2 st h)
    · have h := h.2 hc
      refine J_iload_n 2 dX4_readBoth_15 rfl rfl ?_
      refine J_if_eq 60 dX4_readBoth_16 (by decide) (fun hc => ?_) (fun hc => ?_)
      · have h := h.1 hc
        exact J_lv [0, 1, 2] rfl (K_X4_readBoth_60  hL0 hrc_X4_readEither a0 a1  x2 st h)
      · have h := h.2 hc
        refine J_aload_n 0 dX4_readBoth_19 rfl rfl ?_
        obtain ⟨r_1, hf, h⟩ := h
        refine J_getR fl_RX4_14 dX4_readBoth_20 hf ?_
        obtain ⟨hf, h⟩ := h
        refine J_getQ fl_RX4_53 dX4_readBoth_23 hf ?_
        refine J_gsW (i := 9) (by decide) k_444 dX4_readBoth_26 ?_
        obtain ⟨hx, hy, h⟩ := h
        refine J_acmp_ne (rx := (gR st r_1 7)) (ry := (some 1009)) 60 dX4_readBoth_29 (by decide) hx hy (fun hc => ?_) (fun hc => ?_)
        · have h := h.1 hc
          exact J_lv [0, 1, 2] rfl (K_X4_readBoth_60  hL0 hrc_X4_readEither a0 a1  x2 st h)
        · have h := h.2 hc
          refine J_aload_n 0 dX4_readBoth_32 rfl rfl ?_
          obtain ⟨r_2, hf, h⟩ := h
          refine J_getR fl_RX4_14 dX4_readBoth_33 hf ?_
          obtain ⟨ho, h⟩ := h
          refine J_cvv (As := []) md_X8_advance k_401 (rc_obj cl_8 ho) rfl rfl ⟨(by simp only [Rm]; omega), (by simp only [Rm]; omega)⟩ ⟨Nat.le_refl _, Nat.le_refl _⟩ (Nat.le_of_ble_eq_true rfl) dX4_readBoth_36 (ct_X8_advance  h) (fun st_4 h => ?_)
          refine J_aload_n 0 dX4_readBoth_39 rfl rfl ?_
          refine J_iload_n 1 dX4_readBoth_40 rfl rfl ?_
          obtain ⟨ho, h⟩ := h
          refine J_cvi (As := [_]) md_X4_readNot k_445 (rc_obj cl_4 ho) rfl rfl ⟨(by simp only [Rm]; omega), (by simp only [Rm]; omega)⟩ ⟨Nat.le_refl _, Nat.le_refl _⟩ (Nat.le_of_ble_eq_true rfl) dX4_readBoth_41 (ct_X4_readNot hL0 hrc_X4_readEither h) (fun z_5 st_6 h => ?_)
          refine J_istore_n _ dX4_readBoth_44 rfl (by decide) rfl ?_
          refine J_aload_n 1 dX4_readBoth_45 rfl rfl ?_
          obtain ⟨r_7, hf, h⟩ := h
          refine J_getR fl_RX4_36 dX4_readBoth_46 hf ?_
          refine J_bipush (-10) dX4_readBoth_49 (by decide) ?_
          obtain ⟨ho, h⟩ := h
          refine J_cvv (As := [_]) md_X5_add k_448 (rc_obj cl_5 ho) rfl rfl ⟨(by simp only [Rm]; omega), (by simp only [Rm]; omega)⟩ ⟨Nat.le_refl _, Nat.le_refl _⟩ (Nat.le_of_ble_eq_true rfl) dX4_readBoth_51 (ct_X5_add  h) (fun st_9 h => ?_)
          refine J_iinc 3 (x3 + 1) _ dX4_readBoth_54 rfl (by rfl) (by decide) rfl ?_
          refine J_goto 8 dX4_readBoth_57 (by decide) ?_
          exact J_lv [2, 3, 1, 0] rfl (ih z_5 (x3 + 1) st_9 h)
set_option maxRecDepth 100000 in
set_option maxHeartbeats 4000000 in
theorem ct_X4_readBoth {l : Launch} {E : En} {L0 : Nat} (hL0 : 16 ≤ L0) {rc_X4_readEither : Nat → Int32 → St → (Int32 → St → Prop) → Prop} (hrc_X4_readEither : ∀ {b0 : Nat} {b1 : Int32} {st : St} {post : Int32 → St → Prop}, rc_X4_readEither b0 b1 st post → CtI l E (CFc E) L0 0 0 yX4_readEither cX4_readEither 4 (some .boolean) [.ref b0, .int b1] st post) {a0 : Nat} {a1 : Int32} {st : St} {post : Int32 → St → Prop} (h : P_X4_readBoth rc_X4_readEither a0 a1 st post) : CtI l E (CFc E) (L0 + 6) 0 0 yX4_readBoth cX4_readBoth 4 (some .boolean) [.ref a0, .int a1] st post := by
  refine ctI_of (by decide) (Nat.le_of_ble_eq_true rfl) ?_
  show Jg l E (CFc E) (Rm (L0 + 6) 0 0) cX4_readBoth 4 RX4 (some .boolean) (fun _ => True) (QI E post 0 0) 0 0 0 [(0, .ref a0), (1, .int a1)] [] st
  unfold P_X4_readBoth at h
  refine J_aload_n 0 dX4_readBoth_0 rfl rfl ?_
  refine J_iload_n 1 dX4_readBoth_1 rfl rfl ?_
  obtain ⟨ho, h⟩ := h
  refine J_cvi (As := [_]) md_X4_readNot k_445 (rc_obj cl_4 ho) rfl rfl ⟨(by simp only [Rm]; omega), (by simp only [Rm]; omega)⟩ ⟨Nat.le_refl _, Nat.le_refl _⟩ (Nat.le_of_ble_eq_true rfl) dX4_readBoth_2 (ct_X4_readNot hL0 hrc_X4_readEither h) (fun z_1 st_2 h => ?_)
  refine J_istore_n _ dX4_readBoth_5 rfl (by decide) rfl ?_
  refine J_iconst 0 dX4_readBoth_6 (by decide) ?_
  refine J_istore_n _ dX4_readBoth_7 rfl (by decide) rfl ?_
  obtain ⟨n8, h⟩ := h
  exact J_lv [2, 3, 1, 0] rfl (K_X4_readBoth_8  hL0 hrc_X4_readEither a0 a1  n8 z_1 0 st_2 h)
/-! X4_readEither -/
def P_X4_readEither_83 (rc_X4_readEither : Nat → Int32 → St → (Int32 → St → Prop) → Prop) (a0 : Nat) (a1 : Int32)  (post : Int32 → St → Prop) (x2 : Int32) (st : St) : Prop := (x2 = 0 ∨ x2 = 1) ∧ post x2 st
def P_X4_readEither_31 (rc_X4_readEither : Nat → Int32 → St → (Int32 → St → Prop) → Prop) (a0 : Nat) (a1 : Int32)  (post : Int32 → St → Prop) : Nat → Int32 → Int32 → St → Prop
  | 0, _, _, _ => False
  | n9 + 1, x2, x3, st => ((700 ≤ x3 → P_X4_readEither_83 rc_X4_readEither a0 a1  post x2 st) ∧ (¬ 700 ≤ x3 → ((x2 = 0 → P_X4_readEither_83 rc_X4_readEither a0 a1  post x2 st) ∧ (¬ x2 = 0 → ∃ r_1, rv st a0 4 0 = some r_1 ∧ fk r_1 8 7 = some 1 ∧ wOk (gR st r_1 7) ∧ wOk (some 1008) ∧ ((¬ (gR st r_1 7) = (some 1008) → P_X4_readEither_83 rc_X4_readEither a0 a1  post x2 st) ∧ ((gR st r_1 7) = (some 1008) → ∃ r_2, rv st a0 4 0 = some r_2 ∧ oC r_2 8 ∧ P_X8_advance  r_2 st (fun st_4 => oC a0 4 ∧ P_X4_readBoth rc_X4_readEither a0 a1 st_4 (fun z_5 st_6 => ∃ r_7, rv st_6 a0 4 2 = some r_7 ∧ oC r_7 5 ∧ P_X5_add  r_7 (-9) st_6 (fun st_9 => P_X4_readEither_31 rc_X4_readEither a0 a1  post n9 z_5 (x3 + 1) st_9)))))))))
def P_X4_readEither_19 (rc_X4_readEither : Nat → Int32 → St → (Int32 → St → Prop) → Prop) (a0 : Nat) (a1 : Int32)  (post : Int32 → St → Prop) (s0 : Int32) (s1 : Nat) (st : St) : Prop := oC s1 4 ∧ P_X4_refuseToken  s1 s0 st (fun z_1 st_2 => (z_1 = 0 ∨ z_1 = 1) ∧ post z_1 st_2)
def P_X4_readEither (rc_X4_readEither : Nat → Int32 → St → (Int32 → St → Prop) → Prop) (a0 : Nat) (a1 : Int32) (st : St) (post : Int32 → St → Prop) : Prop := ((a1 < 6 → oC a0 4 ∧ P_X4_readBoth rc_X4_readEither a0 a1 st (fun z_1 st_2 => ∃ n8, P_X4_readEither_31 rc_X4_readEither a0 a1  post n8 z_1 0 st_2)) ∧ (¬ a1 < 6 → oC a0 4 ∧ P_X4_startsExpression  a0 st (fun z_3 st_4 => ((z_3 = 0 → P_X4_readEither_19 rc_X4_readEither a0 a1  post 1 a0 st_4) ∧ (¬ z_3 = 0 → P_X4_readEither_19 rc_X4_readEither a0 a1  post 2 a0 st_4)))))
set_option maxRecDepth 100000 in
set_option maxHeartbeats 4000000 in
theorem K_X4_readEither_83 {l : Launch} {E : En}  {L0 : Nat} (hL0 : 16 ≤ L0) {rc_X4_readEither : Nat → Int32 → St → (Int32 → St → Prop) → Prop} (hrc_X4_readEither : ∀ {b0 : Nat} {b1 : Int32} {st : St} {post : Int32 → St → Prop}, rc_X4_readEither b0 b1 st post → CtI l E (CFc E) L0 0 0 yX4_readEither cX4_readEither 4 (some .boolean) [.ref b0, .int b1] st post) (a0 : Nat) (a1 : Int32)  {post : Int32 → St → Prop}   (x2 : Int32) (st : St) (h : P_X4_readEither_83 rc_X4_readEither a0 a1  post x2 st) : Jg l E (CFc E) (Rm (L0 + 7) 0 0) cX4_readEither 4 RX4 (some .boolean) (fun _ => True) (QI E post 0 0) 0 0 83 [(0, .ref a0), (1, .int a1), (2, .int x2)] [] st := by
  unfold P_X4_readEither_83 at h
  refine J_iload_n 2 dX4_readEither_83 rfl rfl ?_
  exact J_retz rfl h.1 dX4_readEither_84 h.2
set_option maxRecDepth 100000 in
set_option maxHeartbeats 4000000 in
theorem K_X4_readEither_31 {l : Launch} {E : En}  {L0 : Nat} (hL0 : 16 ≤ L0) {rc_X4_readEither : Nat → Int32 → St → (Int32 → St → Prop) → Prop} (hrc_X4_readEither : ∀ {b0 : Nat} {b1 : Int32} {st : St} {post : Int32 → St → Prop}, rc_X4_readEither b0 b1 st post → CtI l E (CFc E) L0 0 0 yX4_readEither cX4_readEither 4 (some .boolean) [.ref b0, .int b1] st post) (a0 : Nat) (a1 : Int32)  {post : Int32 → St → Prop}   : ∀ (n9 : Nat) (x2 : Int32) (x3 : Int32) (st : St), P_X4_readEither_31 rc_X4_readEither a0 a1  post n9 x2 x3 st → Jg l E (CFc E) (Rm (L0 + 7) 0 0) cX4_readEither 4 RX4 (some .boolean) (fun _ => True) (QI E post 0 0) 0 0 31 [(0, .ref a0), (1, .int a1), (2, .int x2), (3, .int x3)] [] st := by
  intro n9
  induction n9 with
  | zero => intro x2 x3 st h; exact h.elim
  | succ n9 ih =>
    intro x2 x3 st h
    unfold P_X4_readEither_31 at h
    refine J_iload_n 3 dX4_readEither_31 rfl rfl ?_
    refine J_sipush 700 dX4_readEither_32 (by decide) ?_
    refine J_icmp_ge 83 dX4_readEither_35 (by decide) (fun hc => ?_) (fun hc => ?_)
    · have h := h.1 hc
      exact J_lv [0, 1, 2] rfl (K_X4_readEither_83  hL0 hrc_X4_readEither a0 a1  x2 st h)
    · have h := h.2 hc
      refine J_iload_n 2 dX4_readEither_38 rfl rfl ?_
      refine J_if_eq 83 dX4_readEither_39 (by decide) (fun hc => ?_) (fun hc => ?_)
      · have h := h.1 hc
        exact J_lv [0, 1, 2] rfl (K_X4_readEither_83  hL0 hrc_X4_readEither a0 a1  x2 st h)
      · have h := h.2 hc
        refine J_aload_n 0 dX4_readEither_42 rfl rfl ?_
        obtain ⟨r_1, hf, h⟩ := h
        refine J_getR fl_RX4_14 dX4_readEither_43 hf ?_
        obtain ⟨hf, h⟩ := h
        refine J_getQ fl_RX4_53 dX4_readEither_46 hf ?_
        refine J_gsW (i := 8) (by decide) k_452 dX4_readEither_49 ?_
        obtain ⟨hx, hy, h⟩ := h
        refine J_acmp_ne (rx := (gR st r_1 7)) (ry := (some 1008)) 83 dX4_readEither_52 (by decide) hx hy (fun hc => ?_) (fun hc => ?_)
        · have h := h.1 hc
          exact J_lv [0, 1, 2] rfl (K_X4_readEither_83  hL0 hrc_X4_readEither a0 a1  x2 st h)
        · have h := h.2 hc
          refine J_aload_n 0 dX4_readEither_55 rfl rfl ?_
          obtain ⟨r_2, hf, h⟩ := h
          refine J_getR fl_RX4_14 dX4_readEither_56 hf ?_
          obtain ⟨ho, h⟩ := h
          refine J_cvv (As := []) md_X8_advance k_401 (rc_obj cl_8 ho) rfl rfl ⟨(by simp only [Rm]; omega), (by simp only [Rm]; omega)⟩ ⟨Nat.le_refl _, Nat.le_refl _⟩ (Nat.le_of_ble_eq_true rfl) dX4_readEither_59 (ct_X8_advance  h) (fun st_4 h => ?_)
          refine J_aload_n 0 dX4_readEither_62 rfl rfl ?_
          refine J_iload_n 1 dX4_readEither_63 rfl rfl ?_
          obtain ⟨ho, h⟩ := h
          refine J_cvi (As := [_]) md_X4_readBoth k_456 (rc_obj cl_4 ho) rfl rfl ⟨(by simp only [Rm]; omega), (by simp only [Rm]; omega)⟩ ⟨Nat.le_refl _, Nat.le_refl _⟩ (Nat.le_of_ble_eq_true rfl) dX4_readEither_64 (ct_X4_readBoth hL0 hrc_X4_readEither h) (fun z_5 st_6 h => ?_)
          refine J_istore_n _ dX4_readEither_67 rfl (by decide) rfl ?_
          refine J_aload_n 1 dX4_readEither_68 rfl rfl ?_
          obtain ⟨r_7, hf, h⟩ := h
          refine J_getR fl_RX4_36 dX4_readEither_69 hf ?_
          refine J_bipush (-9) dX4_readEither_72 (by decide) ?_
          obtain ⟨ho, h⟩ := h
          refine J_cvv (As := [_]) md_X5_add k_448 (rc_obj cl_5 ho) rfl rfl ⟨(by simp only [Rm]; omega), (by simp only [Rm]; omega)⟩ ⟨Nat.le_refl _, Nat.le_refl _⟩ (Nat.le_of_ble_eq_true rfl) dX4_readEither_74 (ct_X5_add  h) (fun st_9 h => ?_)
          refine J_iinc 3 (x3 + 1) _ dX4_readEither_77 rfl (by rfl) (by decide) rfl ?_
          refine J_goto 31 dX4_readEither_80 (by decide) ?_
          exact J_lv [2, 3, 1, 0] rfl (ih z_5 (x3 + 1) st_9 h)
set_option maxRecDepth 100000 in
set_option maxHeartbeats 4000000 in
theorem K_X4_readEither_19 {l : Launch} {E : En}  {L0 : Nat} (hL0 : 16 ≤ L0) {rc_X4_readEither : Nat → Int32 → St → (Int32 → St → Prop) → Prop} (hrc_X4_readEither : ∀ {b0 : Nat} {b1 : Int32} {st : St} {post : Int32 → St → Prop}, rc_X4_readEither b0 b1 st post → CtI l E (CFc E) L0 0 0 yX4_readEither cX4_readEither 4 (some .boolean) [.ref b0, .int b1] st post) (a0 : Nat) (a1 : Int32)  {post : Int32 → St → Prop}   (s0 : Int32) (s1 : Nat) (st : St) (h : P_X4_readEither_19 rc_X4_readEither a0 a1  post s0 s1 st) : Jg l E (CFc E) (Rm (L0 + 7) 0 0) cX4_readEither 4 RX4 (some .boolean) (fun _ => True) (QI E post 0 0) 0 0 19 [(0, .ref a0), (1, .int a1)] [.int s0, .ref s1] st := by
  unfold P_X4_readEither_19 at h
  obtain ⟨ho, h⟩ := h
  refine J_cvi (As := [_]) md_X4_refuseToken k_392 (rc_obj cl_4 ho) rfl rfl ⟨(by simp only [Rm]; omega), (by simp only [Rm]; omega)⟩ ⟨Nat.le_refl _, Nat.le_refl _⟩ (Nat.le_of_ble_eq_true rfl) dX4_readEither_19 (ct_X4_refuseToken  h) (fun z_1 st_2 h => ?_)
  exact J_retz rfl h.1 dX4_readEither_22 h.2
set_option maxRecDepth 100000 in
set_option maxHeartbeats 4000000 in
theorem ct_X4_readEither {l : Launch} {E : En} {L0 : Nat} (hL0 : 16 ≤ L0) {rc_X4_readEither : Nat → Int32 → St → (Int32 → St → Prop) → Prop} (hrc_X4_readEither : ∀ {b0 : Nat} {b1 : Int32} {st : St} {post : Int32 → St → Prop}, rc_X4_readEither b0 b1 st post → CtI l E (CFc E) L0 0 0 yX4_readEither cX4_readEither 4 (some .boolean) [.ref b0, .int b1] st post) {a0 : Nat} {a1 : Int32} {st : St} {post : Int32 → St → Prop} (h : P_X4_readEither rc_X4_readEither a0 a1 st post) : CtI l E (CFc E) (L0 + 7) 0 0 yX4_readEither cX4_readEither 4 (some .boolean) [.ref a0, .int a1] st post := by
  refine ctI_of (by decide) (Nat.le_of_ble_eq_true rfl) ?_
  show Jg l E (CFc E) (Rm (L0 + 7) 0 0) cX4_readEither 4 RX4 (some .boolean) (fun _ => True) (QI E post 0 0) 0 0 0 [(0, .ref a0), (1, .int a1)] [] st
  unfold P_X4_readEither at h
  refine J_iload_n 1 dX4_readEither_0 rfl rfl ?_
  refine J_bipush 6 dX4_readEither_1 (by decide) ?_
  refine J_icmp_lt 23 dX4_readEither_3 (by decide) (fun hc => ?_) (fun hc => ?_)
  · have h := h.1 hc
    refine J_aload_n 0 dX4_readEither_23 rfl rfl ?_
    refine J_iload_n 1 dX4_readEither_24 rfl rfl ?_
    obtain ⟨ho, h⟩ := h
    refine J_cvi (As := [_]) md_X4_readBoth k_456 (rc_obj cl_4 ho) rfl rfl ⟨(by simp only [Rm]; omega), (by simp only [Rm]; omega)⟩ ⟨Nat.le_refl _, Nat.le_refl _⟩ (Nat.le_of_ble_eq_true rfl) dX4_readEither_25 (ct_X4_readBoth hL0 hrc_X4_readEither h) (fun z_1 st_2 h => ?_)
    refine J_istore_n _ dX4_readEither_28 rfl (by decide) rfl ?_
    refine J_iconst 0 dX4_readEither_29 (by decide) ?_
    refine J_istore_n _ dX4_readEither_30 rfl (by decide) rfl ?_
    obtain ⟨n8, h⟩ := h
    exact J_lv [2, 3, 1, 0] rfl (K_X4_readEither_31  hL0 hrc_X4_readEither a0 a1  n8 z_1 0 st_2 h)
  · have h := h.2 hc
    refine J_aload_n 0 dX4_readEither_6 rfl rfl ?_
    refine J_aload_n 0 dX4_readEither_7 rfl rfl ?_
    obtain ⟨ho, h⟩ := h
    refine J_cvi (As := []) md_X4_startsExpression k_453 (rc_obj cl_4 ho) rfl rfl ⟨(by simp only [Rm]; omega), (by simp only [Rm]; omega)⟩ ⟨Nat.le_refl _, Nat.le_refl _⟩ (Nat.le_of_ble_eq_true rfl) dX4_readEither_8 (ct_X4_startsExpression  h) (fun z_3 st_4 h => ?_)
    refine J_if_eq 18 dX4_readEither_11 (by decide) (fun hc => ?_) (fun hc => ?_)
    · have h := h.1 hc
      refine J_iconst 1 dX4_readEither_18 (by decide) ?_
      exact J_lv [0, 1] rfl (K_X4_readEither_19  hL0 hrc_X4_readEither a0 a1  1 a0 st_4 h)
    · have h := h.2 hc
      refine J_iconst 2 dX4_readEither_14 (by decide) ?_
      refine J_goto 19 dX4_readEither_15 (by decide) ?_
      exact J_lv [0, 1] rfl (K_X4_readEither_19  hL0 hrc_X4_readEither a0 a1  2 a0 st_4 h)
def PE_X4_readEither : Nat → Nat → Int32 → St → (Int32 → St → Prop) → Prop
  | 0 => fun _ _ _ _ => False
  | g + 1 => fun a0 a1 st post => P_X4_readEither (PE_X4_readEither g) a0 a1 st post
theorem ctE_X4_readEither {l : Launch} {E : En} : ∀ (g : Nat) {a0 : Nat} {a1 : Int32} {st : St} {post : Int32 → St → Prop}, PE_X4_readEither g a0 a1 st post → CtI l E (CFc E) (16 + 7 * g) 0 0 yX4_readEither cX4_readEither 4 (some .boolean) [.ref a0, .int a1] st post := by
  intro g
  induction g with
  | zero => intro a0 a1 st post h; exact h.elim
  | succ g ih =>
    intro a0 a1 st post h
    exact ct_X4_readEither (L0 := 16 + 7 * g) (by omega) (fun h => ih h) h
/-! X4_readRule -/
def P_X4_readRule_60  (a0 : Nat) (a1 : Nat) (a2 : Int32)  (post : Int32 → St → Prop) (s0 : Int32) (st : St) : Prop := (s0 = 0 ∨ s0 = 1) ∧ post s0 st
def P_X4_readRule_59  (a0 : Nat) (a1 : Nat) (a2 : Int32)  (post : Int32 → St → Prop)  (st : St) : Prop := P_X4_readRule_60  a0 a1 a2  post 0 st
def P_X4_readRule  (a0 : Nat) (a1 : Nat) (a2 : Int32) (st : St) (post : Int32 → St → Prop) : Prop := fk a1 5 0 = some 0 ∧ (((gI st a1 0) = 0 → fk a0 4 2 = some 1 ∧ ∃ r_1, rv (sR st a0 2 (some a1)) a0 4 2 = some r_1 ∧ fk r_1 5 0 = some 0 ∧ fk a0 4 3 = some 0 ∧ ∃ r_2, rv (sI (sI (sR st a0 2 (some a1)) r_1 0 1) a0 3 a2) a0 4 0 = some r_2 ∧ oC r_2 8 ∧ P_X8_advance  r_2 (sI (sI (sR st a0 2 (some a1)) r_1 0 1) a0 3 a2) (fun st_4 => oC a0 4 ∧ PE_X4_readEither 8 a0 0 st_4 (fun z_5 st_6 => ((z_5 = 0 → P_X4_readRule_59  a0 a1 a2  post st_6) ∧ (¬ z_5 = 0 → oC a0 4 ∧ P_X4_takeSign  a0 59 st_6 (fun z_7 st_8 => ((z_7 = 0 → P_X4_readRule_59  a0 a1 a2  post st_8) ∧ (¬ z_7 = 0 → P_X4_readRule_60  a0 a1 a2  post 1 st_8)))))))) ∧ (¬ (gI st a1 0) = 0 → oC a0 4 ∧ P_X4_refuseToken  a0 5 st (fun z_9 st_10 => (z_9 = 0 ∨ z_9 = 1) ∧ post z_9 st_10)))
set_option maxRecDepth 100000 in
set_option maxHeartbeats 4000000 in
theorem K_X4_readRule_60 {l : Launch} {E : En}   (a0 : Nat) (a1 : Nat) (a2 : Int32)  {post : Int32 → St → Prop}   (s0 : Int32) (st : St) (h : P_X4_readRule_60  a0 a1 a2  post s0 st) : Jg l E (CFc E) (Rm 81 0 0) cX4_readRule 3 RX4 (some .boolean) (fun _ => True) (QI E post 0 0) 0 0 60 [(0, .ref a0), (1, .ref a1), (2, .int a2)] [.int s0] st := by
  unfold P_X4_readRule_60 at h
  exact J_retz rfl h.1 dX4_readRule_60 h.2
set_option maxRecDepth 100000 in
set_option maxHeartbeats 4000000 in
theorem K_X4_readRule_59 {l : Launch} {E : En}   (a0 : Nat) (a1 : Nat) (a2 : Int32)  {post : Int32 → St → Prop}    (st : St) (h : P_X4_readRule_59  a0 a1 a2  post  st) : Jg l E (CFc E) (Rm 81 0 0) cX4_readRule 3 RX4 (some .boolean) (fun _ => True) (QI E post 0 0) 0 0 59 [(0, .ref a0), (1, .ref a1), (2, .int a2)] [] st := by
  unfold P_X4_readRule_59 at h
  refine J_iconst 0 dX4_readRule_59 (by decide) ?_
  exact J_lv [0, 1, 2] rfl (K_X4_readRule_60   a0 a1 a2  0 st h)
set_option maxRecDepth 100000 in
set_option maxHeartbeats 4000000 in
theorem ct_X4_readRule {l : Launch} {E : En}  {a0 : Nat} {a1 : Nat} {a2 : Int32} {st : St} {post : Int32 → St → Prop} (h : P_X4_readRule  a0 a1 a2 st post) : CtI l E (CFc E) 81 0 0 yX4_readRule cX4_readRule 3 (some .boolean) [.ref a0, .ref a1, .int a2] st post := by
  refine ctI_of (by decide) (Nat.le_of_ble_eq_true rfl) ?_
  show Jg l E (CFc E) (Rm 81 0 0) cX4_readRule 3 RX4 (some .boolean) (fun _ => True) (QI E post 0 0) 0 0 0 [(0, .ref a0), (1, .ref a1), (2, .int a2)] [] st
  unfold P_X4_readRule at h
  refine J_aload_n 1 dX4_readRule_0 rfl rfl ?_
  obtain ⟨hf, h⟩ := h
  refine J_getI fl_RX4_154 dX4_readRule_1 hf ?_
  refine J_if_eq 13 dX4_readRule_4 (by decide) (fun hc => ?_) (fun hc => ?_)
  · have h := h.1 hc
    refine J_aload_n 0 dX4_readRule_13 rfl rfl ?_
    refine J_aload_n 1 dX4_readRule_14 rfl rfl ?_
    obtain ⟨hf, h⟩ := h
    refine J_putQ (v := (some a1)) fp_RX4_36 dX4_readRule_15 (Or.inl ⟨_, rfl⟩) hf ?_
    refine J_aload_n 0 dX4_readRule_18 rfl rfl ?_
    obtain ⟨r_1, hf, h⟩ := h
    refine J_getR fl_RX4_36 dX4_readRule_19 hf ?_
    refine J_iconst 1 dX4_readRule_22 (by decide) ?_
    obtain ⟨hf, h⟩ := h
    refine J_putZ fp_RX4_154 dX4_readRule_23 rfl (Or.inr rfl) hf ?_
    refine J_aload_n 0 dX4_readRule_26 rfl rfl ?_
    refine J_iload_n 2 dX4_readRule_27 rfl rfl ?_
    obtain ⟨hf, h⟩ := h
    refine J_putI fp_RX4_158 dX4_readRule_28 rfl hf ?_
    refine J_aload_n 0 dX4_readRule_31 rfl rfl ?_
    obtain ⟨r_2, hf, h⟩ := h
    refine J_getR fl_RX4_14 dX4_readRule_32 hf ?_
    obtain ⟨ho, h⟩ := h
    refine J_cvv (As := []) md_X8_advance k_401 (rc_obj cl_8 ho) rfl rfl ⟨Nat.le_of_ble_eq_true rfl, Nat.le_of_ble_eq_true rfl⟩ ⟨Nat.le_of_ble_eq_true rfl, Nat.le_of_ble_eq_true rfl⟩ (Nat.le_of_ble_eq_true rfl) dX4_readRule_35 (ct_X8_advance  h) (fun st_4 h => ?_)
    refine J_aload_n 0 dX4_readRule_38 rfl rfl ?_
    refine J_iconst 0 dX4_readRule_39 (by decide) ?_
    obtain ⟨ho, h⟩ := h
    refine J_cvi (As := [_]) md_X4_readEither k_465 (rc_obj cl_4 ho) rfl rfl ⟨Nat.le_of_ble_eq_true rfl, Nat.le_of_ble_eq_true rfl⟩ ⟨Nat.le_of_ble_eq_true rfl, Nat.le_of_ble_eq_true rfl⟩ (Nat.le_of_ble_eq_true rfl) dX4_readRule_40 (ctE_X4_readEither 8 h) (fun z_5 st_6 h => ?_)
    refine J_if_eq 59 dX4_readRule_43 (by decide) (fun hc => ?_) (fun hc => ?_)
    · have h := h.1 hc
      exact J_lv [0, 1, 2] rfl (K_X4_readRule_59   a0 a1 a2  st_6 h)
    · have h := h.2 hc
      refine J_aload_n 0 dX4_readRule_46 rfl rfl ?_
      refine J_bipush 59 dX4_readRule_47 (by decide) ?_
      obtain ⟨ho, h⟩ := h
      refine J_cvi (As := [_]) md_X4_takeSign k_415 (rc_obj cl_4 ho) rfl rfl ⟨Nat.le_of_ble_eq_true rfl, Nat.le_of_ble_eq_true rfl⟩ ⟨Nat.le_of_ble_eq_true rfl, Nat.le_of_ble_eq_true rfl⟩ (Nat.le_of_ble_eq_true rfl) dX4_readRule_49 (ct_X4_takeSign  h) (fun z_7 st_8 h => ?_)
      refine J_if_eq 59 dX4_readRule_52 (by decide) (fun hc => ?_) (fun hc => ?_)
      · have h := h.1 hc
        exact J_lv [0, 1, 2] rfl (K_X4_readRule_59   a0 a1 a2  st_8 h)
      · have h := h.2 hc
        refine J_iconst 1 dX4_readRule_55 (by decide) ?_
        refine J_goto 60 dX4_readRule_56 (by decide) ?_
        exact J_lv [0, 1, 2] rfl (K_X4_readRule_60   a0 a1 a2  1 st_8 h)
  · have h := h.2 hc
    refine J_aload_n 0 dX4_readRule_7 rfl rfl ?_
    refine J_iconst 5 dX4_readRule_8 (by decide) ?_
    obtain ⟨ho, h⟩ := h
    refine J_cvi (As := [_]) md_X4_refuseToken k_392 (rc_obj cl_4 ho) rfl rfl ⟨Nat.le_of_ble_eq_true rfl, Nat.le_of_ble_eq_true rfl⟩ ⟨Nat.le_of_ble_eq_true rfl, Nat.le_of_ble_eq_true rfl⟩ (Nat.le_of_ble_eq_true rfl) dX4_readRule_9 (ct_X4_refuseToken  h) (fun z_9 st_10 h => ?_)
    exact J_retz rfl h.1 dX4_readRule_12 h.2
/-! X4_readDale -/
def P_X4_readDale_187  (a0 : Nat) (a1 : Int32)  (post : Int32 → St → Prop)  (st : St) : Prop := fk a0 4 6 = some 0 ∧ post (gI st a0 6) st
def P_X4_readDale_181  (a0 : Nat) (a1 : Int32) (k22 : Int32 → Int32 → St → Prop) (post : Int32 → St → Prop) (x2 : Int32) (x3 : Int32) (st : St) : Prop := k22 x2 (x3 + 1) st
def P_X4_readDale_22  (a0 : Nat) (a1 : Int32)  (post : Int32 → St → Prop) : Nat → Int32 → Int32 → St → Prop
  | 0, _, _, _ => False
  | n9 + 1, x2, x3, st => ((700 ≤ x3 → P_X4_readDale_187  a0 a1  post st) ∧ (¬ 700 ≤ x3 → ((x2 = 0 → P_X4_readDale_187  a0 a1  post st) ∧ (¬ x2 = 0 → ∃ r_1, rv st a0 4 0 = some r_1 ∧ fk r_1 8 3 = some 0 ∧ (((gI st r_1 3) = 0 → P_X4_readDale_187  a0 a1  post st) ∧ (¬ (gI st r_1 3) = 0 → ∃ r_2, rv st a0 4 0 = some r_2 ∧ fk r_2 8 7 = some 1 ∧ (((gR st r_2 7) = none → oC a0 4 ∧ P_X4_refuseToken  a0 1 st (fun z_4 st_5 => P_X4_readDale_181  a0 a1 (fun x2 x3 st => P_X4_readDale_22  a0 a1  post n9 x2 x3 st) post z_4 x3 st_5)) ∧ (∀ i9 : Nat, (gR st r_2 7) = some i9 → ∃ i_6, (gR st r_2 7) = some i_6 ∧ enOk i_6 ∧ (((pkL.getD (i_6 - 1000) 0) = (-1) → wOk (gR st r_2 7) ∧ wOk (some 1004) ∧ ((¬ (gR st r_2 7) = (some 1004) → wOk (gR st r_2 7) ∧ wOk (some 1005) ∧ ((¬ (gR st r_2 7) = (some 1005) → wOk (gR st r_2 7) ∧ wOk (some 1006) ∧ ((¬ (gR st r_2 7) = (some 1006) → wOk (gR st r_2 7) ∧ wOk (some 1007) ∧ ((¬ (gR st r_2 7) = (some 1007) → oC a0 4 ∧ P_X4_refuseToken  a0 1 st (fun z_7 st_8 => P_X4_readDale_181  a0 a1 (fun x2 x3 st => P_X4_readDale_22  a0 a1  post n9 x2 x3 st) post z_7 x3 st_8)) ∧ ((gR st r_2 7) = (some 1007) → ∃ r_9, rv st a0 4 1 = some r_9 ∧ ∃ r_10, rv st r_9 2 0 = some r_10 ∧ ∃ r_11, rv st r_10 3 4 = some r_11 ∧ oC a0 4 ∧ P_X4_readRule  a0 r_11 5 st (fun z_12 st_13 => P_X4_readDale_181  a0 a1 (fun x2 x3 st => P_X4_readDale_22  a0 a1  post n9 x2 x3 st) post z_12 x3 st_13)))) ∧ ((gR st r_2 7) = (some 1006) → ∃ r_14, rv st a0 4 1 = some r_14 ∧ ∃ r_15, rv st r_14 2 0 = some r_15 ∧ ∃ r_16, rv st r_15 3 3 = some r_16 ∧ oC a0 4 ∧ P_X4_readRule  a0 r_16 8 st (fun z_17 st_18 => P_X4_readDale_181  a0 a1 (fun x2 x3 st => P_X4_readDale_22  a0 a1  post n9 x2 x3 st) post z_17 x3 st_18)))) ∧ ((gR st r_2 7) = (some 1005) → oC a0 4 ∧ P_X4_readTie  a0 st (fun z_19 st_20 => P_X4_readDale_181  a0 a1 (fun x2 x3 st => P_X4_readDale_22  a0 a1  post n9 x2 x3 st) post z_19 x3 st_20)))) ∧ ((gR st r_2 7) = (some 1004) → oC a0 4 ∧ P_X4_readBride  a0 st (fun z_21 st_22 => P_X4_readDale_181  a0 a1 (fun x2 x3 st => P_X4_readDale_22  a0 a1  post n9 x2 x3 st) post z_21 x3 st_22)))) ∧ (¬ (pkL.getD (i_6 - 1000) 0) = (-1) → ∃ i_23, (gR st r_2 7) = some i_23 ∧ enOk i_23 ∧ oC a0 4 ∧ P_X4_readPerson  a0 (pkL.getD (i_23 - 1000) 0) st (fun z_24 st_25 => P_X4_readDale_181  a0 a1 (fun x2 x3 st => P_X4_readDale_22  a0 a1  post n9 x2 x3 st) post z_24 x3 st_25)))))))))))
def P_X4_readDale  (a0 : Nat) (a1 : Int32) (st : St) (post : Int32 → St → Prop) : Prop := fk a0 4 6 = some 0 ∧ fk a0 4 4 = some 0 ∧ ∃ r_1, rv (sI (sI st a0 6 0) a0 4 0) a0 4 0 = some r_1 ∧ oC r_1 8 ∧ P_X8_start  r_1 a1 (sI (sI st a0 6 0) a0 4 0) (fun st_3 => ∃ n8, P_X4_readDale_22  a0 a1  post n8 1 0 st_3)
set_option maxRecDepth 100000 in
set_option maxHeartbeats 4000000 in
theorem K_X4_readDale_187 {l : Launch} {E : En}   (a0 : Nat) (a1 : Int32)  {post : Int32 → St → Prop}    (st : St) (h : P_X4_readDale_187  a0 a1  post  st) : Jg l E (CFc E) (Rm 82 0 0) cX4_readDale 5 RX4 (some .int) (fun _ => True) (QI E post 0 0) 0 0 187 [(0, .ref a0), (1, .int a1)] [] st := by
  unfold P_X4_readDale_187 at h
  refine J_aload_n 0 dX4_readDale_187 rfl rfl ?_
  obtain ⟨hf, h⟩ := h
  refine J_getI fl_RX4_39 dX4_readDale_188 hf ?_
  exact J_reti rfl dX4_readDale_191 h
set_option maxRecDepth 100000 in
set_option maxHeartbeats 4000000 in
theorem K_X4_readDale_181 {l : Launch} {E : En}   (a0 : Nat) (a1 : Int32) {k22 : Int32 → Int32 → St → Prop} {post : Int32 → St → Prop}  (hk22 : ∀ (x2 : Int32) (x3 : Int32) (st : St), k22 x2 x3 st → Jg l E (CFc E) (Rm 82 0 0) cX4_readDale 5 RX4 (some .int) (fun _ => True) (QI E post 0 0) 0 0 22 [(0, .ref a0), (1, .int a1), (2, .int x2), (3, .int x3)] [] st) (x2 : Int32) (x3 : Int32) (st : St) (h : P_X4_readDale_181  a0 a1 k22 post x2 x3 st) : Jg l E (CFc E) (Rm 82 0 0) cX4_readDale 5 RX4 (some .int) (fun _ => True) (QI E post 0 0) 0 0 181 [(0, .ref a0), (1, .int a1), (2, .int x2), (3, .int x3)] [] st := by
  unfold P_X4_readDale_181 at h
  refine J_iinc 3 (x3 + 1) _ dX4_readDale_181 rfl (by rfl) (by decide) rfl ?_
  refine J_goto 22 dX4_readDale_184 (by decide) ?_
  exact J_lv [1, 2, 3, 0] rfl (hk22 x2 (x3 + 1) st h)
set_option maxRecDepth 100000 in
set_option maxHeartbeats 4000000 in
theorem K_X4_readDale_22 {l : Launch} {E : En}   (a0 : Nat) (a1 : Int32)  {post : Int32 → St → Prop}   : ∀ (n9 : Nat) (x2 : Int32) (x3 : Int32) (st : St), P_X4_readDale_22  a0 a1  post n9 x2 x3 st → Jg l E (CFc E) (Rm 82 0 0) cX4_readDale 5 RX4 (some .int) (fun _ => True) (QI E post 0 0) 0 0 22 [(0, .ref a0), (1, .int a1), (2, .int x2), (3, .int x3)] [] st := by
  intro n9
  induction n9 with
  | zero => intro x2 x3 st h; exact h.elim
  | succ n9 ih =>
    intro x2 x3 st h
    unfold P_X4_readDale_22 at h
    refine J_iload_n 3 dX4_readDale_22 rfl rfl ?_
    refine J_sipush 700 dX4_readDale_23 (by decide) ?_
    refine J_icmp_ge 187 dX4_readDale_26 (by decide) (fun hc => ?_) (fun hc => ?_)
    · have h := h.1 hc
      exact J_lv [0, 1] rfl (K_X4_readDale_187   a0 a1  st h)
    · have h := h.2 hc
      refine J_iload_n 2 dX4_readDale_29 rfl rfl ?_
      refine J_if_eq 187 dX4_readDale_30 (by decide) (fun hc => ?_) (fun hc => ?_)
      · have h := h.1 hc
        exact J_lv [0, 1] rfl (K_X4_readDale_187   a0 a1  st h)
      · have h := h.2 hc
        refine J_aload_n 0 dX4_readDale_33 rfl rfl ?_
        obtain ⟨r_1, hf, h⟩ := h
        refine J_getR fl_RX4_14 dX4_readDale_34 hf ?_
        obtain ⟨hf, h⟩ := h
        refine J_getI fl_RX4_50 dX4_readDale_37 hf ?_
        refine J_if_eq 187 dX4_readDale_40 (by decide) (fun hc => ?_) (fun hc => ?_)
        · have h := h.1 hc
          exact J_lv [0, 1] rfl (K_X4_readDale_187   a0 a1  st h)
        · have h := h.2 hc
          refine J_aload_n 0 dX4_readDale_43 rfl rfl ?_
          obtain ⟨r_2, hf, h⟩ := h
          refine J_getR fl_RX4_14 dX4_readDale_44 hf ?_
          obtain ⟨hf, h⟩ := h
          refine J_getQ fl_RX4_53 dX4_readDale_47 hf ?_
          refine J_astoreQ _ dX4_readDale_50 (by decide) rfl ?_
          refine J_aloadQ 0 dX4_readDale_52 rfl ?_
          refine J_ifnonnull 66 dX4_readDale_54 (by decide) (fun i9 hc => ?_) (fun hc => ?_)
          · have h := h.2 i9 hc
            refine J_aloadQ 0 dX4_readDale_66 rfl ?_
            obtain ⟨i_6, hx, h⟩ := h
            refine J_some hx ?_
            obtain ⟨hf, h⟩ := h
            refine J_enK k_486 dX4_readDale_68 hf ?_
            refine J_iconst (-1) dX4_readDale_71 (by decide) ?_
            refine J_icmp_eq 88 dX4_readDale_72 (by decide) (fun hc => ?_) (fun hc => ?_)
            · have h := h.1 hc
              refine J_aloadQ 0 dX4_readDale_88 rfl ?_
              refine J_gsW (i := 4) (by decide) k_487 dX4_readDale_90 ?_
              obtain ⟨hx, hy, h⟩ := h
              refine J_acmp_ne (rx := (gR st r_2 7)) (ry := (some 1004)) 104 dX4_readDale_93 (by decide) hx hy (fun hc => ?_) (fun hc => ?_)
              · have h := h.1 hc
                refine J_aloadQ 0 dX4_readDale_104 rfl ?_
                refine J_gsW (i := 5) (by decide) k_488 dX4_readDale_106 ?_
                obtain ⟨hx, hy, h⟩ := h
                refine J_acmp_ne (rx := (gR st r_2 7)) (ry := (some 1005)) 120 dX4_readDale_109 (by decide) hx hy (fun hc => ?_) (fun hc => ?_)
                · have h := h.1 hc
                  refine J_aloadQ 0 dX4_readDale_120 rfl ?_
                  refine J_gsW (i := 6) (by decide) k_489 dX4_readDale_122 ?_
                  obtain ⟨hx, hy, h⟩ := h
                  refine J_acmp_ne (rx := (gR st r_2 7)) (ry := (some 1006)) 148 dX4_readDale_125 (by decide) hx hy (fun hc => ?_) (fun hc => ?_)
                  · have h := h.1 hc
                    refine J_aloadQ 0 dX4_readDale_148 rfl ?_
                    refine J_gsW (i := 7) (by decide) k_490 dX4_readDale_150 ?_
                    obtain ⟨hx, hy, h⟩ := h
                    refine J_acmp_ne (rx := (gR st r_2 7)) (ry := (some 1007)) 175 dX4_readDale_153 (by decide) hx hy (fun hc => ?_) (fun hc => ?_)
                    · have h := h.1 hc
                      refine J_aload_n 1 dX4_readDale_175 rfl rfl ?_
                      refine J_iconst 1 dX4_readDale_176 (by decide) ?_
                      obtain ⟨ho, h⟩ := h
                      refine J_cvi (As := [_]) md_X4_refuseToken k_392 (rc_obj cl_4 ho) rfl rfl ⟨Nat.le_of_ble_eq_true rfl, Nat.le_of_ble_eq_true rfl⟩ ⟨Nat.le_of_ble_eq_true rfl, Nat.le_of_ble_eq_true rfl⟩ (Nat.le_of_ble_eq_true rfl) dX4_readDale_177 (ct_X4_refuseToken  h) (fun z_7 st_8 h => ?_)
                      refine J_istore_n _ dX4_readDale_180 rfl (by decide) rfl ?_
                      exact J_lv [2, 3, 0, 4] rfl (K_X4_readDale_181   a0 a1 (fun x2 x3 st h => ih x2 x3 st h) z_7 x3 st_8 h)
                    · have h := h.2 hc
                      refine J_aload_n 1 dX4_readDale_156 rfl rfl ?_
                      refine J_aload_n 1 dX4_readDale_157 rfl rfl ?_
                      obtain ⟨r_9, hf, h⟩ := h
                      refine J_getR fl_RX4_20 dX4_readDale_158 hf ?_
                      obtain ⟨r_10, hf, h⟩ := h
                      refine J_getR fl_RX4_24 dX4_readDale_161 hf ?_
                      obtain ⟨r_11, hf, h⟩ := h
                      refine J_getR fl_RX4_94 dX4_readDale_164 hf ?_
                      refine J_iconst 5 dX4_readDale_167 (by decide) ?_
                      obtain ⟨ho, h⟩ := h
                      refine J_cvi (As := [_, _]) md_X4_readRule k_504 (rc_obj cl_4 ho) rfl rfl ⟨Nat.le_of_ble_eq_true rfl, Nat.le_of_ble_eq_true rfl⟩ ⟨Nat.le_of_ble_eq_true rfl, Nat.le_of_ble_eq_true rfl⟩ (Nat.le_of_ble_eq_true rfl) dX4_readDale_168 (ct_X4_readRule  h) (fun z_12 st_13 h => ?_)
                      refine J_istore_n _ dX4_readDale_171 rfl (by decide) rfl ?_
                      refine J_goto 181 dX4_readDale_172 (by decide) ?_
                      exact J_lv [2, 3, 0, 4] rfl (K_X4_readDale_181   a0 a1 (fun x2 x3 st h => ih x2 x3 st h) z_12 x3 st_13 h)
                  · have h := h.2 hc
                    refine J_aload_n 1 dX4_readDale_128 rfl rfl ?_
                    refine J_aload_n 1 dX4_readDale_129 rfl rfl ?_
                    obtain ⟨r_14, hf, h⟩ := h
                    refine J_getR fl_RX4_20 dX4_readDale_130 hf ?_
                    obtain ⟨r_15, hf, h⟩ := h
                    refine J_getR fl_RX4_24 dX4_readDale_133 hf ?_
                    obtain ⟨r_16, hf, h⟩ := h
                    refine J_getR fl_RX4_30 dX4_readDale_136 hf ?_
                    refine J_bipush 8 dX4_readDale_139 (by decide) ?_
                    obtain ⟨ho, h⟩ := h
                    refine J_cvi (As := [_, _]) md_X4_readRule k_504 (rc_obj cl_4 ho) rfl rfl ⟨Nat.le_of_ble_eq_true rfl, Nat.le_of_ble_eq_true rfl⟩ ⟨Nat.le_of_ble_eq_true rfl, Nat.le_of_ble_eq_true rfl⟩ (Nat.le_of_ble_eq_true rfl) dX4_readDale_141 (ct_X4_readRule  h) (fun z_17 st_18 h => ?_)
                    refine J_istore_n _ dX4_readDale_144 rfl (by decide) rfl ?_
                    refine J_goto 181 dX4_readDale_145 (by decide) ?_
                    exact J_lv [2, 3, 0, 4] rfl (K_X4_readDale_181   a0 a1 (fun x2 x3 st h => ih x2 x3 st h) z_17 x3 st_18 h)
                · have h := h.2 hc
                  refine J_aload_n 1 dX4_readDale_112 rfl rfl ?_
                  obtain ⟨ho, h⟩ := h
                  refine J_cvi (As := []) md_X4_readTie k_501 (rc_obj cl_4 ho) rfl rfl ⟨Nat.le_of_ble_eq_true rfl, Nat.le_of_ble_eq_true rfl⟩ ⟨Nat.le_of_ble_eq_true rfl, Nat.le_of_ble_eq_true rfl⟩ (Nat.le_of_ble_eq_true rfl) dX4_readDale_113 (ct_X4_readTie  h) (fun z_19 st_20 h => ?_)
                  refine J_istore_n _ dX4_readDale_116 rfl (by decide) rfl ?_
                  refine J_goto 181 dX4_readDale_117 (by decide) ?_
                  exact J_lv [2, 3, 0, 4] rfl (K_X4_readDale_181   a0 a1 (fun x2 x3 st h => ih x2 x3 st h) z_19 x3 st_20 h)
              · have h := h.2 hc
                refine J_aload_n 1 dX4_readDale_96 rfl rfl ?_
                obtain ⟨ho, h⟩ := h
                refine J_cvi (As := []) md_X4_readBride k_498 (rc_obj cl_4 ho) rfl rfl ⟨Nat.le_of_ble_eq_true rfl, Nat.le_of_ble_eq_true rfl⟩ ⟨Nat.le_of_ble_eq_true rfl, Nat.le_of_ble_eq_true rfl⟩ (Nat.le_of_ble_eq_true rfl) dX4_readDale_97 (ct_X4_readBride  h) (fun z_21 st_22 h => ?_)
                refine J_istore_n _ dX4_readDale_100 rfl (by decide) rfl ?_
                refine J_goto 181 dX4_readDale_101 (by decide) ?_
                exact J_lv [2, 3, 0, 4] rfl (K_X4_readDale_181   a0 a1 (fun x2 x3 st h => ih x2 x3 st h) z_21 x3 st_22 h)
            · have h := h.2 hc
              refine J_aload_n 1 dX4_readDale_75 rfl rfl ?_
              refine J_aloadQ 0 dX4_readDale_76 rfl ?_
              obtain ⟨i_23, hx, h⟩ := h
              refine J_some hx ?_
              obtain ⟨hf, h⟩ := h
              refine J_enK k_486 dX4_readDale_78 hf ?_
              obtain ⟨ho, h⟩ := h
              refine J_cvi (As := [_]) md_X4_readPerson k_495 (rc_obj cl_4 ho) rfl rfl ⟨Nat.le_of_ble_eq_true rfl, Nat.le_of_ble_eq_true rfl⟩ ⟨Nat.le_of_ble_eq_true rfl, Nat.le_of_ble_eq_true rfl⟩ (Nat.le_of_ble_eq_true rfl) dX4_readDale_81 (ct_X4_readPerson  h) (fun z_24 st_25 h => ?_)
              refine J_istore_n _ dX4_readDale_84 rfl (by decide) rfl ?_
              refine J_goto 181 dX4_readDale_85 (by decide) ?_
              exact J_lv [2, 3, 0, 4] rfl (K_X4_readDale_181   a0 a1 (fun x2 x3 st h => ih x2 x3 st h) z_24 x3 st_25 h)
          · have h := h.1 hc
            refine J_aload_n 1 dX4_readDale_57 rfl rfl ?_
            refine J_iconst 1 dX4_readDale_58 (by decide) ?_
            obtain ⟨ho, h⟩ := h
            refine J_cvi (As := [_]) md_X4_refuseToken k_392 (rc_obj cl_4 ho) rfl rfl ⟨Nat.le_of_ble_eq_true rfl, Nat.le_of_ble_eq_true rfl⟩ ⟨Nat.le_of_ble_eq_true rfl, Nat.le_of_ble_eq_true rfl⟩ (Nat.le_of_ble_eq_true rfl) dX4_readDale_59 (ct_X4_refuseToken  h) (fun z_4 st_5 h => ?_)
            refine J_istore_n _ dX4_readDale_62 rfl (by decide) rfl ?_
            refine J_goto 181 dX4_readDale_63 (by decide) ?_
            exact J_lv [2, 3, 0, 4] rfl (K_X4_readDale_181   a0 a1 (fun x2 x3 st h => ih x2 x3 st h) z_4 x3 st_5 h)
set_option maxRecDepth 100000 in
set_option maxHeartbeats 4000000 in
theorem ct_X4_readDale {l : Launch} {E : En}  {a0 : Nat} {a1 : Int32} {st : St} {post : Int32 → St → Prop} (h : P_X4_readDale  a0 a1 st post) : CtI l E (CFc E) 82 0 0 yX4_readDale cX4_readDale 5 (some .int) [.ref a0, .int a1] st post := by
  refine ctI_of (by decide) (Nat.le_of_ble_eq_true rfl) ?_
  show Jg l E (CFc E) (Rm 82 0 0) cX4_readDale 5 RX4 (some .int) (fun _ => True) (QI E post 0 0) 0 0 0 [(0, .ref a0), (1, .int a1)] [] st
  unfold P_X4_readDale at h
  refine J_aload_n 0 dX4_readDale_0 rfl rfl ?_
  refine J_iconst 0 dX4_readDale_1 (by decide) ?_
  obtain ⟨hf, h⟩ := h
  refine J_putI fp_RX4_39 dX4_readDale_2 rfl hf ?_
  refine J_aload_n 0 dX4_readDale_5 rfl rfl ?_
  refine J_iconst 0 dX4_readDale_6 (by decide) ?_
  obtain ⟨hf, h⟩ := h
  refine J_putI fp_RX4_43 dX4_readDale_7 rfl hf ?_
  refine J_aload_n 0 dX4_readDale_10 rfl rfl ?_
  obtain ⟨r_1, hf, h⟩ := h
  refine J_getR fl_RX4_14 dX4_readDale_11 hf ?_
  refine J_iload_n 1 dX4_readDale_14 rfl rfl ?_
  obtain ⟨ho, h⟩ := h
  refine J_cvv (As := [_]) md_X8_start k_492 (rc_obj cl_8 ho) rfl rfl ⟨Nat.le_of_ble_eq_true rfl, Nat.le_of_ble_eq_true rfl⟩ ⟨Nat.le_of_ble_eq_true rfl, Nat.le_of_ble_eq_true rfl⟩ (Nat.le_of_ble_eq_true rfl) dX4_readDale_15 (ct_X8_start  h) (fun st_3 h => ?_)
  refine J_iconst 1 dX4_readDale_18 (by decide) ?_
  refine J_istore_n _ dX4_readDale_19 rfl (by decide) rfl ?_
  refine J_iconst 0 dX4_readDale_20 (by decide) ?_
  refine J_istore_n _ dX4_readDale_21 rfl (by decide) rfl ?_
  obtain ⟨n8, h⟩ := h
  exact J_lv [2, 3, 1, 0] rfl (K_X4_readDale_22   a0 a1  n8 1 0 st_3 h)
