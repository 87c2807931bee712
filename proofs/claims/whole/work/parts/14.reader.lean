/-! X4_place -/
def P_X4_place  (a0 : Nat) (st : St) (post : Int32 → St → Prop) : Prop := ∃ r_1, rv st a0 4 0 = some r_1 ∧ fk r_1 8 4 = some 0 ∧ post (gI st r_1 4) st
set_option maxRecDepth 100000 in
set_option maxHeartbeats 4000000 in
theorem ct_X4_place {l : Launch} {E : En} {CF : CFt}  {a0 : Nat} {st : St} {post : Int32 → St → Prop} (h : P_X4_place  a0 st post) : CtI l E CF 1 0 0 yX4_place cX4_place 1 (some .int) [.ref a0] st post := by
  refine ctI_of (by decide) (Nat.le_of_ble_eq_true rfl) ?_
  show Jg l E CF (Rm 1 0 0) cX4_place 1 RX4 (some .int) (QI E post 0 0) 0 0 0 [(0, .ref a0)] [] st
  unfold P_X4_place at h
  refine J_aload_n 0 dX4_place_0 rfl rfl ?_
  obtain ⟨r_1, hf, h⟩ := h
  refine J_getR fl_RX4_14 dX4_place_1 hf ?_
  obtain ⟨hf, h⟩ := h
  refine J_getI fl_RX4_97 dX4_place_4 hf ?_
  exact J_reti rfl dX4_place_7 h
/-! X4_refuseToken -/
def P_X4_refuseToken  (a0 : Nat) (a1 : Int32) (st : St) (post : Int32 → St → Prop) : Prop := fk a0 4 6 = some 0 ∧ post 0 (sI st a0 6 a1)
set_option maxRecDepth 100000 in
set_option maxHeartbeats 4000000 in
theorem ct_X4_refuseToken {l : Launch} {E : En} {CF : CFt}  {a0 : Nat} {a1 : Int32} {st : St} {post : Int32 → St → Prop} (h : P_X4_refuseToken  a0 a1 st post) : CtI l E CF 1 0 0 yX4_refuseToken cX4_refuseToken 2 (some .boolean) [.ref a0, .int a1] st post := by
  refine ctI_of (by decide) (Nat.le_of_ble_eq_true rfl) ?_
  show Jg l E CF (Rm 1 0 0) cX4_refuseToken 2 RX4 (some .boolean) (QI E post 0 0) 0 0 0 [(0, .ref a0), (1, .int a1)] [] st
  unfold P_X4_refuseToken at h
  refine J_aload_n 0 dX4_refuseToken_0 rfl rfl ?_
  refine J_iload_n 1 dX4_refuseToken_1 rfl rfl ?_
  obtain ⟨hf, h⟩ := h
  refine J_putI fp_RX4_39 dX4_refuseToken_2 rfl hf ?_
  refine J_iconst 0 dX4_refuseToken_5 (by decide) ?_
  exact J_retz rfl (Or.inl rfl) dX4_refuseToken_6 h
/-! X4_isNumber -/
def P_X4_isNumber_40  (a0 : Nat)  (post : Int32 → St → Prop) (s0 : Int32) (st : St) : Prop := (s0 = 0 ∨ s0 = 1) ∧ post s0 st
def P_X4_isNumber_35  (a0 : Nat)  (post : Int32 → St → Prop)  (st : St) : Prop := P_X4_isNumber_40  a0  post 1 st
def P_X4_isNumber  (a0 : Nat) (st : St) (post : Int32 → St → Prop) : Prop := ∃ r_1, rv st a0 4 0 = some r_1 ∧ fk r_1 8 3 = some 0 ∧ (((gI st r_1 3) = 2 → ∃ r_2, rv st a0 4 0 = some r_2 ∧ fk r_2 8 6 = some 0 ∧ (((gI st r_2 6) = 0 → P_X4_isNumber_35  a0  post st) ∧ (¬ (gI st r_2 6) = 0 → oC a0 4 ∧ P_X4_refuseToken  a0 2 st (fun z_3 st_4 => ((z_3 = 0 → P_X4_isNumber_40  a0  post 0 st_4) ∧ (¬ z_3 = 0 → P_X4_isNumber_35  a0  post st_4)))))) ∧ (¬ (gI st r_1 3) = 2 → oC a0 4 ∧ P_X4_refuseToken  a0 1 st (fun z_5 st_6 => (z_5 = 0 ∨ z_5 = 1) ∧ post z_5 st_6)))
set_option maxRecDepth 100000 in
set_option maxHeartbeats 4000000 in
theorem K_X4_isNumber_40 {l : Launch} {E : En} {CF : CFt}  (a0 : Nat)  {post : Int32 → St → Prop}  (s0 : Int32) (st : St) (h : P_X4_isNumber_40  a0  post s0 st) : Jg l E CF (Rm 2 0 0) cX4_isNumber 1 RX4 (some .boolean) (QI E post 0 0) 0 0 40 [(0, .ref a0)] [.int s0] st := by
  unfold P_X4_isNumber_40 at h
  exact J_retz rfl h.1 dX4_isNumber_40 h.2
set_option maxRecDepth 100000 in
set_option maxHeartbeats 4000000 in
theorem K_X4_isNumber_35 {l : Launch} {E : En} {CF : CFt}  (a0 : Nat)  {post : Int32 → St → Prop}   (st : St) (h : P_X4_isNumber_35  a0  post  st) : Jg l E CF (Rm 2 0 0) cX4_isNumber 1 RX4 (some .boolean) (QI E post 0 0) 0 0 35 [(0, .ref a0)] [] st := by
  unfold P_X4_isNumber_35 at h
  refine J_iconst 1 dX4_isNumber_35 (by decide) ?_
  refine J_goto 40 dX4_isNumber_36 (by decide) ?_
  exact J_lv [0] rfl (K_X4_isNumber_40  a0  1 st h)
set_option maxRecDepth 100000 in
set_option maxHeartbeats 4000000 in
theorem ct_X4_isNumber {l : Launch} {E : En} {CF : CFt}  {a0 : Nat} {st : St} {post : Int32 → St → Prop} (h : P_X4_isNumber  a0 st post) : CtI l E CF 2 0 0 yX4_isNumber cX4_isNumber 1 (some .boolean) [.ref a0] st post := by
  refine ctI_of (by decide) (Nat.le_of_ble_eq_true rfl) ?_
  show Jg l E CF (Rm 2 0 0) cX4_isNumber 1 RX4 (some .boolean) (QI E post 0 0) 0 0 0 [(0, .ref a0)] [] st
  unfold P_X4_isNumber at h
  refine J_aload_n 0 dX4_isNumber_0 rfl rfl ?_
  obtain ⟨r_1, hf, h⟩ := h
  refine J_getR fl_RX4_14 dX4_isNumber_1 hf ?_
  obtain ⟨hf, h⟩ := h
  refine J_getI fl_RX4_50 dX4_isNumber_4 hf ?_
  refine J_iconst 2 dX4_isNumber_7 (by decide) ?_
  refine J_icmp_eq 17 dX4_isNumber_8 (by decide) (fun hc => ?_) (fun hc => ?_)
  · have h := h.1 hc
    refine J_aload_n 0 dX4_isNumber_17 rfl rfl ?_
    obtain ⟨r_2, hf, h⟩ := h
    refine J_getR fl_RX4_14 dX4_isNumber_18 hf ?_
    obtain ⟨hf, h⟩ := h
    refine J_getI fl_RX4_164 dX4_isNumber_21 hf ?_
    refine J_if_eq 35 dX4_isNumber_24 (by decide) (fun hc => ?_) (fun hc => ?_)
    · have h := h.1 hc
      exact J_lv [0] rfl (K_X4_isNumber_35  a0  st h)
    · have h := h.2 hc
      refine J_aload_n 0 dX4_isNumber_27 rfl rfl ?_
      refine J_iconst 2 dX4_isNumber_28 (by decide) ?_
      obtain ⟨⟨fl9, ho⟩, h⟩ := h
      refine J_cvi (As := [_]) md_X4_refuseToken k_392 cl_4 ho rfl rfl ⟨Nat.le_of_ble_eq_true rfl, Nat.le_of_ble_eq_true rfl⟩ ⟨Nat.le_refl _, Nat.le_refl _⟩ (Nat.le_of_ble_eq_true rfl) dX4_isNumber_29 (ct_X4_refuseToken  h) (fun z_3 st_4 h => ?_)
      refine J_if_eq 39 dX4_isNumber_32 (by decide) (fun hc => ?_) (fun hc => ?_)
      · have h := h.1 hc
        refine J_iconst 0 dX4_isNumber_39 (by decide) ?_
        exact J_lv [0] rfl (K_X4_isNumber_40  a0  0 st_4 h)
      · have h := h.2 hc
        exact J_lv [0] rfl (K_X4_isNumber_35  a0  st_4 h)
  · have h := h.2 hc
    refine J_aload_n 0 dX4_isNumber_11 rfl rfl ?_
    refine J_iconst 1 dX4_isNumber_12 (by decide) ?_
    obtain ⟨⟨fl9, ho⟩, h⟩ := h
    refine J_cvi (As := [_]) md_X4_refuseToken k_392 cl_4 ho rfl rfl ⟨Nat.le_of_ble_eq_true rfl, Nat.le_of_ble_eq_true rfl⟩ ⟨Nat.le_refl _, Nat.le_refl _⟩ (Nat.le_of_ble_eq_true rfl) dX4_isNumber_13 (ct_X4_refuseToken  h) (fun z_5 st_6 h => ?_)
    exact J_retz rfl h.1 dX4_isNumber_16 h.2
/-! X4_isKnown -/
def P_X4_isKnown_31  (a0 : Nat) (a1 : Int32)  (post : Int32 → St → Prop) (s0 : Int32) (st : St) : Prop := (s0 = 0 ∨ s0 = 1) ∧ post s0 st
def P_X4_isKnown_30  (a0 : Nat) (a1 : Int32)  (post : Int32 → St → Prop)  (st : St) : Prop := P_X4_isKnown_31  a0 a1  post 0 st
def P_X4_isKnown_26  (a0 : Nat) (a1 : Int32)  (post : Int32 → St → Prop)  (st : St) : Prop := P_X4_isKnown_31  a0 a1  post 1 st
def P_X4_isKnown  (a0 : Nat) (a1 : Int32) (st : St) (post : Int32 → St → Prop) : Prop := oC a0 4 ∧ P_X4_isNumber  a0 st (fun z_1 st_2 => ((z_1 = 0 → P_X4_isKnown_30  a0 a1  post st_2) ∧ (¬ z_1 = 0 → ∃ r_3, rv st_2 a0 4 0 = some r_3 ∧ fk r_3 8 5 = some 0 ∧ (((gI st_2 r_3 5) < a1 → P_X4_isKnown_26  a0 a1  post st_2) ∧ (¬ (gI st_2 r_3 5) < a1 → oC a0 4 ∧ P_X4_refuseToken  a0 3 st_2 (fun z_4 st_5 => ((z_4 = 0 → P_X4_isKnown_30  a0 a1  post st_5) ∧ (¬ z_4 = 0 → P_X4_isKnown_26  a0 a1  post st_5))))))))
set_option maxRecDepth 100000 in
set_option maxHeartbeats 4000000 in
theorem K_X4_isKnown_31 {l : Launch} {E : En} {CF : CFt}  (a0 : Nat) (a1 : Int32)  {post : Int32 → St → Prop}  (s0 : Int32) (st : St) (h : P_X4_isKnown_31  a0 a1  post s0 st) : Jg l E CF (Rm 3 0 0) cX4_isKnown 2 RX4 (some .boolean) (QI E post 0 0) 0 0 31 [(0, .ref a0), (1, .int a1)] [.int s0] st := by
  unfold P_X4_isKnown_31 at h
  exact J_retz rfl h.1 dX4_isKnown_31 h.2
set_option maxRecDepth 100000 in
set_option maxHeartbeats 4000000 in
theorem K_X4_isKnown_30 {l : Launch} {E : En} {CF : CFt}  (a0 : Nat) (a1 : Int32)  {post : Int32 → St → Prop}   (st : St) (h : P_X4_isKnown_30  a0 a1  post  st) : Jg l E CF (Rm 3 0 0) cX4_isKnown 2 RX4 (some .boolean) (QI E post 0 0) 0 0 30 [(0, .ref a0), (1, .int a1)] [] st := by
  unfold P_X4_isKnown_30 at h
  refine J_iconst 0 dX4_isKnown_30 (by decide) ?_
  exact J_lv [0, 1] rfl (K_X4_isKnown_31  a0 a1  0 st h)
set_option maxRecDepth 100000 in
set_option maxHeartbeats 4000000 in
theorem K_X4_isKnown_26 {l : Launch} {E : En} {CF : CFt}  (a0 : Nat) (a1 : Int32)  {post : Int32 → St → Prop}   (st : St) (h : P_X4_isKnown_26  a0 a1  post  st) : Jg l E CF (Rm 3 0 0) cX4_isKnown 2 RX4 (some .boolean) (QI E post 0 0) 0 0 26 [(0, .ref a0), (1, .int a1)] [] st := by
  unfold P_X4_isKnown_26 at h
  refine J_iconst 1 dX4_isKnown_26 (by decide) ?_
  refine J_goto 31 dX4_isKnown_27 (by decide) ?_
  exact J_lv [0, 1] rfl (K_X4_isKnown_31  a0 a1  1 st h)
set_option maxRecDepth 100000 in
set_option maxHeartbeats 4000000 in
theorem ct_X4_isKnown {l : Launch} {E : En} {CF : CFt}  {a0 : Nat} {a1 : Int32} {st : St} {post : Int32 → St → Prop} (h : P_X4_isKnown  a0 a1 st post) : CtI l E CF 3 0 0 yX4_isKnown cX4_isKnown 2 (some .boolean) [.ref a0, .int a1] st post := by
  refine ctI_of (by decide) (Nat.le_of_ble_eq_true rfl) ?_
  show Jg l E CF (Rm 3 0 0) cX4_isKnown 2 RX4 (some .boolean) (QI E post 0 0) 0 0 0 [(0, .ref a0), (1, .int a1)] [] st
  unfold P_X4_isKnown at h
  refine J_aload_n 0 dX4_isKnown_0 rfl rfl ?_
  obtain ⟨⟨fl9, ho⟩, h⟩ := h
  refine J_cvi (As := []) md_X4_isNumber k_398 cl_4 ho rfl rfl ⟨Nat.le_of_ble_eq_true rfl, Nat.le_of_ble_eq_true rfl⟩ ⟨Nat.le_refl _, Nat.le_refl _⟩ (Nat.le_of_ble_eq_true rfl) dX4_isKnown_1 (ct_X4_isNumber  h) (fun z_1 st_2 h => ?_)
  refine J_if_eq 30 dX4_isKnown_4 (by decide) (fun hc => ?_) (fun hc => ?_)
  · have h := h.1 hc
    exact J_lv [0, 1] rfl (K_X4_isKnown_30  a0 a1  st_2 h)
  · have h := h.2 hc
    refine J_aload_n 0 dX4_isKnown_7 rfl rfl ?_
    obtain ⟨r_3, hf, h⟩ := h
    refine J_getR fl_RX4_14 dX4_isKnown_8 hf ?_
    obtain ⟨hf, h⟩ := h
    refine J_getI fl_RX4_143 dX4_isKnown_11 hf ?_
    refine J_iload_n 1 dX4_isKnown_14 rfl rfl ?_
    refine J_icmp_lt 26 dX4_isKnown_15 (by decide) (fun hc => ?_) (fun hc => ?_)
    · have h := h.1 hc
      exact J_lv [0, 1] rfl (K_X4_isKnown_26  a0 a1  st_2 h)
    · have h := h.2 hc
      refine J_aload_n 0 dX4_isKnown_18 rfl rfl ?_
      refine J_iconst 3 dX4_isKnown_19 (by decide) ?_
      obtain ⟨⟨fl9, ho⟩, h⟩ := h
      refine J_cvi (As := [_]) md_X4_refuseToken k_392 cl_4 ho rfl rfl ⟨Nat.le_of_ble_eq_true rfl, Nat.le_of_ble_eq_true rfl⟩ ⟨Nat.le_refl _, Nat.le_refl _⟩ (Nat.le_of_ble_eq_true rfl) dX4_isKnown_20 (ct_X4_refuseToken  h) (fun z_4 st_5 h => ?_)
      refine J_if_eq 30 dX4_isKnown_23 (by decide) (fun hc => ?_) (fun hc => ?_)
      · have h := h.1 hc
        exact J_lv [0, 1] rfl (K_X4_isKnown_30  a0 a1  st_5 h)
      · have h := h.2 hc
        exact J_lv [0, 1] rfl (K_X4_isKnown_26  a0 a1  st_5 h)
/-! X4_startsExpression -/
def P_X4_startsExpression_39  (a0 : Nat)  (post : Int32 → St → Prop) (s0 : Int32) (st : St) : Prop := (s0 = 0 ∨ s0 = 1) ∧ post s0 st
def P_X4_startsExpression_34  (a0 : Nat)  (post : Int32 → St → Prop)  (st : St) : Prop := P_X4_startsExpression_39  a0  post 1 st
def P_X4_startsExpression  (a0 : Nat) (st : St) (post : Int32 → St → Prop) : Prop := ∃ r_1, rv st a0 4 0 = some r_1 ∧ fk r_1 8 3 = some 0 ∧ (((gI st r_1 3) = 2 → P_X4_startsExpression_34  a0  post st) ∧ (¬ (gI st r_1 3) = 2 → ∃ r_2, rv st a0 4 0 = some r_2 ∧ fk r_2 8 3 = some 0 ∧ (((gI st r_2 3) = 1 → P_X4_startsExpression_34  a0  post st) ∧ (¬ (gI st r_2 3) = 1 → ∃ r_3, rv st a0 4 0 = some r_3 ∧ fk r_3 8 8 = some 0 ∧ ((¬ (gI st r_3 8) = 40 → P_X4_startsExpression_39  a0  post 0 st) ∧ ((gI st r_3 8) = 40 → P_X4_startsExpression_34  a0  post st))))))
set_option maxRecDepth 100000 in
set_option maxHeartbeats 4000000 in
theorem K_X4_startsExpression_39 {l : Launch} {E : En} {CF : CFt}  (a0 : Nat)  {post : Int32 → St → Prop}  (s0 : Int32) (st : St) (h : P_X4_startsExpression_39  a0  post s0 st) : Jg l E CF (Rm 1 0 0) cX4_startsExpression 1 RX4 (some .boolean) (QI E post 0 0) 0 0 39 [(0, .ref a0)] [.int s0] st := by
  unfold P_X4_startsExpression_39 at h
  exact J_retz rfl h.1 dX4_startsExpression_39 h.2
set_option maxRecDepth 100000 in
set_option maxHeartbeats 4000000 in
theorem K_X4_startsExpression_34 {l : Launch} {E : En} {CF : CFt}  (a0 : Nat)  {post : Int32 → St → Prop}   (st : St) (h : P_X4_startsExpression_34  a0  post  st) : Jg l E CF (Rm 1 0 0) cX4_startsExpression 1 RX4 (some .boolean) (QI E post 0 0) 0 0 34 [(0, .ref a0)] [] st := by
  unfold P_X4_startsExpression_34 at h
  refine J_iconst 1 dX4_startsExpression_34 (by decide) ?_
  refine J_goto 39 dX4_startsExpression_35 (by decide) ?_
  exact J_lv [0] rfl (K_X4_startsExpression_39  a0  1 st h)
set_option maxRecDepth 100000 in
set_option maxHeartbeats 4000000 in
theorem ct_X4_startsExpression {l : Launch} {E : En} {CF : CFt}  {a0 : Nat} {st : St} {post : Int32 → St → Prop} (h : P_X4_startsExpression  a0 st post) : CtI l E CF 1 0 0 yX4_startsExpression cX4_startsExpression 1 (some .boolean) [.ref a0] st post := by
  refine ctI_of (by decide) (Nat.le_of_ble_eq_true rfl) ?_
  show Jg l E CF (Rm 1 0 0) cX4_startsExpression 1 RX4 (some .boolean) (QI E post 0 0) 0 0 0 [(0, .ref a0)] [] st
  unfold P_X4_startsExpression at h
  refine J_aload_n 0 dX4_startsExpression_0 rfl rfl ?_
  obtain ⟨r_1, hf, h⟩ := h
  refine J_getR fl_RX4_14 dX4_startsExpression_1 hf ?_
  obtain ⟨hf, h⟩ := h
  refine J_getI fl_RX4_50 dX4_startsExpression_4 hf ?_
  refine J_iconst 2 dX4_startsExpression_7 (by decide) ?_
  refine J_icmp_eq 34 dX4_startsExpression_8 (by decide) (fun hc => ?_) (fun hc => ?_)
  · have h := h.1 hc
    exact J_lv [0] rfl (K_X4_startsExpression_34  a0  st h)
  · have h := h.2 hc
    refine J_aload_n 0 dX4_startsExpression_11 rfl rfl ?_
    obtain ⟨r_2, hf, h⟩ := h
    refine J_getR fl_RX4_14 dX4_startsExpression_12 hf ?_
    obtain ⟨hf, h⟩ := h
    refine J_getI fl_RX4_50 dX4_startsExpression_15 hf ?_
    refine J_iconst 1 dX4_startsExpression_18 (by decide) ?_
    refine J_icmp_eq 34 dX4_startsExpression_19 (by decide) (fun hc => ?_) (fun hc => ?_)
    · have h := h.1 hc
      exact J_lv [0] rfl (K_X4_startsExpression_34  a0  st h)
    · have h := h.2 hc
      refine J_aload_n 0 dX4_startsExpression_22 rfl rfl ?_
      obtain ⟨r_3, hf, h⟩ := h
      refine J_getR fl_RX4_14 dX4_startsExpression_23 hf ?_
      obtain ⟨hf, h⟩ := h
      refine J_getI fl_RX4_170 dX4_startsExpression_26 hf ?_
      refine J_bipush 40 dX4_startsExpression_29 (by decide) ?_
      refine J_icmp_ne 38 dX4_startsExpression_31 (by decide) (fun hc => ?_) (fun hc => ?_)
      · have h := h.1 hc
        refine J_iconst 0 dX4_startsExpression_38 (by decide) ?_
        exact J_lv [0] rfl (K_X4_startsExpression_39  a0  0 st h)
      · have h := h.2 hc
        exact J_lv [0] rfl (K_X4_startsExpression_34  a0  st h)
/-! X8_isLetter -/
def P_X8_isLetter_17  (a0 : Int32)  (post : Int32 → St → Prop) (s0 : Int32) (st : St) : Prop := (s0 = 0 ∨ s0 = 1) ∧ post s0 st
def P_X8_isLetter_16  (a0 : Int32)  (post : Int32 → St → Prop)  (st : St) : Prop := P_X8_isLetter_17  a0  post 0 st
def P_X8_isLetter  (a0 : Int32) (st : St) (post : Int32 → St → Prop) : Prop := ((a0 < 97 → P_X8_isLetter_16  a0  post st) ∧ (¬ a0 < 97 → ((122 < a0 → P_X8_isLetter_16  a0  post st) ∧ (¬ 122 < a0 → P_X8_isLetter_17  a0  post 1 st))))
set_option maxRecDepth 100000 in
set_option maxHeartbeats 4000000 in
theorem K_X8_isLetter_17 {l : Launch} {E : En} {CF : CFt}  (a0 : Int32)  {post : Int32 → St → Prop}  (s0 : Int32) (st : St) (h : P_X8_isLetter_17  a0  post s0 st) : Jg l E CF (Rm 1 0 0) cX8_isLetter 1 RX8 (some .boolean) (QI E post 0 0) 0 0 17 [(0, .int a0)] [.int s0] st := by
  unfold P_X8_isLetter_17 at h
  exact J_retz rfl h.1 dX8_isLetter_17 h.2
set_option maxRecDepth 100000 in
set_option maxHeartbeats 4000000 in
theorem K_X8_isLetter_16 {l : Launch} {E : En} {CF : CFt}  (a0 : Int32)  {post : Int32 → St → Prop}   (st : St) (h : P_X8_isLetter_16  a0  post  st) : Jg l E CF (Rm 1 0 0) cX8_isLetter 1 RX8 (some .boolean) (QI E post 0 0) 0 0 16 [(0, .int a0)] [] st := by
  unfold P_X8_isLetter_16 at h
  refine J_iconst 0 dX8_isLetter_16 (by decide) ?_
  exact J_lv [0] rfl (K_X8_isLetter_17  a0  0 st h)
set_option maxRecDepth 100000 in
set_option maxHeartbeats 4000000 in
theorem ct_X8_isLetter {l : Launch} {E : En} {CF : CFt}  {a0 : Int32} {st : St} {post : Int32 → St → Prop} (h : P_X8_isLetter  a0 st post) : CtI l E CF 1 0 0 yX8_isLetter cX8_isLetter 1 (some .boolean) [.int a0] st post := by
  refine ctI_of (by decide) (Nat.le_of_ble_eq_true rfl) ?_
  show Jg l E CF (Rm 1 0 0) cX8_isLetter 1 RX8 (some .boolean) (QI E post 0 0) 0 0 0 [(0, .int a0)] [] st
  unfold P_X8_isLetter at h
  refine J_iload_n 0 dX8_isLetter_0 rfl rfl ?_
  refine J_bipush 97 dX8_isLetter_1 (by decide) ?_
  refine J_icmp_lt 16 dX8_isLetter_3 (by decide) (fun hc => ?_) (fun hc => ?_)
  · have h := h.1 hc
    exact J_lv [0] rfl (K_X8_isLetter_16  a0  st h)
  · have h := h.2 hc
    refine J_iload_n 0 dX8_isLetter_6 rfl rfl ?_
    refine J_bipush 122 dX8_isLetter_7 (by decide) ?_
    refine J_icmp_gt 16 dX8_isLetter_9 (by decide) (fun hc => ?_) (fun hc => ?_)
    · have h := h.1 hc
      exact J_lv [0] rfl (K_X8_isLetter_16  a0  st h)
    · have h := h.2 hc
      refine J_iconst 1 dX8_isLetter_12 (by decide) ?_
      refine J_goto 17 dX8_isLetter_13 (by decide) ?_
      exact J_lv [0] rfl (K_X8_isLetter_17  a0  1 st h)
/-! X8_isDigit -/
def P_X8_isDigit_17  (a0 : Int32)  (post : Int32 → St → Prop) (s0 : Int32) (st : St) : Prop := (s0 = 0 ∨ s0 = 1) ∧ post s0 st
def P_X8_isDigit_16  (a0 : Int32)  (post : Int32 → St → Prop)  (st : St) : Prop := P_X8_isDigit_17  a0  post 0 st
def P_X8_isDigit  (a0 : Int32) (st : St) (post : Int32 → St → Prop) : Prop := ((a0 < 48 → P_X8_isDigit_16  a0  post st) ∧ (¬ a0 < 48 → ((57 < a0 → P_X8_isDigit_16  a0  post st) ∧ (¬ 57 < a0 → P_X8_isDigit_17  a0  post 1 st))))
set_option maxRecDepth 100000 in
set_option maxHeartbeats 4000000 in
theorem K_X8_isDigit_17 {l : Launch} {E : En} {CF : CFt}  (a0 : Int32)  {post : Int32 → St → Prop}  (s0 : Int32) (st : St) (h : P_X8_isDigit_17  a0  post s0 st) : Jg l E CF (Rm 1 0 0) cX8_isDigit 1 RX8 (some .boolean) (QI E post 0 0) 0 0 17 [(0, .int a0)] [.int s0] st := by
  unfold P_X8_isDigit_17 at h
  exact J_retz rfl h.1 dX8_isDigit_17 h.2
set_option maxRecDepth 100000 in
set_option maxHeartbeats 4000000 in
theorem K_X8_isDigit_16 {l : Launch} {E : En} {CF : CFt}  (a0 : Int32)  {post : Int32 → St → Prop}   (st : St) (h : P_X8_isDigit_16  a0  post  st) : Jg l E CF (Rm 1 0 0) cX8_isDigit 1 RX8 (some .boolean) (QI E post 0 0) 0 0 16 [(0, .int a0)] [] st := by
  unfold P_X8_isDigit_16 at h
  refine J_iconst 0 dX8_isDigit_16 (by decide) ?_
  exact J_lv [0] rfl (K_X8_isDigit_17  a0  0 st h)
set_option maxRecDepth 100000 in
set_option maxHeartbeats 4000000 in
theorem ct_X8_isDigit {l : Launch} {E : En} {CF : CFt}  {a0 : Int32} {st : St} {post : Int32 → St → Prop} (h : P_X8_isDigit  a0 st post) : CtI l E CF 1 0 0 yX8_isDigit cX8_isDigit 1 (some .boolean) [.int a0] st post := by
  refine ctI_of (by decide) (Nat.le_of_ble_eq_true rfl) ?_
  show Jg l E CF (Rm 1 0 0) cX8_isDigit 1 RX8 (some .boolean) (QI E post 0 0) 0 0 0 [(0, .int a0)] [] st
  unfold P_X8_isDigit at h
  refine J_iload_n 0 dX8_isDigit_0 rfl rfl ?_
  refine J_bipush 48 dX8_isDigit_1 (by decide) ?_
  refine J_icmp_lt 16 dX8_isDigit_3 (by decide) (fun hc => ?_) (fun hc => ?_)
  · have h := h.1 hc
    exact J_lv [0] rfl (K_X8_isDigit_16  a0  st h)
  · have h := h.2 hc
    refine J_iload_n 0 dX8_isDigit_6 rfl rfl ?_
    refine J_bipush 57 dX8_isDigit_7 (by decide) ?_
    refine J_icmp_gt 16 dX8_isDigit_9 (by decide) (fun hc => ?_) (fun hc => ?_)
    · have h := h.1 hc
      exact J_lv [0] rfl (K_X8_isDigit_16  a0  st h)
    · have h := h.2 hc
      refine J_iconst 1 dX8_isDigit_12 (by decide) ?_
      refine J_goto 17 dX8_isDigit_13 (by decide) ?_
      exact J_lv [0] rfl (K_X8_isDigit_17  a0  1 st h)
/-! X8_takeNumber -/
def P_X8_takeNumber_113  (a0 : Nat)  (post : St → Prop)  (st : St) : Prop := post st
def P_X8_takeNumber_71  (a0 : Nat)  (post : St → Prop) : Nat → Int32 → St → Prop
  | 0, _, _ => False
  | n9 + 1, x1, st => fk a0 8 2 = some 0 ∧ (((gI st a0 2) ≤ x1 → P_X8_takeNumber_113  a0  post st) ∧ (¬ (gI st a0 2) ≤ x1 → fk a0 8 6 = some 0 ∧ ((¬ (gI st a0 6) = 0 → P_X8_takeNumber_113  a0  post st) ∧ ((gI st a0 6) = 0 → fk a0 8 5 = some 0 ∧ ∃ r_1, rv st a0 8 0 = some r_1 ∧ vp_in x1 (al 0 r_1) ∧ fk a0 8 5 = some 0 ∧ P_X8_takeNumber_71  a0  post n9 (x1 + 1) (sI st a0 5 ((((gI st a0 5) * 10) + (gA st r_1 (x1 : Int32).toNatClampNeg)) - 48))))))
def P_X8_takeNumber_63  (a0 : Nat)  (post : St → Prop) (s0 : Int32) (s1 : Nat) (st : St) : Prop := (s0 = 0 ∨ s0 = 1) ∧ fk s1 8 6 = some 0 ∧ fk a0 8 4 = some 0 ∧ ∃ n8, P_X8_takeNumber_71  a0  post n8 (gI (sI st s1 6 s0) a0 4) (sI st s1 6 s0)
def P_X8_takeNumber_44  (a0 : Nat)  (post : St → Prop)  (st : St) : Prop := fk a0 8 2 = some 0 ∧ fk a0 8 4 = some 0 ∧ ((((gI st a0 2) - (gI st a0 4)) ≤ 4 → P_X8_takeNumber_63  a0  post 0 a0 st) ∧ (¬ ((gI st a0 2) - (gI st a0 4)) ≤ 4 → P_X8_takeNumber_63  a0  post 1 a0 st))
def P_X8_takeNumber_5  (a0 : Nat)  (post : St → Prop) : Nat → St → Prop
  | 0, _ => False
  | n9 + 1, st => fk a0 8 2 = some 0 ∧ fk a0 8 1 = some 0 ∧ (((gI st a0 1) ≤ (gI st a0 2) → P_X8_takeNumber_44  a0  post st) ∧ (¬ (gI st a0 1) ≤ (gI st a0 2) → ∃ r_1, rv st a0 8 0 = some r_1 ∧ fk a0 8 2 = some 0 ∧ vp_in (gI st a0 2) (al 0 r_1) ∧ P_X8_isDigit  (gA st r_1 (gI st a0 2 : Int32).toNatClampNeg) st (fun z_2 st_3 => ((z_2 = 0 → P_X8_takeNumber_44  a0  post st_3) ∧ (¬ z_2 = 0 → fk a0 8 2 = some 0 ∧ fk a0 8 2 = some 0 ∧ P_X8_takeNumber_5  a0  post n9 (sI st_3 a0 2 ((gI st_3 a0 2) + 1)))))))
def P_X8_takeNumber  (a0 : Nat) (st : St) (post : St → Prop) : Prop := fk a0 8 3 = some 0 ∧ ∃ n8, P_X8_takeNumber_5  a0  post n8 (sI st a0 3 2)
set_option maxRecDepth 100000 in
set_option maxHeartbeats 4000000 in
theorem K_X8_takeNumber_113 {l : Launch} {E : En} {CF : CFt}  (a0 : Nat)  {post : St → Prop}   (st : St) (h : P_X8_takeNumber_113  a0  post  st) : Jg l E CF (Rm 2 0 0) cX8_takeNumber 2 RX8 none (QV E post 0 0) 0 0 113 [(0, .ref a0)] [] st := by
  unfold P_X8_takeNumber_113 at h
  exact J_retv rfl dX8_takeNumber_113 h
set_option maxRecDepth 100000 in
set_option maxHeartbeats 4000000 in
theorem K_X8_takeNumber_71 {l : Launch} {E : En} {CF : CFt}  (a0 : Nat)  {post : St → Prop}  : ∀ (n9 : Nat) (x1 : Int32) (st : St), P_X8_takeNumber_71  a0  post n9 x1 st → Jg l E CF (Rm 2 0 0) cX8_takeNumber 2 RX8 none (QV E post 0 0) 0 0 71 [(0, .ref a0), (1, .int x1)] [] st := by
  intro n9
  induction n9 with
  | zero => intro x1 st h; exact h.elim
  | succ n9 ih =>
    intro x1 st h
    unfold P_X8_takeNumber_71 at h
    refine J_iload_n 1 dX8_takeNumber_71 rfl rfl ?_
    refine J_aload_n 0 dX8_takeNumber_72 rfl rfl ?_
    obtain ⟨hf, h⟩ := h
    refine J_getI fl_RX8_23 dX8_takeNumber_73 hf ?_
    refine J_icmp_ge 113 dX8_takeNumber_76 (by decide) (fun hc => ?_) (fun hc => ?_)
    · have h := h.1 hc
      exact J_lv [0] rfl (K_X8_takeNumber_113  a0  st h)
    · have h := h.2 hc
      refine J_aload_n 0 dX8_takeNumber_79 rfl rfl ?_
      obtain ⟨hf, h⟩ := h
      refine J_getI fl_RX8_39 dX8_takeNumber_80 hf ?_
      refine J_if_ne 113 dX8_takeNumber_83 (by decide) (fun hc => ?_) (fun hc => ?_)
      · have h := h.1 hc
        exact J_lv [0] rfl (K_X8_takeNumber_113  a0  st h)
      · have h := h.2 hc
        refine J_aload_n 0 dX8_takeNumber_86 rfl rfl ?_
        refine J_aload_n 0 dX8_takeNumber_87 rfl rfl ?_
        obtain ⟨hf, h⟩ := h
        refine J_getI fl_RX8_36 dX8_takeNumber_88 hf ?_
        refine J_bipush 10 dX8_takeNumber_91 (by decide) ?_
        refine J_imul dX8_takeNumber_93 ?_
        refine J_aload_n 0 dX8_takeNumber_94 rfl rfl ?_
        obtain ⟨r_1, hf, h⟩ := h
        refine J_getR fl_RX8_7 dX8_takeNumber_95 hf ?_
        refine J_iload_n 1 dX8_takeNumber_98 rfl rfl ?_
        obtain ⟨hi, h⟩ := h
        refine J_iald dX8_takeNumber_99 hi ?_
        refine J_iadd dX8_takeNumber_100 ?_
        refine J_bipush 48 dX8_takeNumber_101 (by decide) ?_
        refine J_isub dX8_takeNumber_103 ?_
        obtain ⟨hf, h⟩ := h
        refine J_putI fp_RX8_36 dX8_takeNumber_104 rfl hf ?_
        refine J_iinc 1 (x1 + 1) _ dX8_takeNumber_107 rfl (by rfl) (by decide) rfl ?_
        refine J_goto 71 dX8_takeNumber_110 (by decide) ?_
        exact J_lv [1, 0] rfl (ih (x1 + 1) (sI st a0 5 ((((gI st a0 5) * 10) + (gA st r_1 (x1 : Int32).toNatClampNeg)) - 48)) h)
set_option maxRecDepth 100000 in
set_option maxHeartbeats 4000000 in
theorem K_X8_takeNumber_63 {l : Launch} {E : En} {CF : CFt}  (a0 : Nat)  {post : St → Prop}  (s0 : Int32) (s1 : Nat) (st : St) (h : P_X8_takeNumber_63  a0  post s0 s1 st) : Jg l E CF (Rm 2 0 0) cX8_takeNumber 2 RX8 none (QV E post 0 0) 0 0 63 [(0, .ref a0)] [.int s0, .ref s1] st := by
  unfold P_X8_takeNumber_63 at h
  obtain ⟨hb, hf, h⟩ := h
  refine J_putZ fp_RX8_39 dX8_takeNumber_63 rfl hb hf ?_
  refine J_aload_n 0 dX8_takeNumber_66 rfl rfl ?_
  obtain ⟨hf, h⟩ := h
  refine J_getI fl_RX8_29 dX8_takeNumber_67 hf ?_
  refine J_istore_n _ dX8_takeNumber_70 rfl (by decide) rfl ?_
  obtain ⟨n8, h⟩ := h
  exact J_lv [1, 0] rfl (K_X8_takeNumber_71  a0  n8 (gI (sI st s1 6 s0) a0 4) (sI st s1 6 s0) h)
set_option maxRecDepth 100000 in
set_option maxHeartbeats 4000000 in
theorem K_X8_takeNumber_44 {l : Launch} {E : En} {CF : CFt}  (a0 : Nat)  {post : St → Prop}   (st : St) (h : P_X8_takeNumber_44  a0  post  st) : Jg l E CF (Rm 2 0 0) cX8_takeNumber 2 RX8 none (QV E post 0 0) 0 0 44 [(0, .ref a0)] [] st := by
  unfold P_X8_takeNumber_44 at h
  refine J_aload_n 0 dX8_takeNumber_44 rfl rfl ?_
  refine J_aload_n 0 dX8_takeNumber_45 rfl rfl ?_
  obtain ⟨hf, h⟩ := h
  refine J_getI fl_RX8_23 dX8_takeNumber_46 hf ?_
  refine J_aload_n 0 dX8_takeNumber_49 rfl rfl ?_
  obtain ⟨hf, h⟩ := h
  refine J_getI fl_RX8_29 dX8_takeNumber_50 hf ?_
  refine J_isub dX8_takeNumber_53 ?_
  refine J_iconst 4 dX8_takeNumber_54 (by decide) ?_
  refine J_icmp_le 62 dX8_takeNumber_55 (by decide) (fun hc => ?_) (fun hc => ?_)
  · have h := h.1 hc
    refine J_iconst 0 dX8_takeNumber_62 (by decide) ?_
    exact J_lv [0] rfl (K_X8_takeNumber_63  a0  0 a0 st h)
  · have h := h.2 hc
    refine J_iconst 1 dX8_takeNumber_58 (by decide) ?_
    refine J_goto 63 dX8_takeNumber_59 (by decide) ?_
    exact J_lv [0] rfl (K_X8_takeNumber_63  a0  1 a0 st h)
set_option maxRecDepth 100000 in
set_option maxHeartbeats 4000000 in
theorem K_X8_takeNumber_5 {l : Launch} {E : En} {CF : CFt}  (a0 : Nat)  {post : St → Prop}  : ∀ (n9 : Nat)  (st : St), P_X8_takeNumber_5  a0  post n9  st → Jg l E CF (Rm 2 0 0) cX8_takeNumber 2 RX8 none (QV E post 0 0) 0 0 5 [(0, .ref a0)] [] st := by
  intro n9
  induction n9 with
  | zero => intro  st h; exact h.elim
  | succ n9 ih =>
    intro  st h
    unfold P_X8_takeNumber_5 at h
    refine J_aload_n 0 dX8_takeNumber_5 rfl rfl ?_
    obtain ⟨hf, h⟩ := h
    refine J_getI fl_RX8_23 dX8_takeNumber_6 hf ?_
    refine J_aload_n 0 dX8_takeNumber_9 rfl rfl ?_
    obtain ⟨hf, h⟩ := h
    refine J_getI fl_RX8_19 dX8_takeNumber_10 hf ?_
    refine J_icmp_ge 44 dX8_takeNumber_13 (by decide) (fun hc => ?_) (fun hc => ?_)
    · have h := h.1 hc
      exact J_lv [0] rfl (K_X8_takeNumber_44  a0  st h)
    · have h := h.2 hc
      refine J_aload_n 0 dX8_takeNumber_16 rfl rfl ?_
      obtain ⟨r_1, hf, h⟩ := h
      refine J_getR fl_RX8_7 dX8_takeNumber_17 hf ?_
      refine J_aload_n 0 dX8_takeNumber_20 rfl rfl ?_
      obtain ⟨hf, h⟩ := h
      refine J_getI fl_RX8_23 dX8_takeNumber_21 hf ?_
      obtain ⟨hi, h⟩ := h
      refine J_iald dX8_takeNumber_24 hi ?_
      refine J_csi (As := [_]) md_X8_isDigit k_316 rfl rfl ⟨Nat.le_of_ble_eq_true rfl, Nat.le_of_ble_eq_true rfl⟩ ⟨Nat.le_refl _, Nat.le_refl _⟩ (Nat.le_of_ble_eq_true rfl) dX8_takeNumber_25 (ct_X8_isDigit  h) (fun z_2 st_3 h => ?_)
      refine J_if_eq 44 dX8_takeNumber_28 (by decide) (fun hc => ?_) (fun hc => ?_)
      · have h := h.1 hc
        exact J_lv [0] rfl (K_X8_takeNumber_44  a0  st_3 h)
      · have h := h.2 hc
        refine J_aload_n 0 dX8_takeNumber_31 rfl rfl ?_
        refine J_dup dX8_takeNumber_32 rfl ?_
        obtain ⟨hf, h⟩ := h
        refine J_getI fl_RX8_23 dX8_takeNumber_33 hf ?_
        refine J_iconst 1 dX8_takeNumber_36 (by decide) ?_
        refine J_iadd dX8_takeNumber_37 ?_
        obtain ⟨hf, h⟩ := h
        refine J_putI fp_RX8_23 dX8_takeNumber_38 rfl hf ?_
        refine J_goto 5 dX8_takeNumber_41 (by decide) ?_
        exact J_lv [0] rfl (ih (sI st_3 a0 2 ((gI st_3 a0 2) + 1)) h)
set_option maxRecDepth 100000 in
set_option maxHeartbeats 4000000 in
theorem ct_X8_takeNumber {l : Launch} {E : En} {CF : CFt}  {a0 : Nat} {st : St} {post : St → Prop} (h : P_X8_takeNumber  a0 st post) : CtV l E CF 2 0 0 yX8_takeNumber cX8_takeNumber 2 none [.ref a0] st post := by
  refine ctV_of (by decide) (Nat.le_of_ble_eq_true rfl) ?_
  show Jg l E CF (Rm 2 0 0) cX8_takeNumber 2 RX8 none (QV E post 0 0) 0 0 0 [(0, .ref a0)] [] st
  unfold P_X8_takeNumber at h
  refine J_aload_n 0 dX8_takeNumber_0 rfl rfl ?_
  refine J_iconst 2 dX8_takeNumber_1 (by decide) ?_
  obtain ⟨hf, h⟩ := h
  refine J_putI fp_RX8_46 dX8_takeNumber_2 rfl hf ?_
  obtain ⟨n8, h⟩ := h
  exact J_lv [0] rfl (K_X8_takeNumber_5  a0  n8 (sI st a0 3 2) h)
