/-! X0_clear -/
def P_X0_clear  (a0 : Nat) (st : St) (post : St → Prop) : Prop := fk a0 0 1 = some 0 ∧ fk a0 0 2 = some 0 ∧ post (sI (sI st a0 1 0) a0 2 0)
set_option maxRecDepth 100000 in
set_option maxHeartbeats 4000000 in
theorem ct_X0_clear {l : Launch} {E : En}  {a0 : Nat} {st : St} {post : St → Prop} (h : P_X0_clear  a0 st post) : CtV l E (CFc E) 1 0 0 yX0_clear cX0_clear 1 none [.ref a0] st post := by
  refine ctV_of (by decide) (Nat.le_of_ble_eq_true rfl) ?_
  show Jg l E (CFc E) (Rm 1 0 0) cX0_clear 1 RX0 none (fun _ => True) (QV E post 0 0) 0 0 0 [(0, .ref a0)] [] st
  unfold P_X0_clear at h
  refine J_aload_n 0 dX0_clear_0 rfl rfl ?_
  refine J_iconst 0 dX0_clear_1 (by decide) ?_
  obtain ⟨hf, h⟩ := h
  refine J_putI fp_RX0_17 dX0_clear_2 rfl hf ?_
  refine J_aload_n 0 dX0_clear_5 rfl rfl ?_
  refine J_iconst 0 dX0_clear_6 (by decide) ?_
  obtain ⟨hf, h⟩ := h
  refine J_putI fp_RX0_21 dX0_clear_7 rfl hf ?_
  exact J_retv rfl dX0_clear_10 h
/-! X0_startOf -/
def P_X0_startOf  (a0 : Nat) (a1 : Int32) (st : St) (post : Int32 → St → Prop) : Prop := fk a0 0 1 = some 0 ∧ post ((((gI st a0 1) + a1) - ((gI st a0 1) + a1) / 40 * 40) * 110) st
set_option maxRecDepth 100000 in
set_option maxHeartbeats 4000000 in
theorem ct_X0_startOf {l : Launch} {E : En}  {a0 : Nat} {a1 : Int32} {st : St} {post : Int32 → St → Prop} (h : P_X0_startOf  a0 a1 st post) : CtI l E (CFc E) 1 0 0 yX0_startOf cX0_startOf 2 (some .int) [.ref a0, .int a1] st post := by
  refine ctI_of (by decide) (Nat.le_of_ble_eq_true rfl) ?_
  show Jg l E (CFc E) (Rm 1 0 0) cX0_startOf 2 RX0 (some .int) (fun _ => True) (QI E post 0 0) 0 0 0 [(0, .ref a0), (1, .int a1)] [] st
  unfold P_X0_startOf at h
  refine J_aload_n 0 dX0_startOf_0 rfl rfl ?_
  obtain ⟨hf, h⟩ := h
  refine J_getI fl_RX0_17 dX0_startOf_1 hf ?_
  refine J_iload_n 1 dX0_startOf_4 rfl rfl ?_
  refine J_iadd dX0_startOf_5 ?_
  refine J_bipush 40 dX0_startOf_6 (by decide) ?_
  refine J_irem dX0_startOf_8 (by decide) ?_
  refine J_bipush 110 dX0_startOf_9 (by decide) ?_
  refine J_imul dX0_startOf_11 ?_
  exact J_reti rfl dX0_startOf_12 h
/-! X0_copyFrom -/
def P_X0_copyFrom  (a0 : Nat) (a1 : Nat) (st : St) (post : St → Prop) : Prop := ∃ r_1, rv st a1 0 0 = some r_1 ∧ ∃ r_2, rv st a0 0 0 = some r_2 ∧ ∃ r_3, rv st a0 0 0 = some r_3 ∧ 0 < al 0 r_3 ∧ (¬ (0 : Int32) < 0) ∧ (¬ (0 : Int32) < 0) ∧ (¬ ((Int32.ofNat (al 0 r_3)) : Int32) < 0) ∧ 0 < al 0 r_1 ∧ 0 < al 0 r_2 ∧ (0 : Int32).toNatClampNeg + ((Int32.ofNat (al 0 r_3)) : Int32).toNatClampNeg ≤ al 0 r_1 ∧ (0 : Int32).toNatClampNeg + ((Int32.ofNat (al 0 r_3)) : Int32).toNatClampNeg ≤ al 0 r_2 ∧ fk a1 0 1 = some 0 ∧ fk a0 0 1 = some 0 ∧ fk a1 0 2 = some 0 ∧ fk a0 0 2 = some 0 ∧ post (sI (sI (sF st r_2 (va_cpy (gA st r_1) (gA st r_2) (0 : Int32).toNatClampNeg (0 : Int32).toNatClampNeg ((Int32.ofNat (al 0 r_3)) : Int32).toNatClampNeg)) a0 1 (gI (sF st r_2 (va_cpy (gA st r_1) (gA st r_2) (0 : Int32).toNatClampNeg (0 : Int32).toNatClampNeg ((Int32.ofNat (al 0 r_3)) : Int32).toNatClampNeg)) a1 1)) a0 2 (gI (sI (sF st r_2 (va_cpy (gA st r_1) (gA st r_2) (0 : Int32).toNatClampNeg (0 : Int32).toNatClampNeg ((Int32.ofNat (al 0 r_3)) : Int32).toNatClampNeg)) a0 1 (gI (sF st r_2 (va_cpy (gA st r_1) (gA st r_2) (0 : Int32).toNatClampNeg (0 : Int32).toNatClampNeg ((Int32.ofNat (al 0 r_3)) : Int32).toNatClampNeg)) a1 1)) a1 2))
set_option maxRecDepth 100000 in
set_option maxHeartbeats 4000000 in
theorem ct_X0_copyFrom {l : Launch} {E : En}  {a0 : Nat} {a1 : Nat} {st : St} {post : St → Prop} (h : P_X0_copyFrom  a0 a1 st post) : CtV l E (CFc E) 2 0 0 yX0_copyFrom cX0_copyFrom 2 none [.ref a0, .ref a1] st post := by
  refine ctV_of (by decide) (Nat.le_of_ble_eq_true rfl) ?_
  show Jg l E (CFc E) (Rm 2 0 0) cX0_copyFrom 2 RX0 none (fun _ => True) (QV E post 0 0) 0 0 0 [(0, .ref a0), (1, .ref a1)] [] st
  unfold P_X0_copyFrom at h
  refine J_aload_n 1 dX0_copyFrom_0 rfl rfl ?_
  obtain ⟨r_1, hf, h⟩ := h
  refine J_getR fl_RX0_11 dX0_copyFrom_1 hf ?_
  refine J_iconst 0 dX0_copyFrom_4 (by decide) ?_
  refine J_aload_n 0 dX0_copyFrom_5 rfl rfl ?_
  obtain ⟨r_2, hf, h⟩ := h
  refine J_getR fl_RX0_11 dX0_copyFrom_6 hf ?_
  refine J_iconst 0 dX0_copyFrom_9 (by decide) ?_
  refine J_aload_n 0 dX0_copyFrom_10 rfl rfl ?_
  obtain ⟨r_3, hf, h⟩ := h
  refine J_getR fl_RX0_11 dX0_copyFrom_11 hf ?_
  obtain ⟨hf, h⟩ := h
  refine J_alenI dX0_copyFrom_14 hf ?_
  obtain ⟨h1, h2, h3, h4, h5, h6, h7, h⟩ := h
  refine J_copy k_11 k_12 k_13 k_14 ⟨Nat.le_of_ble_eq_true rfl, Nat.le_of_ble_eq_true rfl⟩ dX0_copyFrom_15 h1 h2 h3 h4 h5 h6 h7 ?_
  refine J_aload_n 0 dX0_copyFrom_18 rfl rfl ?_
  refine J_aload_n 1 dX0_copyFrom_19 rfl rfl ?_
  obtain ⟨hf, h⟩ := h
  refine J_getI fl_RX0_17 dX0_copyFrom_20 hf ?_
  obtain ⟨hf, h⟩ := h
  refine J_putI fp_RX0_17 dX0_copyFrom_23 rfl hf ?_
  refine J_aload_n 0 dX0_copyFrom_26 rfl rfl ?_
  refine J_aload_n 1 dX0_copyFrom_27 rfl rfl ?_
  obtain ⟨hf, h⟩ := h
  refine J_getI fl_RX0_21 dX0_copyFrom_28 hf ?_
  obtain ⟨hf, h⟩ := h
  refine J_putI fp_RX0_21 dX0_copyFrom_31 rfl hf ?_
  exact J_retv rfl dX0_copyFrom_34 h
/-! X2_copyFrom -/
def P_X2_copyFrom  (a0 : Nat) (a1 : Nat) (st : St) (post : St → Prop) : Prop := ∃ r_1, rv st a1 2 0 = some r_1 ∧ fk a0 2 0 = some 1 ∧ ∃ r_2, rv (sR st a0 0 (some r_1)) a1 2 1 = some r_2 ∧ ∃ r_3, rv (sR st a0 0 (some r_1)) a0 2 1 = some r_3 ∧ (¬ (0 : Int32) < 0) ∧ (¬ (0 : Int32) < 0) ∧ (¬ (110 : Int32) < 0) ∧ 0 < al 0 r_2 ∧ 0 < al 0 r_3 ∧ (0 : Int32).toNatClampNeg + (110 : Int32).toNatClampNeg ≤ al 0 r_2 ∧ (0 : Int32).toNatClampNeg + (110 : Int32).toNatClampNeg ≤ al 0 r_3 ∧ post (sF (sR st a0 0 (some r_1)) r_3 (va_cpy (gA (sR st a0 0 (some r_1)) r_2) (gA (sR st a0 0 (some r_1)) r_3) (0 : Int32).toNatClampNeg (0 : Int32).toNatClampNeg (110 : Int32).toNatClampNeg))
set_option maxRecDepth 100000 in
set_option maxHeartbeats 4000000 in
theorem ct_X2_copyFrom {l : Launch} {E : En}  {a0 : Nat} {a1 : Nat} {st : St} {post : St → Prop} (h : P_X2_copyFrom  a0 a1 st post) : CtV l E (CFc E) 2 0 0 yX2_copyFrom cX2_copyFrom 2 none [.ref a0, .ref a1] st post := by
  refine ctV_of (by decide) (Nat.le_of_ble_eq_true rfl) ?_
  show Jg l E (CFc E) (Rm 2 0 0) cX2_copyFrom 2 RX2 none (fun _ => True) (QV E post 0 0) 0 0 0 [(0, .ref a0), (1, .ref a1)] [] st
  unfold P_X2_copyFrom at h
  refine J_aload_n 0 dX2_copyFrom_0 rfl rfl ?_
  refine J_aload_n 1 dX2_copyFrom_1 rfl rfl ?_
  obtain ⟨r_1, hf, h⟩ := h
  refine J_getR fl_RX2_23 dX2_copyFrom_2 hf ?_
  obtain ⟨hf, h⟩ := h
  refine J_putQ (v := (some r_1)) fp_RX2_23 dX2_copyFrom_5 (Or.inl ⟨_, rfl⟩) hf ?_
  refine J_aload_n 1 dX2_copyFrom_8 rfl rfl ?_
  obtain ⟨r_2, hf, h⟩ := h
  refine J_getR fl_RX2_11 dX2_copyFrom_9 hf ?_
  refine J_iconst 0 dX2_copyFrom_12 (by decide) ?_
  refine J_aload_n 0 dX2_copyFrom_13 rfl rfl ?_
  obtain ⟨r_3, hf, h⟩ := h
  refine J_getR fl_RX2_11 dX2_copyFrom_14 hf ?_
  refine J_iconst 0 dX2_copyFrom_17 (by decide) ?_
  refine J_bipush 110 dX2_copyFrom_18 (by decide) ?_
  obtain ⟨h1, h2, h3, h4, h5, h6, h7, h⟩ := h
  refine J_copy k_64 k_12 k_13 k_14 ⟨Nat.le_of_ble_eq_true rfl, Nat.le_of_ble_eq_true rfl⟩ dX2_copyFrom_20 h1 h2 h3 h4 h5 h6 h7 ?_
  exact J_retv rfl dX2_copyFrom_23 h
/-! X2_today -/
def P_X2_today  (a0 : Nat) (st : St) (post : Int32 → St → Prop) : Prop := ∃ r_1, rv st a0 2 1 = some r_1 ∧ vp_in 0 (al 0 r_1) ∧ post (gA st r_1 (0 : Int32).toNatClampNeg) st
set_option maxRecDepth 100000 in
set_option maxHeartbeats 4000000 in
theorem ct_X2_today {l : Launch} {E : En}  {a0 : Nat} {st : St} {post : Int32 → St → Prop} (h : P_X2_today  a0 st post) : CtI l E (CFc E) 1 0 0 yX2_today cX2_today 1 (some .int) [.ref a0] st post := by
  refine ctI_of (by decide) (Nat.le_of_ble_eq_true rfl) ?_
  show Jg l E (CFc E) (Rm 1 0 0) cX2_today 1 RX2 (some .int) (fun _ => True) (QI E post 0 0) 0 0 0 [(0, .ref a0)] [] st
  unfold P_X2_today at h
  refine J_aload_n 0 dX2_today_0 rfl rfl ?_
  obtain ⟨r_1, hf, h⟩ := h
  refine J_getR fl_RX2_11 dX2_today_1 hf ?_
  refine J_iconst 0 dX2_today_4 (by decide) ?_
  obtain ⟨hi, h⟩ := h
  refine J_iald dX2_today_5 hi ?_
  exact J_reti rfl dX2_today_6 h
/-! X2_dogCount -/
def P_X2_dogCount  (a0 : Nat) (st : St) (post : Int32 → St → Prop) : Prop := ∃ r_1, rv st a0 2 1 = some r_1 ∧ vp_in 1 (al 0 r_1) ∧ post (gA st r_1 (1 : Int32).toNatClampNeg) st
set_option maxRecDepth 100000 in
set_option maxHeartbeats 4000000 in
theorem ct_X2_dogCount {l : Launch} {E : En}  {a0 : Nat} {st : St} {post : Int32 → St → Prop} (h : P_X2_dogCount  a0 st post) : CtI l E (CFc E) 1 0 0 yX2_dogCount cX2_dogCount 1 (some .int) [.ref a0] st post := by
  refine ctI_of (by decide) (Nat.le_of_ble_eq_true rfl) ?_
  show Jg l E (CFc E) (Rm 1 0 0) cX2_dogCount 1 RX2 (some .int) (fun _ => True) (QI E post 0 0) 0 0 0 [(0, .ref a0)] [] st
  unfold P_X2_dogCount at h
  refine J_aload_n 0 dX2_dogCount_0 rfl rfl ?_
  obtain ⟨r_1, hf, h⟩ := h
  refine J_getR fl_RX2_11 dX2_dogCount_1 hf ?_
  refine J_iconst 1 dX2_dogCount_4 (by decide) ?_
  obtain ⟨hi, h⟩ := h
  refine J_iald dX2_dogCount_5 hi ?_
  exact J_reti rfl dX2_dogCount_6 h
/-! X2_griefOf -/
def P_X2_griefOf  (a0 : Nat) (a1 : Int32) (st : St) (post : Int32 → St → Prop) : Prop := ∃ r_1, rv st a0 2 1 = some r_1 ∧ vp_in ((2 + (a1 * 4)) + 0) (al 0 r_1) ∧ post (gA st r_1 ((2 + (a1 * 4)) + 0 : Int32).toNatClampNeg) st
set_option maxRecDepth 100000 in
set_option maxHeartbeats 4000000 in
theorem ct_X2_griefOf {l : Launch} {E : En}  {a0 : Nat} {a1 : Int32} {st : St} {post : Int32 → St → Prop} (h : P_X2_griefOf  a0 a1 st post) : CtI l E (CFc E) 1 0 0 yX2_griefOf cX2_griefOf 2 (some .int) [.ref a0, .int a1] st post := by
  refine ctI_of (by decide) (Nat.le_of_ble_eq_true rfl) ?_
  show Jg l E (CFc E) (Rm 1 0 0) cX2_griefOf 2 RX2 (some .int) (fun _ => True) (QI E post 0 0) 0 0 0 [(0, .ref a0), (1, .int a1)] [] st
  unfold P_X2_griefOf at h
  refine J_aload_n 0 dX2_griefOf_0 rfl rfl ?_
  obtain ⟨r_1, hf, h⟩ := h
  refine J_getR fl_RX2_11 dX2_griefOf_1 hf ?_
  refine J_iconst 2 dX2_griefOf_4 (by decide) ?_
  refine J_iload_n 1 dX2_griefOf_5 rfl rfl ?_
  refine J_iconst 4 dX2_griefOf_6 (by decide) ?_
  refine J_imul dX2_griefOf_7 ?_
  refine J_iadd dX2_griefOf_8 ?_
  refine J_iconst 0 dX2_griefOf_9 (by decide) ?_
  refine J_iadd dX2_griefOf_10 ?_
  obtain ⟨hi, h⟩ := h
  refine J_iald dX2_griefOf_11 hi ?_
  exact J_reti rfl dX2_griefOf_12 h
/-! X2_setGrief -/
def P_X2_setGrief  (a0 : Nat) (a1 : Int32) (a2 : Int32) (st : St) (post : St → Prop) : Prop := ∃ r_1, rv st a0 2 1 = some r_1 ∧ vp_in ((2 + (a1 * 4)) + 0) (al 0 r_1) ∧ post (sA st r_1 ((2 + (a1 * 4)) + 0 : Int32).toNatClampNeg a2)
set_option maxRecDepth 100000 in
set_option maxHeartbeats 4000000 in
theorem ct_X2_setGrief {l : Launch} {E : En}  {a0 : Nat} {a1 : Int32} {a2 : Int32} {st : St} {post : St → Prop} (h : P_X2_setGrief  a0 a1 a2 st post) : CtV l E (CFc E) 1 0 0 yX2_setGrief cX2_setGrief 3 none [.ref a0, .int a1, .int a2] st post := by
  refine ctV_of (by decide) (Nat.le_of_ble_eq_true rfl) ?_
  show Jg l E (CFc E) (Rm 1 0 0) cX2_setGrief 3 RX2 none (fun _ => True) (QV E post 0 0) 0 0 0 [(0, .ref a0), (1, .int a1), (2, .int a2)] [] st
  unfold P_X2_setGrief at h
  refine J_aload_n 0 dX2_setGrief_0 rfl rfl ?_
  obtain ⟨r_1, hf, h⟩ := h
  refine J_getR fl_RX2_11 dX2_setGrief_1 hf ?_
  refine J_iconst 2 dX2_setGrief_4 (by decide) ?_
  refine J_iload_n 1 dX2_setGrief_5 rfl rfl ?_
  refine J_iconst 4 dX2_setGrief_6 (by decide) ?_
  refine J_imul dX2_setGrief_7 ?_
  refine J_iadd dX2_setGrief_8 ?_
  refine J_iconst 0 dX2_setGrief_9 (by decide) ?_
  refine J_iadd dX2_setGrief_10 ?_
  refine J_iload_n 2 dX2_setGrief_11 rfl rfl ?_
  obtain ⟨hi, h⟩ := h
  refine J_iast dX2_setGrief_12 hi ?_
  exact J_retv rfl dX2_setGrief_13 h
/-! X2_trainsOf -/
def P_X2_trainsOf  (a0 : Nat) (a1 : Int32) (st : St) (post : Int32 → St → Prop) : Prop := ∃ r_1, rv st a0 2 1 = some r_1 ∧ vp_in ((2 + (a1 * 4)) + 1) (al 0 r_1) ∧ post (gA st r_1 ((2 + (a1 * 4)) + 1 : Int32).toNatClampNeg) st
set_option maxRecDepth 100000 in
set_option maxHeartbeats 4000000 in
theorem ct_X2_trainsOf {l : Launch} {E : En}  {a0 : Nat} {a1 : Int32} {st : St} {post : Int32 → St → Prop} (h : P_X2_trainsOf  a0 a1 st post) : CtI l E (CFc E) 1 0 0 yX2_trainsOf cX2_trainsOf 2 (some .int) [.ref a0, .int a1] st post := by
  refine ctI_of (by decide) (Nat.le_of_ble_eq_true rfl) ?_
  show Jg l E (CFc E) (Rm 1 0 0) cX2_trainsOf 2 RX2 (some .int) (fun _ => True) (QI E post 0 0) 0 0 0 [(0, .ref a0), (1, .int a1)] [] st
  unfold P_X2_trainsOf at h
  refine J_aload_n 0 dX2_trainsOf_0 rfl rfl ?_
  obtain ⟨r_1, hf, h⟩ := h
  refine J_getR fl_RX2_11 dX2_trainsOf_1 hf ?_
  refine J_iconst 2 dX2_trainsOf_4 (by decide) ?_
  refine J_iload_n 1 dX2_trainsOf_5 rfl rfl ?_
  refine J_iconst 4 dX2_trainsOf_6 (by decide) ?_
  refine J_imul dX2_trainsOf_7 ?_
  refine J_iadd dX2_trainsOf_8 ?_
  refine J_iconst 1 dX2_trainsOf_9 (by decide) ?_
  refine J_iadd dX2_trainsOf_10 ?_
  obtain ⟨hi, h⟩ := h
  refine J_iald dX2_trainsOf_11 hi ?_
  exact J_reti rfl dX2_trainsOf_12 h
/-! X2_setTrains -/
def P_X2_setTrains  (a0 : Nat) (a1 : Int32) (a2 : Int32) (st : St) (post : St → Prop) : Prop := ∃ r_1, rv st a0 2 1 = some r_1 ∧ vp_in ((2 + (a1 * 4)) + 1) (al 0 r_1) ∧ post (sA st r_1 ((2 + (a1 * 4)) + 1 : Int32).toNatClampNeg a2)
set_option maxRecDepth 100000 in
set_option maxHeartbeats 4000000 in
theorem ct_X2_setTrains {l : Launch} {E : En}  {a0 : Nat} {a1 : Int32} {a2 : Int32} {st : St} {post : St → Prop} (h : P_X2_setTrains  a0 a1 a2 st post) : CtV l E (CFc E) 1 0 0 yX2_setTrains cX2_setTrains 3 none [.ref a0, .int a1, .int a2] st post := by
  refine ctV_of (by decide) (Nat.le_of_ble_eq_true rfl) ?_
  show Jg l E (CFc E) (Rm 1 0 0) cX2_setTrains 3 RX2 none (fun _ => True) (QV E post 0 0) 0 0 0 [(0, .ref a0), (1, .int a1), (2, .int a2)] [] st
  unfold P_X2_setTrains at h
  refine J_aload_n 0 dX2_setTrains_0 rfl rfl ?_
  obtain ⟨r_1, hf, h⟩ := h
  refine J_getR fl_RX2_11 dX2_setTrains_1 hf ?_
  refine J_iconst 2 dX2_setTrains_4 (by decide) ?_
  refine J_iload_n 1 dX2_setTrains_5 rfl rfl ?_
  refine J_iconst 4 dX2_setTrains_6 (by decide) ?_
  refine J_imul dX2_setTrains_7 ?_
  refine J_iadd dX2_setTrains_8 ?_
  refine J_iconst 1 dX2_setTrains_9 (by decide) ?_
  refine J_iadd dX2_setTrains_10 ?_
  refine J_iload_n 2 dX2_setTrains_11 rfl rfl ?_
  obtain ⟨hi, h⟩ := h
  refine J_iast dX2_setTrains_12 hi ?_
  exact J_retv rfl dX2_setTrains_13 h
/-! X2_onionsOf -/
def P_X2_onionsOf  (a0 : Nat) (a1 : Int32) (st : St) (post : Int32 → St → Prop) : Prop := ∃ r_1, rv st a0 2 1 = some r_1 ∧ vp_in ((2 + (a1 * 4)) + 2) (al 0 r_1) ∧ post (gA st r_1 ((2 + (a1 * 4)) + 2 : Int32).toNatClampNeg) st
set_option maxRecDepth 100000 in
set_option maxHeartbeats 4000000 in
theorem ct_X2_onionsOf {l : Launch} {E : En}  {a0 : Nat} {a1 : Int32} {st : St} {post : Int32 → St → Prop} (h : P_X2_onionsOf  a0 a1 st post) : CtI l E (CFc E) 1 0 0 yX2_onionsOf cX2_onionsOf 2 (some .int) [.ref a0, .int a1] st post := by
  refine ctI_of (by decide) (Nat.le_of_ble_eq_true rfl) ?_
  show Jg l E (CFc E) (Rm 1 0 0) cX2_onionsOf 2 RX2 (some .int) (fun _ => True) (QI E post 0 0) 0 0 0 [(0, .ref a0), (1, .int a1)] [] st
  unfold P_X2_onionsOf at h
  refine J_aload_n 0 dX2_onionsOf_0 rfl rfl ?_
  obtain ⟨r_1, hf, h⟩ := h
  refine J_getR fl_RX2_11 dX2_onionsOf_1 hf ?_
  refine J_iconst 2 dX2_onionsOf_4 (by decide) ?_
  refine J_iload_n 1 dX2_onionsOf_5 rfl rfl ?_
  refine J_iconst 4 dX2_onionsOf_6 (by decide) ?_
  refine J_imul dX2_onionsOf_7 ?_
  refine J_iadd dX2_onionsOf_8 ?_
  refine J_iconst 2 dX2_onionsOf_9 (by decide) ?_
  refine J_iadd dX2_onionsOf_10 ?_
  obtain ⟨hi, h⟩ := h
  refine J_iald dX2_onionsOf_11 hi ?_
  exact J_reti rfl dX2_onionsOf_12 h
/-! X2_setOnions -/
def P_X2_setOnions  (a0 : Nat) (a1 : Int32) (a2 : Int32) (st : St) (post : St → Prop) : Prop := ∃ r_1, rv st a0 2 1 = some r_1 ∧ vp_in ((2 + (a1 * 4)) + 2) (al 0 r_1) ∧ post (sA st r_1 ((2 + (a1 * 4)) + 2 : Int32).toNatClampNeg a2)
set_option maxRecDepth 100000 in
set_option maxHeartbeats 4000000 in
theorem ct_X2_setOnions {l : Launch} {E : En}  {a0 : Nat} {a1 : Int32} {a2 : Int32} {st : St} {post : St → Prop} (h : P_X2_setOnions  a0 a1 a2 st post) : CtV l E (CFc E) 1 0 0 yX2_setOnions cX2_setOnions 3 none [.ref a0, .int a1, .int a2] st post := by
  refine ctV_of (by decide) (Nat.le_of_ble_eq_true rfl) ?_
  show Jg l E (CFc E) (Rm 1 0 0) cX2_setOnions 3 RX2 none (fun _ => True) (QV E post 0 0) 0 0 0 [(0, .ref a0), (1, .int a1), (2, .int a2)] [] st
  unfold P_X2_setOnions at h
  refine J_aload_n 0 dX2_setOnions_0 rfl rfl ?_
  obtain ⟨r_1, hf, h⟩ := h
  refine J_getR fl_RX2_11 dX2_setOnions_1 hf ?_
  refine J_iconst 2 dX2_setOnions_4 (by decide) ?_
  refine J_iload_n 1 dX2_setOnions_5 rfl rfl ?_
  refine J_iconst 4 dX2_setOnions_6 (by decide) ?_
  refine J_imul dX2_setOnions_7 ?_
  refine J_iadd dX2_setOnions_8 ?_
  refine J_iconst 2 dX2_setOnions_9 (by decide) ?_
  refine J_iadd dX2_setOnions_10 ?_
  refine J_iload_n 2 dX2_setOnions_11 rfl rfl ?_
  obtain ⟨hi, h⟩ := h
  refine J_iast dX2_setOnions_12 hi ?_
  exact J_retv rfl dX2_setOnions_13 h
/-! X2_ledBits -/
def P_X2_ledBits  (a0 : Nat) (a1 : Int32) (st : St) (post : Int32 → St → Prop) : Prop := ∃ r_1, rv st a0 2 1 = some r_1 ∧ vp_in ((2 + (a1 * 4)) + 3) (al 0 r_1) ∧ post (gA st r_1 ((2 + (a1 * 4)) + 3 : Int32).toNatClampNeg) st
set_option maxRecDepth 100000 in
set_option maxHeartbeats 4000000 in
theorem ct_X2_ledBits {l : Launch} {E : En}  {a0 : Nat} {a1 : Int32} {st : St} {post : Int32 → St → Prop} (h : P_X2_ledBits  a0 a1 st post) : CtI l E (CFc E) 1 0 0 yX2_ledBits cX2_ledBits 2 (some .int) [.ref a0, .int a1] st post := by
  refine ctI_of (by decide) (Nat.le_of_ble_eq_true rfl) ?_
  show Jg l E (CFc E) (Rm 1 0 0) cX2_ledBits 2 RX2 (some .int) (fun _ => True) (QI E post 0 0) 0 0 0 [(0, .ref a0), (1, .int a1)] [] st
  unfold P_X2_ledBits at h
  refine J_aload_n 0 dX2_ledBits_0 rfl rfl ?_
  obtain ⟨r_1, hf, h⟩ := h
  refine J_getR fl_RX2_11 dX2_ledBits_1 hf ?_
  refine J_iconst 2 dX2_ledBits_4 (by decide) ?_
  refine J_iload_n 1 dX2_ledBits_5 rfl rfl ?_
  refine J_iconst 4 dX2_ledBits_6 (by decide) ?_
  refine J_imul dX2_ledBits_7 ?_
  refine J_iadd dX2_ledBits_8 ?_
  refine J_iconst 3 dX2_ledBits_9 (by decide) ?_
  refine J_iadd dX2_ledBits_10 ?_
  obtain ⟨hi, h⟩ := h
  refine J_iald dX2_ledBits_11 hi ?_
  exact J_reti rfl dX2_ledBits_12 h
/-! X2_welcome -/
def P_X2_welcome  (a0 : Nat) (a1 : Int32) (a2 : Int32) (st : St) (post : St → Prop) : Prop := ∃ r_1, rv st a0 2 1 = some r_1 ∧ vp_in ((38 + (a1 * 3)) + 0) (al 0 r_1) ∧ ∃ r_2, rv (sA st r_1 ((38 + (a1 * 3)) + 0 : Int32).toNatClampNeg a2) a0 2 1 = some r_2 ∧ vp_in ((38 + (a1 * 3)) + 1) (al 0 r_2) ∧ ∃ r_3, rv (sA (sA st r_1 ((38 + (a1 * 3)) + 0 : Int32).toNatClampNeg a2) r_2 ((38 + (a1 * 3)) + 1 : Int32).toNatClampNeg 1) a0 2 1 = some r_3 ∧ vp_in ((38 + (a1 * 3)) + 2) (al 0 r_3) ∧ post (sA (sA (sA st r_1 ((38 + (a1 * 3)) + 0 : Int32).toNatClampNeg a2) r_2 ((38 + (a1 * 3)) + 1 : Int32).toNatClampNeg 1) r_3 ((38 + (a1 * 3)) + 2 : Int32).toNatClampNeg (-1))
set_option maxRecDepth 100000 in
set_option maxHeartbeats 4000000 in
theorem ct_X2_welcome {l : Launch} {E : En}  {a0 : Nat} {a1 : Int32} {a2 : Int32} {st : St} {post : St → Prop} (h : P_X2_welcome  a0 a1 a2 st post) : CtV l E (CFc E) 1 0 0 yX2_welcome cX2_welcome 3 none [.ref a0, .int a1, .int a2] st post := by
  refine ctV_of (by decide) (Nat.le_of_ble_eq_true rfl) ?_
  show Jg l E (CFc E) (Rm 1 0 0) cX2_welcome 3 RX2 none (fun _ => True) (QV E post 0 0) 0 0 0 [(0, .ref a0), (1, .int a1), (2, .int a2)] [] st
  unfold P_X2_welcome at h
  refine J_aload_n 0 dX2_welcome_0 rfl rfl ?_
  obtain ⟨r_1, hf, h⟩ := h
  refine J_getR fl_RX2_11 dX2_welcome_1 hf ?_
  refine J_bipush 38 dX2_welcome_4 (by decide) ?_
  refine J_iload_n 1 dX2_welcome_6 rfl rfl ?_
  refine J_iconst 3 dX2_welcome_7 (by decide) ?_
  refine J_imul dX2_welcome_8 ?_
  refine J_iadd dX2_welcome_9 ?_
  refine J_iconst 0 dX2_welcome_10 (by decide) ?_
  refine J_iadd dX2_welcome_11 ?_
  refine J_iload_n 2 dX2_welcome_12 rfl rfl ?_
  obtain ⟨hi, h⟩ := h
  refine J_iast dX2_welcome_13 hi ?_
  refine J_aload_n 0 dX2_welcome_14 rfl rfl ?_
  obtain ⟨r_2, hf, h⟩ := h
  refine J_getR fl_RX2_11 dX2_welcome_15 hf ?_
  refine J_bipush 38 dX2_welcome_18 (by decide) ?_
  refine J_iload_n 1 dX2_welcome_20 rfl rfl ?_
  refine J_iconst 3 dX2_welcome_21 (by decide) ?_
  refine J_imul dX2_welcome_22 ?_
  refine J_iadd dX2_welcome_23 ?_
  refine J_iconst 1 dX2_welcome_24 (by decide) ?_
  refine J_iadd dX2_welcome_25 ?_
  refine J_iconst 1 dX2_welcome_26 (by decide) ?_
  obtain ⟨hi, h⟩ := h
  refine J_iast dX2_welcome_27 hi ?_
  refine J_aload_n 0 dX2_welcome_28 rfl rfl ?_
  obtain ⟨r_3, hf, h⟩ := h
  refine J_getR fl_RX2_11 dX2_welcome_29 hf ?_
  refine J_bipush 38 dX2_welcome_32 (by decide) ?_
  refine J_iload_n 1 dX2_welcome_34 rfl rfl ?_
  refine J_iconst 3 dX2_welcome_35 (by decide) ?_
  refine J_imul dX2_welcome_36 ?_
  refine J_iadd dX2_welcome_37 ?_
  refine J_iconst 2 dX2_welcome_38 (by decide) ?_
  refine J_iadd dX2_welcome_39 ?_
  refine J_iconst (-1) dX2_welcome_40 (by decide) ?_
  obtain ⟨hi, h⟩ := h
  refine J_iast dX2_welcome_41 hi ?_
  exact J_retv rfl dX2_welcome_42 h
/-! X2_weddingOf -/
def P_X2_weddingOf  (a0 : Nat) (a1 : Int32) (st : St) (post : Int32 → St → Prop) : Prop := ∃ r_1, rv st a0 2 1 = some r_1 ∧ vp_in ((38 + (a1 * 3)) + 0) (al 0 r_1) ∧ post (gA st r_1 ((38 + (a1 * 3)) + 0 : Int32).toNatClampNeg) st
set_option maxRecDepth 100000 in
set_option maxHeartbeats 4000000 in
theorem ct_X2_weddingOf {l : Launch} {E : En}  {a0 : Nat} {a1 : Int32} {st : St} {post : Int32 → St → Prop} (h : P_X2_weddingOf  a0 a1 st post) : CtI l E (CFc E) 1 0 0 yX2_weddingOf cX2_weddingOf 2 (some .int) [.ref a0, .int a1] st post := by
  refine ctI_of (by decide) (Nat.le_of_ble_eq_true rfl) ?_
  show Jg l E (CFc E) (Rm 1 0 0) cX2_weddingOf 2 RX2 (some .int) (fun _ => True) (QI E post 0 0) 0 0 0 [(0, .ref a0), (1, .int a1)] [] st
  unfold P_X2_weddingOf at h
  refine J_aload_n 0 dX2_weddingOf_0 rfl rfl ?_
  obtain ⟨r_1, hf, h⟩ := h
  refine J_getR fl_RX2_11 dX2_weddingOf_1 hf ?_
  refine J_bipush 38 dX2_weddingOf_4 (by decide) ?_
  refine J_iload_n 1 dX2_weddingOf_6 rfl rfl ?_
  refine J_iconst 3 dX2_weddingOf_7 (by decide) ?_
  refine J_imul dX2_weddingOf_8 ?_
  refine J_iadd dX2_weddingOf_9 ?_
  refine J_iconst 0 dX2_weddingOf_10 (by decide) ?_
  refine J_iadd dX2_weddingOf_11 ?_
  obtain ⟨hi, h⟩ := h
  refine J_iald dX2_weddingOf_12 hi ?_
  exact J_reti rfl dX2_weddingOf_13 h
/-! X2_setWedding -/
def P_X2_setWedding  (a0 : Nat) (a1 : Int32) (a2 : Int32) (st : St) (post : St → Prop) : Prop := ∃ r_1, rv st a0 2 1 = some r_1 ∧ vp_in ((38 + (a1 * 3)) + 0) (al 0 r_1) ∧ post (sA st r_1 ((38 + (a1 * 3)) + 0 : Int32).toNatClampNeg a2)
set_option maxRecDepth 100000 in
set_option maxHeartbeats 4000000 in
theorem ct_X2_setWedding {l : Launch} {E : En}  {a0 : Nat} {a1 : Int32} {a2 : Int32} {st : St} {post : St → Prop} (h : P_X2_setWedding  a0 a1 a2 st post) : CtV l E (CFc E) 1 0 0 yX2_setWedding cX2_setWedding 3 none [.ref a0, .int a1, .int a2] st post := by
  refine ctV_of (by decide) (Nat.le_of_ble_eq_true rfl) ?_
  show Jg l E (CFc E) (Rm 1 0 0) cX2_setWedding 3 RX2 none (fun _ => True) (QV E post 0 0) 0 0 0 [(0, .ref a0), (1, .int a1), (2, .int a2)] [] st
  unfold P_X2_setWedding at h
  refine J_aload_n 0 dX2_setWedding_0 rfl rfl ?_
  obtain ⟨r_1, hf, h⟩ := h
  refine J_getR fl_RX2_11 dX2_setWedding_1 hf ?_
  refine J_bipush 38 dX2_setWedding_4 (by decide) ?_
  refine J_iload_n 1 dX2_setWedding_6 rfl rfl ?_
  refine J_iconst 3 dX2_setWedding_7 (by decide) ?_
  refine J_imul dX2_setWedding_8 ?_
  refine J_iadd dX2_setWedding_9 ?_
  refine J_iconst 0 dX2_setWedding_10 (by decide) ?_
  refine J_iadd dX2_setWedding_11 ?_
  refine J_iload_n 2 dX2_setWedding_12 rfl rfl ?_
  obtain ⟨hi, h⟩ := h
  refine J_iast dX2_setWedding_13 hi ?_
  exact J_retv rfl dX2_setWedding_14 h
/-! X2_isHome -/
def P_X2_isHome_22  (a0 : Nat) (a1 : Int32)  (post : Int32 → St → Prop) (s0 : Int32) (st : St) : Prop := (s0 = 0 ∨ s0 = 1) ∧ post s0 st
def P_X2_isHome  (a0 : Nat) (a1 : Int32) (st : St) (post : Int32 → St → Prop) : Prop := ∃ r_1, rv st a0 2 1 = some r_1 ∧ vp_in ((38 + (a1 * 3)) + 1) (al 0 r_1) ∧ ((¬ (gA st r_1 ((38 + (a1 * 3)) + 1 : Int32).toNatClampNeg) = 1 → P_X2_isHome_22  a0 a1  post 0 st) ∧ ((gA st r_1 ((38 + (a1 * 3)) + 1 : Int32).toNatClampNeg) = 1 → P_X2_isHome_22  a0 a1  post 1 st))
set_option maxRecDepth 100000 in
set_option maxHeartbeats 4000000 in
theorem K_X2_isHome_22 {l : Launch} {E : En}   (a0 : Nat) (a1 : Int32)  {post : Int32 → St → Prop}   (s0 : Int32) (st : St) (h : P_X2_isHome_22  a0 a1  post s0 st) : Jg l E (CFc E) (Rm 1 0 0) cX2_isHome 2 RX2 (some .boolean) (fun _ => True) (QI E post 0 0) 0 0 22 [(0, .ref a0), (1, .int a1)] [.int s0] st := by
  unfold P_X2_isHome_22 at h
  exact J_retz rfl h.1 dX2_isHome_22 h.2
set_option maxRecDepth 100000 in
set_option maxHeartbeats 4000000 in
theorem ct_X2_isHome {l : Launch} {E : En}  {a0 : Nat} {a1 : Int32} {st : St} {post : Int32 → St → Prop} (h : P_X2_isHome  a0 a1 st post) : CtI l E (CFc E) 1 0 0 yX2_isHome cX2_isHome 2 (some .boolean) [.ref a0, .int a1] st post := by
  refine ctI_of (by decide) (Nat.le_of_ble_eq_true rfl) ?_
  show Jg l E (CFc E) (Rm 1 0 0) cX2_isHome 2 RX2 (some .boolean) (fun _ => True) (QI E post 0 0) 0 0 0 [(0, .ref a0), (1, .int a1)] [] st
  unfold P_X2_isHome at h
  refine J_aload_n 0 dX2_isHome_0 rfl rfl ?_
  obtain ⟨r_1, hf, h⟩ := h
  refine J_getR fl_RX2_11 dX2_isHome_1 hf ?_
  refine J_bipush 38 dX2_isHome_4 (by decide) ?_
  refine J_iload_n 1 dX2_isHome_6 rfl rfl ?_
  refine J_iconst 3 dX2_isHome_7 (by decide) ?_
  refine J_imul dX2_isHome_8 ?_
  refine J_iadd dX2_isHome_9 ?_
  refine J_iconst 1 dX2_isHome_10 (by decide) ?_
  refine J_iadd dX2_isHome_11 ?_
  obtain ⟨hi, h⟩ := h
  refine J_iald dX2_isHome_12 hi ?_
  refine J_iconst 1 dX2_isHome_13 (by decide) ?_
  refine J_icmp_ne 21 dX2_isHome_14 (by decide) (fun hc => ?_) (fun hc => ?_)
  · have h := h.1 hc
    refine J_iconst 0 dX2_isHome_21 (by decide) ?_
    exact J_lv [0, 1] rfl (K_X2_isHome_22   a0 a1  0 st h)
  · have h := h.2 hc
    refine J_iconst 1 dX2_isHome_17 (by decide) ?_
    refine J_goto 22 dX2_isHome_18 (by decide) ?_
    exact J_lv [0, 1] rfl (K_X2_isHome_22   a0 a1  1 st h)
/-! X2_whoLed -/
def P_X2_whoLed  (a0 : Nat) (a1 : Int32) (st : St) (post : Int32 → St → Prop) : Prop := ∃ r_1, rv st a0 2 1 = some r_1 ∧ vp_in ((38 + (a1 * 3)) + 2) (al 0 r_1) ∧ post (gA st r_1 ((38 + (a1 * 3)) + 2 : Int32).toNatClampNeg) st
set_option maxRecDepth 100000 in
set_option maxHeartbeats 4000000 in
theorem ct_X2_whoLed {l : Launch} {E : En}  {a0 : Nat} {a1 : Int32} {st : St} {post : Int32 → St → Prop} (h : P_X2_whoLed  a0 a1 st post) : CtI l E (CFc E) 1 0 0 yX2_whoLed cX2_whoLed 2 (some .int) [.ref a0, .int a1] st post := by
  refine ctI_of (by decide) (Nat.le_of_ble_eq_true rfl) ?_
  show Jg l E (CFc E) (Rm 1 0 0) cX2_whoLed 2 RX2 (some .int) (fun _ => True) (QI E post 0 0) 0 0 0 [(0, .ref a0), (1, .int a1)] [] st
  unfold P_X2_whoLed at h
  refine J_aload_n 0 dX2_whoLed_0 rfl rfl ?_
  obtain ⟨r_1, hf, h⟩ := h
  refine J_getR fl_RX2_11 dX2_whoLed_1 hf ?_
  refine J_bipush 38 dX2_whoLed_4 (by decide) ?_
  refine J_iload_n 1 dX2_whoLed_6 rfl rfl ?_
  refine J_iconst 3 dX2_whoLed_7 (by decide) ?_
  refine J_imul dX2_whoLed_8 ?_
  refine J_iadd dX2_whoLed_9 ?_
  refine J_iconst 2 dX2_whoLed_10 (by decide) ?_
  refine J_iadd dX2_whoLed_11 ?_
  obtain ⟨hi, h⟩ := h
  refine J_iald dX2_whoLed_12 hi ?_
  exact J_reti rfl dX2_whoLed_13 h
/-! X2_leaderWeight -/
def P_X2_leaderWeight  (a0 : Nat) (a1 : Int32) (st : St) (post : Int32 → St → Prop) : Prop := ∃ r_1, rv st a0 2 3 = some r_1 ∧ vp_in a1 (al 0 r_1) ∧ post (gA st r_1 (a1 : Int32).toNatClampNeg) st
set_option maxRecDepth 100000 in
set_option maxHeartbeats 4000000 in
theorem ct_X2_leaderWeight {l : Launch} {E : En}  {a0 : Nat} {a1 : Int32} {st : St} {post : Int32 → St → Prop} (h : P_X2_leaderWeight  a0 a1 st post) : CtI l E (CFc E) 1 0 0 yX2_leaderWeight cX2_leaderWeight 2 (some .int) [.ref a0, .int a1] st post := by
  refine ctI_of (by decide) (Nat.le_of_ble_eq_true rfl) ?_
  show Jg l E (CFc E) (Rm 1 0 0) cX2_leaderWeight 2 RX2 (some .int) (fun _ => True) (QI E post 0 0) 0 0 0 [(0, .ref a0), (1, .int a1)] [] st
  unfold P_X2_leaderWeight at h
  refine J_aload_n 0 dX2_leaderWeight_0 rfl rfl ?_
  obtain ⟨r_1, hf, h⟩ := h
  refine J_getR fl_RX2_20 dX2_leaderWeight_1 hf ?_
  refine J_iload_n 1 dX2_leaderWeight_4 rfl rfl ?_
  obtain ⟨hi, h⟩ := h
  refine J_iald dX2_leaderWeight_5 hi ?_
  exact J_reti rfl dX2_leaderWeight_6 h
/-! X2_yearsOf -/
def P_X2_yearsOf  (a0 : Nat) (a1 : Int32) (a2 : Int32) (st : St) (post : Int32 → St → Prop) : Prop := ∃ r_1, rv st a0 2 1 = some r_1 ∧ vp_in ((56 + (a1 * 6)) + a2) (al 0 r_1) ∧ post (gA st r_1 ((56 + (a1 * 6)) + a2 : Int32).toNatClampNeg) st
set_option maxRecDepth 100000 in
set_option maxHeartbeats 4000000 in
theorem ct_X2_yearsOf {l : Launch} {E : En}  {a0 : Nat} {a1 : Int32} {a2 : Int32} {st : St} {post : Int32 → St → Prop} (h : P_X2_yearsOf  a0 a1 a2 st post) : CtI l E (CFc E) 1 0 0 yX2_yearsOf cX2_yearsOf 3 (some .int) [.ref a0, .int a1, .int a2] st post := by
  refine ctI_of (by decide) (Nat.le_of_ble_eq_true rfl) ?_
  show Jg l E (CFc E) (Rm 1 0 0) cX2_yearsOf 3 RX2 (some .int) (fun _ => True) (QI E post 0 0) 0 0 0 [(0, .ref a0), (1, .int a1), (2, .int a2)] [] st
  unfold P_X2_yearsOf at h
  refine J_aload_n 0 dX2_yearsOf_0 rfl rfl ?_
  obtain ⟨r_1, hf, h⟩ := h
  refine J_getR fl_RX2_11 dX2_yearsOf_1 hf ?_
  refine J_bipush 56 dX2_yearsOf_4 (by decide) ?_
  refine J_iload_n 1 dX2_yearsOf_6 rfl rfl ?_
  refine J_bipush 6 dX2_yearsOf_7 (by decide) ?_
  refine J_imul dX2_yearsOf_9 ?_
  refine J_iadd dX2_yearsOf_10 ?_
  refine J_iload_n 2 dX2_yearsOf_11 rfl rfl ?_
  refine J_iadd dX2_yearsOf_12 ?_
  obtain ⟨hi, h⟩ := h
  refine J_iald dX2_yearsOf_13 hi ?_
  exact J_reti rfl dX2_yearsOf_14 h
/-! X2_setYears -/
def P_X2_setYears  (a0 : Nat) (a1 : Int32) (a2 : Int32) (a3 : Int32) (st : St) (post : St → Prop) : Prop := ∃ r_1, rv st a0 2 1 = some r_1 ∧ vp_in ((56 + (a1 * 6)) + a2) (al 0 r_1) ∧ post (sA st r_1 ((56 + (a1 * 6)) + a2 : Int32).toNatClampNeg a3)
set_option maxRecDepth 100000 in
set_option maxHeartbeats 4000000 in
theorem ct_X2_setYears {l : Launch} {E : En}  {a0 : Nat} {a1 : Int32} {a2 : Int32} {a3 : Int32} {st : St} {post : St → Prop} (h : P_X2_setYears  a0 a1 a2 a3 st post) : CtV l E (CFc E) 1 0 0 yX2_setYears cX2_setYears 4 none [.ref a0, .int a1, .int a2, .int a3] st post := by
  refine ctV_of (by decide) (Nat.le_of_ble_eq_true rfl) ?_
  show Jg l E (CFc E) (Rm 1 0 0) cX2_setYears 4 RX2 none (fun _ => True) (QV E post 0 0) 0 0 0 [(0, .ref a0), (1, .int a1), (2, .int a2), (3, .int a3)] [] st
  unfold P_X2_setYears at h
  refine J_aload_n 0 dX2_setYears_0 rfl rfl ?_
  obtain ⟨r_1, hf, h⟩ := h
  refine J_getR fl_RX2_11 dX2_setYears_1 hf ?_
  refine J_bipush 56 dX2_setYears_4 (by decide) ?_
  refine J_iload_n 1 dX2_setYears_6 rfl rfl ?_
  refine J_bipush 6 dX2_setYears_7 (by decide) ?_
  refine J_imul dX2_setYears_9 ?_
  refine J_iadd dX2_setYears_10 ?_
  refine J_iload_n 2 dX2_setYears_11 rfl rfl ?_
  refine J_iadd dX2_setYears_12 ?_
  refine J_iload_n 3 dX2_setYears_13 rfl rfl ?_
  obtain ⟨hi, h⟩ := h
  refine J_iast dX2_setYears_14 hi ?_
  exact J_retv rfl dX2_setYears_15 h
/-! X2_bridesTiedTo -/
def P_X2_bridesTiedTo_30  (a0 : Nat) (a1 : Int32) (k4 : Int32 → Int32 → St → Prop) (post : Int32 → St → Prop) (x2 : Int32) (x3 : Int32) (st : St) : Prop := k4 x2 (x3 + 1) st
def P_X2_bridesTiedTo_4  (a0 : Nat) (a1 : Int32)  (post : Int32 → St → Prop) : Nat → Int32 → Int32 → St → Prop
  | 0, _, _, _ => False
  | n9 + 1, x2, x3, st => ∃ r_1, rv st a0 2 0 = some r_1 ∧ fk r_1 3 1 = some 0 ∧ (((gI st r_1 1) ≤ x3 → post x2 st) ∧ (¬ (gI st r_1 1) ≤ x3 → oC a0 2 ∧ P_X2_yearsOf  a0 a1 x3 st (fun z_2 st_3 => ((z_2 ≤ 0 → P_X2_bridesTiedTo_30  a0 a1 (fun x2 x3 st => P_X2_bridesTiedTo_4  a0 a1  post n9 x2 x3 st) post x2 x3 st_3) ∧ (¬ z_2 ≤ 0 → P_X2_bridesTiedTo_30  a0 a1 (fun x2 x3 st => P_X2_bridesTiedTo_4  a0 a1  post n9 x2 x3 st) post (x2 ||| ((1 : Int32) <<< ((x3 : Int32) &&& 31))) x3 st_3)))))
def P_X2_bridesTiedTo  (a0 : Nat) (a1 : Int32) (st : St) (post : Int32 → St → Prop) : Prop := ∃ n8, P_X2_bridesTiedTo_4  a0 a1  post n8 0 0 st
set_option maxRecDepth 100000 in
set_option maxHeartbeats 4000000 in
theorem K_X2_bridesTiedTo_30 {l : Launch} {E : En}   (a0 : Nat) (a1 : Int32) {k4 : Int32 → Int32 → St → Prop} {post : Int32 → St → Prop}  (hk4 : ∀ (x2 : Int32) (x3 : Int32) (st : St), k4 x2 x3 st → Jg l E (CFc E) (Rm 2 0 0) cX2_bridesTiedTo 4 RX2 (some .int) (fun _ => True) (QI E post 0 0) 0 0 4 [(0, .ref a0), (1, .int a1), (2, .int x2), (3, .int x3)] [] st) (x2 : Int32) (x3 : Int32) (st : St) (h : P_X2_bridesTiedTo_30  a0 a1 k4 post x2 x3 st) : Jg l E (CFc E) (Rm 2 0 0) cX2_bridesTiedTo 4 RX2 (some .int) (fun _ => True) (QI E post 0 0) 0 0 30 [(0, .ref a0), (1, .int a1), (2, .int x2), (3, .int x3)] [] st := by
  unfold P_X2_bridesTiedTo_30 at h
  refine J_iinc 3 (x3 + 1) _ dX2_bridesTiedTo_30 rfl (by rfl) (by decide) rfl ?_
  refine J_goto 4 dX2_bridesTiedTo_33 (by decide) ?_
  exact J_lv [1, 2, 3, 0] rfl (hk4 x2 (x3 + 1) st h)
set_option maxRecDepth 100000 in
set_option maxHeartbeats 4000000 in
theorem K_X2_bridesTiedTo_4 {l : Launch} {E : En}   (a0 : Nat) (a1 : Int32)  {post : Int32 → St → Prop}   : ∀ (n9 : Nat) (x2 : Int32) (x3 : Int32) (st : St), P_X2_bridesTiedTo_4  a0 a1  post n9 x2 x3 st → Jg l E (CFc E) (Rm 2 0 0) cX2_bridesTiedTo 4 RX2 (some .int) (fun _ => True) (QI E post 0 0) 0 0 4 [(0, .ref a0), (1, .int a1), (2, .int x2), (3, .int x3)] [] st := by
  intro n9
  induction n9 with
  | zero => intro x2 x3 st h; exact h.elim
  | succ n9 ih =>
    intro x2 x3 st h
    unfold P_X2_bridesTiedTo_4 at h
    refine J_iload_n 3 dX2_bridesTiedTo_4 rfl rfl ?_
    refine J_aload_n 0 dX2_bridesTiedTo_5 rfl rfl ?_
    obtain ⟨r_1, hf, h⟩ := h
    refine J_getR fl_RX2_23 dX2_bridesTiedTo_6 hf ?_
    obtain ⟨hf, h⟩ := h
    refine J_getI fl_RX2_38 dX2_bridesTiedTo_9 hf ?_
    refine J_icmp_ge 36 dX2_bridesTiedTo_12 (by decide) (fun hc => ?_) (fun hc => ?_)
    · have h := h.1 hc
      refine J_iload_n 2 dX2_bridesTiedTo_36 rfl rfl ?_
      exact J_reti rfl dX2_bridesTiedTo_37 h
    · have h := h.2 hc
      refine J_aload_n 0 dX2_bridesTiedTo_15 rfl rfl ?_
      refine J_iload_n 1 dX2_bridesTiedTo_16 rfl rfl ?_
      refine J_iload_n 3 dX2_bridesTiedTo_17 rfl rfl ?_
      obtain ⟨ho, h⟩ := h
      refine J_cvi (As := [_, _]) md_X2_yearsOf k_122 (rc_obj cl_2 ho) rfl rfl ⟨Nat.le_of_ble_eq_true rfl, Nat.le_of_ble_eq_true rfl⟩ ⟨Nat.le_of_ble_eq_true rfl, Nat.le_of_ble_eq_true rfl⟩ (Nat.le_of_ble_eq_true rfl) dX2_bridesTiedTo_18 (ct_X2_yearsOf  h) (fun z_2 st_3 h => ?_)
      refine J_if_le 30 dX2_bridesTiedTo_21 (by decide) (fun hc => ?_) (fun hc => ?_)
      · have h := h.1 hc
        exact J_lv [0, 1, 2, 3] rfl (K_X2_bridesTiedTo_30   a0 a1 (fun x2 x3 st h => ih x2 x3 st h) x2 x3 st_3 h)
      · have h := h.2 hc
        refine J_iload_n 2 dX2_bridesTiedTo_24 rfl rfl ?_
        refine J_iconst 1 dX2_bridesTiedTo_25 (by decide) ?_
        refine J_iload_n 3 dX2_bridesTiedTo_26 rfl rfl ?_
        refine J_ishl dX2_bridesTiedTo_27 ?_
        refine J_ior dX2_bridesTiedTo_28 ?_
        refine J_istore_n _ dX2_bridesTiedTo_29 rfl (by decide) rfl ?_
        exact J_lv [1, 2, 0, 3] rfl (K_X2_bridesTiedTo_30   a0 a1 (fun x2 x3 st h => ih x2 x3 st h) (x2 ||| ((1 : Int32) <<< ((x3 : Int32) &&& 31))) x3 st_3 h)
set_option maxRecDepth 100000 in
set_option maxHeartbeats 4000000 in
theorem ct_X2_bridesTiedTo {l : Launch} {E : En}  {a0 : Nat} {a1 : Int32} {st : St} {post : Int32 → St → Prop} (h : P_X2_bridesTiedTo  a0 a1 st post) : CtI l E (CFc E) 2 0 0 yX2_bridesTiedTo cX2_bridesTiedTo 4 (some .int) [.ref a0, .int a1] st post := by
  refine ctI_of (by decide) (Nat.le_of_ble_eq_true rfl) ?_
  show Jg l E (CFc E) (Rm 2 0 0) cX2_bridesTiedTo 4 RX2 (some .int) (fun _ => True) (QI E post 0 0) 0 0 0 [(0, .ref a0), (1, .int a1)] [] st
  unfold P_X2_bridesTiedTo at h
  refine J_iconst 0 dX2_bridesTiedTo_0 (by decide) ?_
  refine J_istore_n _ dX2_bridesTiedTo_1 rfl (by decide) rfl ?_
  refine J_iconst 0 dX2_bridesTiedTo_2 (by decide) ?_
  refine J_istore_n _ dX2_bridesTiedTo_3 rfl (by decide) rfl ?_
  obtain ⟨n8, h⟩ := h
  exact J_lv [2, 3, 1, 0] rfl (K_X2_bridesTiedTo_4   a0 a1  n8 0 0 st h)
/-! X2_peopleTiedTo -/
def P_X2_peopleTiedTo_38  (a0 : Nat) (a1 : Int32) (k4 : Int32 → Int32 → St → Prop) (post : Int32 → St → Prop) (x2 : Int32) (x3 : Int32) (st : St) : Prop := k4 x2 (x3 + 1) st
def P_X2_peopleTiedTo_4  (a0 : Nat) (a1 : Int32)  (post : Int32 → St → Prop) : Nat → Int32 → Int32 → St → Prop
  | 0, _, _, _ => False
  | n9 + 1, x2, x3, st => ∃ r_1, rv st a0 2 0 = some r_1 ∧ fk r_1 3 0 = some 0 ∧ (((gI st r_1 0) ≤ x3 → post x2 st) ∧ (¬ (gI st r_1 0) ≤ x3 → ∃ r_2, rv st a0 2 1 = some r_2 ∧ vp_in ((56 + (x3 * 6)) + a1) (al 0 r_2) ∧ (((gA st r_2 ((56 + (x3 * 6)) + a1 : Int32).toNatClampNeg) ≤ 0 → P_X2_peopleTiedTo_38  a0 a1 (fun x2 x3 st => P_X2_peopleTiedTo_4  a0 a1  post n9 x2 x3 st) post x2 x3 st) ∧ (¬ (gA st r_2 ((56 + (x3 * 6)) + a1 : Int32).toNatClampNeg) ≤ 0 → P_X2_peopleTiedTo_38  a0 a1 (fun x2 x3 st => P_X2_peopleTiedTo_4  a0 a1  post n9 x2 x3 st) post (x2 ||| ((1 : Int32) <<< ((x3 : Int32) &&& 31))) x3 st))))
def P_X2_peopleTiedTo  (a0 : Nat) (a1 : Int32) (st : St) (post : Int32 → St → Prop) : Prop := ∃ n8, P_X2_peopleTiedTo_4  a0 a1  post n8 0 0 st
set_option maxRecDepth 100000 in
set_option maxHeartbeats 4000000 in
theorem K_X2_peopleTiedTo_38 {l : Launch} {E : En}   (a0 : Nat) (a1 : Int32) {k4 : Int32 → Int32 → St → Prop} {post : Int32 → St → Prop}  (hk4 : ∀ (x2 : Int32) (x3 : Int32) (st : St), k4 x2 x3 st → Jg l E (CFc E) (Rm 1 0 0) cX2_peopleTiedTo 4 RX2 (some .int) (fun _ => True) (QI E post 0 0) 0 0 4 [(0, .ref a0), (1, .int a1), (2, .int x2), (3, .int x3)] [] st) (x2 : Int32) (x3 : Int32) (st : St) (h : P_X2_peopleTiedTo_38  a0 a1 k4 post x2 x3 st) : Jg l E (CFc E) (Rm 1 0 0) cX2_peopleTiedTo 4 RX2 (some .int) (fun _ => True) (QI E post 0 0) 0 0 38 [(0, .ref a0), (1, .int a1), (2, .int x2), (3, .int x3)] [] st := by
  unfold P_X2_peopleTiedTo_38 at h
  refine J_iinc 3 (x3 + 1) _ dX2_peopleTiedTo_38 rfl (by rfl) (by decide) rfl ?_
  refine J_goto 4 dX2_peopleTiedTo_41 (by decide) ?_
  exact J_lv [1, 2, 3, 0] rfl (hk4 x2 (x3 + 1) st h)
set_option maxRecDepth 100000 in
set_option maxHeartbeats 4000000 in
theorem K_X2_peopleTiedTo_4 {l : Launch} {E : En}   (a0 : Nat) (a1 : Int32)  {post : Int32 → St → Prop}   : ∀ (n9 : Nat) (x2 : Int32) (x3 : Int32) (st : St), P_X2_peopleTiedTo_4  a0 a1  post n9 x2 x3 st → Jg l E (CFc E) (Rm 1 0 0) cX2_peopleTiedTo 4 RX2 (some .int) (fun _ => True) (QI E post 0 0) 0 0 4 [(0, .ref a0), (1, .int a1), (2, .int x2), (3, .int x3)] [] st := by
  intro n9
  induction n9 with
  | zero => intro x2 x3 st h; exact h.elim
  | succ n9 ih =>
    intro x2 x3 st h
    unfold P_X2_peopleTiedTo_4 at h
    refine J_iload_n 3 dX2_peopleTiedTo_4 rfl rfl ?_
    refine J_aload_n 0 dX2_peopleTiedTo_5 rfl rfl ?_
    obtain ⟨r_1, hf, h⟩ := h
    refine J_getR fl_RX2_23 dX2_peopleTiedTo_6 hf ?_
    obtain ⟨hf, h⟩ := h
    refine J_getI fl_RX2_46 dX2_peopleTiedTo_9 hf ?_
    refine J_icmp_ge 44 dX2_peopleTiedTo_12 (by decide) (fun hc => ?_) (fun hc => ?_)
    · have h := h.1 hc
      refine J_iload_n 2 dX2_peopleTiedTo_44 rfl rfl ?_
      exact J_reti rfl dX2_peopleTiedTo_45 h
    · have h := h.2 hc
      refine J_aload_n 0 dX2_peopleTiedTo_15 rfl rfl ?_
      obtain ⟨r_2, hf, h⟩ := h
      refine J_getR fl_RX2_11 dX2_peopleTiedTo_16 hf ?_
      refine J_bipush 56 dX2_peopleTiedTo_19 (by decide) ?_
      refine J_iload_n 3 dX2_peopleTiedTo_21 rfl rfl ?_
      refine J_bipush 6 dX2_peopleTiedTo_22 (by decide) ?_
      refine J_imul dX2_peopleTiedTo_24 ?_
      refine J_iadd dX2_peopleTiedTo_25 ?_
      refine J_iload_n 1 dX2_peopleTiedTo_26 rfl rfl ?_
      refine J_iadd dX2_peopleTiedTo_27 ?_
      obtain ⟨hi, h⟩ := h
      refine J_iald dX2_peopleTiedTo_28 hi ?_
      refine J_if_le 38 dX2_peopleTiedTo_29 (by decide) (fun hc => ?_) (fun hc => ?_)
      · have h := h.1 hc
        exact J_lv [0, 1, 2, 3] rfl (K_X2_peopleTiedTo_38   a0 a1 (fun x2 x3 st h => ih x2 x3 st h) x2 x3 st h)
      · have h := h.2 hc
        refine J_iload_n 2 dX2_peopleTiedTo_32 rfl rfl ?_
        refine J_iconst 1 dX2_peopleTiedTo_33 (by decide) ?_
        refine J_iload_n 3 dX2_peopleTiedTo_34 rfl rfl ?_
        refine J_ishl dX2_peopleTiedTo_35 ?_
        refine J_ior dX2_peopleTiedTo_36 ?_
        refine J_istore_n _ dX2_peopleTiedTo_37 rfl (by decide) rfl ?_
        exact J_lv [1, 2, 0, 3] rfl (K_X2_peopleTiedTo_38   a0 a1 (fun x2 x3 st h => ih x2 x3 st h) (x2 ||| ((1 : Int32) <<< ((x3 : Int32) &&& 31))) x3 st h)
set_option maxRecDepth 100000 in
set_option maxHeartbeats 4000000 in
theorem ct_X2_peopleTiedTo {l : Launch} {E : En}  {a0 : Nat} {a1 : Int32} {st : St} {post : Int32 → St → Prop} (h : P_X2_peopleTiedTo  a0 a1 st post) : CtI l E (CFc E) 1 0 0 yX2_peopleTiedTo cX2_peopleTiedTo 4 (some .int) [.ref a0, .int a1] st post := by
  refine ctI_of (by decide) (Nat.le_of_ble_eq_true rfl) ?_
  show Jg l E (CFc E) (Rm 1 0 0) cX2_peopleTiedTo 4 RX2 (some .int) (fun _ => True) (QI E post 0 0) 0 0 0 [(0, .ref a0), (1, .int a1)] [] st
  unfold P_X2_peopleTiedTo at h
  refine J_iconst 0 dX2_peopleTiedTo_0 (by decide) ?_
  refine J_istore_n _ dX2_peopleTiedTo_1 rfl (by decide) rfl ?_
  refine J_iconst 0 dX2_peopleTiedTo_2 (by decide) ?_
  refine J_istore_n _ dX2_peopleTiedTo_3 rfl (by decide) rfl ?_
  obtain ⟨n8, h⟩ := h
  exact J_lv [2, 3, 1, 0] rfl (K_X2_peopleTiedTo_4   a0 a1  n8 0 0 st h)
/-! X2_peopleBeside -/
def P_X2_peopleBeside_34  (a0 : Nat) (a1 : Int32) (k4 : Int32 → Int32 → St → Prop) (post : Int32 → St → Prop) (x2 : Int32) (x3 : Int32) (st : St) : Prop := k4 x2 (x3 + 1) st
def P_X2_peopleBeside_4  (a0 : Nat) (a1 : Int32)  (post : Int32 → St → Prop) : Nat → Int32 → Int32 → St → Prop
  | 0, _, _, _ => False
  | n9 + 1, x2, x3, st => ∃ r_1, rv st a0 2 0 = some r_1 ∧ fk r_1 3 1 = some 0 ∧ (((gI st r_1 1) ≤ x3 → post x2 st) ∧ (¬ (gI st r_1 1) ≤ x3 → oC a0 2 ∧ P_X2_peopleTiedTo  a0 x3 st (fun z_2 st_3 => (((z_2 &&& a1) = 0 → P_X2_peopleBeside_34  a0 a1 (fun x2 x3 st => P_X2_peopleBeside_4  a0 a1  post n9 x2 x3 st) post x2 x3 st_3) ∧ (¬ (z_2 &&& a1) = 0 → P_X2_peopleBeside_34  a0 a1 (fun x2 x3 st => P_X2_peopleBeside_4  a0 a1  post n9 x2 x3 st) post (x2 ||| z_2) x3 st_3)))))
def P_X2_peopleBeside  (a0 : Nat) (a1 : Int32) (st : St) (post : Int32 → St → Prop) : Prop := ∃ n8, P_X2_peopleBeside_4  a0 a1  post n8 0 0 st
set_option maxRecDepth 100000 in
set_option maxHeartbeats 4000000 in
theorem K_X2_peopleBeside_34 {l : Launch} {E : En}   (a0 : Nat) (a1 : Int32) {k4 : Int32 → Int32 → St → Prop} {post : Int32 → St → Prop}  (hk4 : ∀ (x2 : Int32) (x3 : Int32) (st : St), k4 x2 x3 st → Jg l E (CFc E) (Rm 2 0 0) cX2_peopleBeside 5 RX2 (some .int) (fun _ => True) (QI E post 0 0) 0 0 4 [(0, .ref a0), (1, .int a1), (2, .int x2), (3, .int x3)] [] st) (x2 : Int32) (x3 : Int32) (st : St) (h : P_X2_peopleBeside_34  a0 a1 k4 post x2 x3 st) : Jg l E (CFc E) (Rm 2 0 0) cX2_peopleBeside 5 RX2 (some .int) (fun _ => True) (QI E post 0 0) 0 0 34 [(0, .ref a0), (1, .int a1), (2, .int x2), (3, .int x3)] [] st := by
  unfold P_X2_peopleBeside_34 at h
  refine J_iinc 3 (x3 + 1) _ dX2_peopleBeside_34 rfl (by rfl) (by decide) rfl ?_
  refine J_goto 4 dX2_peopleBeside_37 (by decide) ?_
  exact J_lv [1, 2, 3, 0] rfl (hk4 x2 (x3 + 1) st h)
set_option maxRecDepth 100000 in
set_option maxHeartbeats 4000000 in
theorem K_X2_peopleBeside_4 {l : Launch} {E : En}   (a0 : Nat) (a1 : Int32)  {post : Int32 → St → Prop}   : ∀ (n9 : Nat) (x2 : Int32) (x3 : Int32) (st : St), P_X2_peopleBeside_4  a0 a1  post n9 x2 x3 st → Jg l E (CFc E) (Rm 2 0 0) cX2_peopleBeside 5 RX2 (some .int) (fun _ => True) (QI E post 0 0) 0 0 4 [(0, .ref a0), (1, .int a1), (2, .int x2), (3, .int x3)] [] st := by
  intro n9
  induction n9 with
  | zero => intro x2 x3 st h; exact h.elim
  | succ n9 ih =>
    intro x2 x3 st h
    unfold P_X2_peopleBeside_4 at h
    refine J_iload_n 3 dX2_peopleBeside_4 rfl rfl ?_
    refine J_aload_n 0 dX2_peopleBeside_5 rfl rfl ?_
    obtain ⟨r_1, hf, h⟩ := h
    refine J_getR fl_RX2_23 dX2_peopleBeside_6 hf ?_
    obtain ⟨hf, h⟩ := h
    refine J_getI fl_RX2_38 dX2_peopleBeside_9 hf ?_
    refine J_icmp_ge 40 dX2_peopleBeside_12 (by decide) (fun hc => ?_) (fun hc => ?_)
    · have h := h.1 hc
      refine J_iload_n 2 dX2_peopleBeside_40 rfl rfl ?_
      exact J_reti rfl dX2_peopleBeside_41 h
    · have h := h.2 hc
      refine J_aload_n 0 dX2_peopleBeside_15 rfl rfl ?_
      refine J_iload_n 3 dX2_peopleBeside_16 rfl rfl ?_
      obtain ⟨ho, h⟩ := h
      refine J_cvi (As := [_]) md_X2_peopleTiedTo k_128 (rc_obj cl_2 ho) rfl rfl ⟨Nat.le_of_ble_eq_true rfl, Nat.le_of_ble_eq_true rfl⟩ ⟨Nat.le_of_ble_eq_true rfl, Nat.le_of_ble_eq_true rfl⟩ (Nat.le_of_ble_eq_true rfl) dX2_peopleBeside_17 (ct_X2_peopleTiedTo  h) (fun z_2 st_3 h => ?_)
      refine J_istore _ dX2_peopleBeside_20 (by decide) rfl ?_
      refine J_iload 0 dX2_peopleBeside_22 rfl ?_
      refine J_iload_n 2 dX2_peopleBeside_24 rfl rfl ?_
      refine J_iand dX2_peopleBeside_25 ?_
      refine J_if_eq 34 dX2_peopleBeside_26 (by decide) (fun hc => ?_) (fun hc => ?_)
      · have h := h.1 hc
        exact J_lv [1, 2, 3, 4] rfl (K_X2_peopleBeside_34   a0 a1 (fun x2 x3 st h => ih x2 x3 st h) x2 x3 st_3 h)
      · have h := h.2 hc
        refine J_iload_n 3 dX2_peopleBeside_29 rfl rfl ?_
        refine J_iload 0 dX2_peopleBeside_30 rfl ?_
        refine J_ior dX2_peopleBeside_32 ?_
        refine J_istore_n _ dX2_peopleBeside_33 rfl (by decide) rfl ?_
        exact J_lv [2, 3, 0, 4] rfl (K_X2_peopleBeside_34   a0 a1 (fun x2 x3 st h => ih x2 x3 st h) (x2 ||| z_2) x3 st_3 h)
set_option maxRecDepth 100000 in
set_option maxHeartbeats 4000000 in
theorem ct_X2_peopleBeside {l : Launch} {E : En}  {a0 : Nat} {a1 : Int32} {st : St} {post : Int32 → St → Prop} (h : P_X2_peopleBeside  a0 a1 st post) : CtI l E (CFc E) 2 0 0 yX2_peopleBeside cX2_peopleBeside 5 (some .int) [.ref a0, .int a1] st post := by
  refine ctI_of (by decide) (Nat.le_of_ble_eq_true rfl) ?_
  show Jg l E (CFc E) (Rm 2 0 0) cX2_peopleBeside 5 RX2 (some .int) (fun _ => True) (QI E post 0 0) 0 0 0 [(0, .ref a0), (1, .int a1)] [] st
  unfold P_X2_peopleBeside at h
  refine J_iconst 0 dX2_peopleBeside_0 (by decide) ?_
  refine J_istore_n _ dX2_peopleBeside_1 rfl (by decide) rfl ?_
  refine J_iconst 0 dX2_peopleBeside_2 (by decide) ?_
  refine J_istore_n _ dX2_peopleBeside_3 rfl (by decide) rfl ?_
  obtain ⟨n8, h⟩ := h
  exact J_lv [2, 3, 1, 0] rfl (K_X2_peopleBeside_4   a0 a1  n8 0 0 st h)
/-! X2_homeBits -/
def P_X2_homeBits_29  (a0 : Nat) (k4 : Int32 → Int32 → St → Prop) (post : Int32 → St → Prop) (x1 : Int32) (x2 : Int32) (st : St) : Prop := k4 x1 (x2 + 1) st
def P_X2_homeBits_4  (a0 : Nat)  (post : Int32 → St → Prop) : Nat → Int32 → Int32 → St → Prop
  | 0, _, _, _ => False
  | n9 + 1, x1, x2, st => ∃ r_1, rv st a0 2 0 = some r_1 ∧ fk r_1 3 1 = some 0 ∧ (((gI st r_1 1) ≤ x2 → post x1 st) ∧ (¬ (gI st r_1 1) ≤ x2 → oC a0 2 ∧ P_X2_isHome  a0 x2 st (fun z_2 st_3 => ((z_2 = 0 → P_X2_homeBits_29  a0 (fun x1 x2 st => P_X2_homeBits_4  a0  post n9 x1 x2 st) post x1 x2 st_3) ∧ (¬ z_2 = 0 → P_X2_homeBits_29  a0 (fun x1 x2 st => P_X2_homeBits_4  a0  post n9 x1 x2 st) post (x1 ||| ((1 : Int32) <<< ((x2 : Int32) &&& 31))) x2 st_3)))))
def P_X2_homeBits  (a0 : Nat) (st : St) (post : Int32 → St → Prop) : Prop := ∃ n8, P_X2_homeBits_4  a0  post n8 0 0 st
set_option maxRecDepth 100000 in
set_option maxHeartbeats 4000000 in
theorem K_X2_homeBits_29 {l : Launch} {E : En}   (a0 : Nat) {k4 : Int32 → Int32 → St → Prop} {post : Int32 → St → Prop}  (hk4 : ∀ (x1 : Int32) (x2 : Int32) (st : St), k4 x1 x2 st → Jg l E (CFc E) (Rm 2 0 0) cX2_homeBits 3 RX2 (some .int) (fun _ => True) (QI E post 0 0) 0 0 4 [(0, .ref a0), (1, .int x1), (2, .int x2)] [] st) (x1 : Int32) (x2 : Int32) (st : St) (h : P_X2_homeBits_29  a0 k4 post x1 x2 st) : Jg l E (CFc E) (Rm 2 0 0) cX2_homeBits 3 RX2 (some .int) (fun _ => True) (QI E post 0 0) 0 0 29 [(0, .ref a0), (1, .int x1), (2, .int x2)] [] st := by
  unfold P_X2_homeBits_29 at h
  refine J_iinc 2 (x2 + 1) _ dX2_homeBits_29 rfl (by rfl) (by decide) rfl ?_
  refine J_goto 4 dX2_homeBits_32 (by decide) ?_
  exact J_lv [1, 2, 0] rfl (hk4 x1 (x2 + 1) st h)
set_option maxRecDepth 100000 in
set_option maxHeartbeats 4000000 in
theorem K_X2_homeBits_4 {l : Launch} {E : En}   (a0 : Nat)  {post : Int32 → St → Prop}   : ∀ (n9 : Nat) (x1 : Int32) (x2 : Int32) (st : St), P_X2_homeBits_4  a0  post n9 x1 x2 st → Jg l E (CFc E) (Rm 2 0 0) cX2_homeBits 3 RX2 (some .int) (fun _ => True) (QI E post 0 0) 0 0 4 [(0, .ref a0), (1, .int x1), (2, .int x2)] [] st := by
  intro n9
  induction n9 with
  | zero => intro x1 x2 st h; exact h.elim
  | succ n9 ih =>
    intro x1 x2 st h
    unfold P_X2_homeBits_4 at h
    refine J_iload_n 2 dX2_homeBits_4 rfl rfl ?_
    refine J_aload_n 0 dX2_homeBits_5 rfl rfl ?_
    obtain ⟨r_1, hf, h⟩ := h
    refine J_getR fl_RX2_23 dX2_homeBits_6 hf ?_
    obtain ⟨hf, h⟩ := h
    refine J_getI fl_RX2_38 dX2_homeBits_9 hf ?_
    refine J_icmp_ge 35 dX2_homeBits_12 (by decide) (fun hc => ?_) (fun hc => ?_)
    · have h := h.1 hc
      refine J_iload_n 1 dX2_homeBits_35 rfl rfl ?_
      exact J_reti rfl dX2_homeBits_36 h
    · have h := h.2 hc
      refine J_aload_n 0 dX2_homeBits_15 rfl rfl ?_
      refine J_iload_n 2 dX2_homeBits_16 rfl rfl ?_
      obtain ⟨ho, h⟩ := h
      refine J_cvi (As := [_]) md_X2_isHome k_143 (rc_obj cl_2 ho) rfl rfl ⟨Nat.le_of_ble_eq_true rfl, Nat.le_of_ble_eq_true rfl⟩ ⟨Nat.le_of_ble_eq_true rfl, Nat.le_of_ble_eq_true rfl⟩ (Nat.le_of_ble_eq_true rfl) dX2_homeBits_17 (ct_X2_isHome  h) (fun z_2 st_3 h => ?_)
      refine J_if_eq 29 dX2_homeBits_20 (by decide) (fun hc => ?_) (fun hc => ?_)
      · have h := h.1 hc
        exact J_lv [0, 1, 2] rfl (K_X2_homeBits_29   a0 (fun x1 x2 st h => ih x1 x2 st h) x1 x2 st_3 h)
      · have h := h.2 hc
        refine J_iload_n 1 dX2_homeBits_23 rfl rfl ?_
        refine J_iconst 1 dX2_homeBits_24 (by decide) ?_
        refine J_iload_n 2 dX2_homeBits_25 rfl rfl ?_
        refine J_ishl dX2_homeBits_26 ?_
        refine J_ior dX2_homeBits_27 ?_
        refine J_istore_n _ dX2_homeBits_28 rfl (by decide) rfl ?_
        exact J_lv [1, 0, 2] rfl (K_X2_homeBits_29   a0 (fun x1 x2 st h => ih x1 x2 st h) (x1 ||| ((1 : Int32) <<< ((x2 : Int32) &&& 31))) x2 st_3 h)
set_option maxRecDepth 100000 in
set_option maxHeartbeats 4000000 in
theorem ct_X2_homeBits {l : Launch} {E : En}  {a0 : Nat} {st : St} {post : Int32 → St → Prop} (h : P_X2_homeBits  a0 st post) : CtI l E (CFc E) 2 0 0 yX2_homeBits cX2_homeBits 3 (some .int) [.ref a0] st post := by
  refine ctI_of (by decide) (Nat.le_of_ble_eq_true rfl) ?_
  show Jg l E (CFc E) (Rm 2 0 0) cX2_homeBits 3 RX2 (some .int) (fun _ => True) (QI E post 0 0) 0 0 0 [(0, .ref a0)] [] st
  unfold P_X2_homeBits at h
  refine J_iconst 0 dX2_homeBits_0 (by decide) ?_
  refine J_istore_n _ dX2_homeBits_1 rfl (by decide) rfl ?_
  refine J_iconst 0 dX2_homeBits_2 (by decide) ?_
  refine J_istore_n _ dX2_homeBits_3 rfl (by decide) rfl ?_
  obtain ⟨n8, h⟩ := h
  exact J_lv [2, 1, 0] rfl (K_X2_homeBits_4   a0  n8 0 0 st h)
/-! X2_griefOfAll -/
def P_X2_griefOfAll_4  (a0 : Nat)  (post : Int32 → St → Prop) : Nat → Int32 → Int32 → St → Prop
  | 0, _, _, _ => False
  | n9 + 1, x1, x2, st => ∃ r_1, rv st a0 2 0 = some r_1 ∧ fk r_1 3 0 = some 0 ∧ (((gI st r_1 0) ≤ x2 → post x1 st) ∧ (¬ (gI st r_1 0) ≤ x2 → oC a0 2 ∧ P_X2_griefOf  a0 x2 st (fun z_2 st_3 => P_X2_griefOfAll_4  a0  post n9 (x1 + z_2) (x2 + 1) st_3)))
def P_X2_griefOfAll  (a0 : Nat) (st : St) (post : Int32 → St → Prop) : Prop := ∃ n8, P_X2_griefOfAll_4  a0  post n8 0 0 st
set_option maxRecDepth 100000 in
set_option maxHeartbeats 4000000 in
theorem K_X2_griefOfAll_4 {l : Launch} {E : En}   (a0 : Nat)  {post : Int32 → St → Prop}   : ∀ (n9 : Nat) (x1 : Int32) (x2 : Int32) (st : St), P_X2_griefOfAll_4  a0  post n9 x1 x2 st → Jg l E (CFc E) (Rm 2 0 0) cX2_griefOfAll 3 RX2 (some .int) (fun _ => True) (QI E post 0 0) 0 0 4 [(0, .ref a0), (1, .int x1), (2, .int x2)] [] st := by
  intro n9
  induction n9 with
  | zero => intro x1 x2 st h; exact h.elim
  | succ n9 ih =>
    intro x1 x2 st h
    unfold P_X2_griefOfAll_4 at h
    refine J_iload_n 2 dX2_griefOfAll_4 rfl rfl ?_
    refine J_aload_n 0 dX2_griefOfAll_5 rfl rfl ?_
    obtain ⟨r_1, hf, h⟩ := h
    refine J_getR fl_RX2_23 dX2_griefOfAll_6 hf ?_
    obtain ⟨hf, h⟩ := h
    refine J_getI fl_RX2_46 dX2_griefOfAll_9 hf ?_
    refine J_icmp_ge 29 dX2_griefOfAll_12 (by decide) (fun hc => ?_) (fun hc => ?_)
    · have h := h.1 hc
      refine J_iload_n 1 dX2_griefOfAll_29 rfl rfl ?_
      exact J_reti rfl dX2_griefOfAll_30 h
    · have h := h.2 hc
      refine J_iload_n 1 dX2_griefOfAll_15 rfl rfl ?_
      refine J_aload_n 0 dX2_griefOfAll_16 rfl rfl ?_
      refine J_iload_n 2 dX2_griefOfAll_17 rfl rfl ?_
      obtain ⟨ho, h⟩ := h
      refine J_cvi (As := [_]) md_X2_griefOf k_147 (rc_obj cl_2 ho) rfl rfl ⟨Nat.le_of_ble_eq_true rfl, Nat.le_of_ble_eq_true rfl⟩ ⟨Nat.le_of_ble_eq_true rfl, Nat.le_of_ble_eq_true rfl⟩ (Nat.le_of_ble_eq_true rfl) dX2_griefOfAll_18 (ct_X2_griefOf  h) (fun z_2 st_3 h => ?_)
      refine J_iadd dX2_griefOfAll_21 ?_
      refine J_istore_n _ dX2_griefOfAll_22 rfl (by decide) rfl ?_
      refine J_iinc 2 (x2 + 1) _ dX2_griefOfAll_23 rfl (by rfl) (by decide) rfl ?_
      refine J_goto 4 dX2_griefOfAll_26 (by decide) ?_
      exact J_lv [2, 1, 0] rfl (ih (x1 + z_2) (x2 + 1) st_3 h)
set_option maxRecDepth 100000 in
set_option maxHeartbeats 4000000 in
theorem ct_X2_griefOfAll {l : Launch} {E : En}  {a0 : Nat} {st : St} {post : Int32 → St → Prop} (h : P_X2_griefOfAll  a0 st post) : CtI l E (CFc E) 2 0 0 yX2_griefOfAll cX2_griefOfAll 3 (some .int) [.ref a0] st post := by
  refine ctI_of (by decide) (Nat.le_of_ble_eq_true rfl) ?_
  show Jg l E (CFc E) (Rm 2 0 0) cX2_griefOfAll 3 RX2 (some .int) (fun _ => True) (QI E post 0 0) 0 0 0 [(0, .ref a0)] [] st
  unfold P_X2_griefOfAll at h
  refine J_iconst 0 dX2_griefOfAll_0 (by decide) ?_
  refine J_istore_n _ dX2_griefOfAll_1 rfl (by decide) rfl ?_
  refine J_iconst 0 dX2_griefOfAll_2 (by decide) ?_
  refine J_istore_n _ dX2_griefOfAll_3 rfl (by decide) rfl ?_
  obtain ⟨n8, h⟩ := h
  exact J_lv [2, 1, 0] rfl (K_X2_griefOfAll_4   a0  n8 0 0 st h)
/-! X2_weddingsOn -/
def P_X2_weddingsOn_35  (a0 : Nat) (a1 : Int32) (k4 : Int32 → Int32 → St → Prop) (post : Int32 → St → Prop) (x2 : Int32) (x3 : Int32) (st : St) : Prop := k4 x2 (x3 + 1) st
def P_X2_weddingsOn_4  (a0 : Nat) (a1 : Int32)  (post : Int32 → St → Prop) : Nat → Int32 → Int32 → St → Prop
  | 0, _, _, _ => False
  | n9 + 1, x2, x3, st => ∃ r_1, rv st a0 2 0 = some r_1 ∧ fk r_1 3 1 = some 0 ∧ (((gI st r_1 1) ≤ x3 → post x2 st) ∧ (¬ (gI st r_1 1) ≤ x3 → oC a0 2 ∧ P_X2_isHome  a0 x3 st (fun z_2 st_3 => ((z_2 = 0 → P_X2_weddingsOn_35  a0 a1 (fun x2 x3 st => P_X2_weddingsOn_4  a0 a1  post n9 x2 x3 st) post x2 x3 st_3) ∧ (¬ z_2 = 0 → oC a0 2 ∧ P_X2_weddingOf  a0 x3 st_3 (fun z_4 st_5 => ((¬ z_4 = a1 → P_X2_weddingsOn_35  a0 a1 (fun x2 x3 st => P_X2_weddingsOn_4  a0 a1  post n9 x2 x3 st) post x2 x3 st_5) ∧ (z_4 = a1 → P_X2_weddingsOn_35  a0 a1 (fun x2 x3 st => P_X2_weddingsOn_4  a0 a1  post n9 x2 x3 st) post (x2 + 1) x3 st_5))))))))
def P_X2_weddingsOn  (a0 : Nat) (a1 : Int32) (st : St) (post : Int32 → St → Prop) : Prop := ∃ n8, P_X2_weddingsOn_4  a0 a1  post n8 0 0 st
set_option maxRecDepth 100000 in
set_option maxHeartbeats 4000000 in
theorem K_X2_weddingsOn_35 {l : Launch} {E : En}   (a0 : Nat) (a1 : Int32) {k4 : Int32 → Int32 → St → Prop} {post : Int32 → St → Prop}  (hk4 : ∀ (x2 : Int32) (x3 : Int32) (st : St), k4 x2 x3 st → Jg l E (CFc E) (Rm 2 0 0) cX2_weddingsOn 4 RX2 (some .int) (fun _ => True) (QI E post 0 0) 0 0 4 [(0, .ref a0), (1, .int a1), (2, .int x2), (3, .int x3)] [] st) (x2 : Int32) (x3 : Int32) (st : St) (h : P_X2_weddingsOn_35  a0 a1 k4 post x2 x3 st) : Jg l E (CFc E) (Rm 2 0 0) cX2_weddingsOn 4 RX2 (some .int) (fun _ => True) (QI E post 0 0) 0 0 35 [(0, .ref a0), (1, .int a1), (2, .int x2), (3, .int x3)] [] st := by
  unfold P_X2_weddingsOn_35 at h
  refine J_iinc 3 (x3 + 1) _ dX2_weddingsOn_35 rfl (by rfl) (by decide) rfl ?_
  refine J_goto 4 dX2_weddingsOn_38 (by decide) ?_
  exact J_lv [1, 2, 3, 0] rfl (hk4 x2 (x3 + 1) st h)
set_option maxRecDepth 100000 in
set_option maxHeartbeats 4000000 in
theorem K_X2_weddingsOn_4 {l : Launch} {E : En}   (a0 : Nat) (a1 : Int32)  {post : Int32 → St → Prop}   : ∀ (n9 : Nat) (x2 : Int32) (x3 : Int32) (st : St), P_X2_weddingsOn_4  a0 a1  post n9 x2 x3 st → Jg l E (CFc E) (Rm 2 0 0) cX2_weddingsOn 4 RX2 (some .int) (fun _ => True) (QI E post 0 0) 0 0 4 [(0, .ref a0), (1, .int a1), (2, .int x2), (3, .int x3)] [] st := by
  intro n9
  induction n9 with
  | zero => intro x2 x3 st h; exact h.elim
  | succ n9 ih =>
    intro x2 x3 st h
    unfold P_X2_weddingsOn_4 at h
    refine J_iload_n 3 dX2_weddingsOn_4 rfl rfl ?_
    refine J_aload_n 0 dX2_weddingsOn_5 rfl rfl ?_
    obtain ⟨r_1, hf, h⟩ := h
    refine J_getR fl_RX2_23 dX2_weddingsOn_6 hf ?_
    obtain ⟨hf, h⟩ := h
    refine J_getI fl_RX2_38 dX2_weddingsOn_9 hf ?_
    refine J_icmp_ge 41 dX2_weddingsOn_12 (by decide) (fun hc => ?_) (fun hc => ?_)
    · have h := h.1 hc
      refine J_iload_n 2 dX2_weddingsOn_41 rfl rfl ?_
      exact J_reti rfl dX2_weddingsOn_42 h
    · have h := h.2 hc
      refine J_aload_n 0 dX2_weddingsOn_15 rfl rfl ?_
      refine J_iload_n 3 dX2_weddingsOn_16 rfl rfl ?_
      obtain ⟨ho, h⟩ := h
      refine J_cvi (As := [_]) md_X2_isHome k_143 (rc_obj cl_2 ho) rfl rfl ⟨Nat.le_of_ble_eq_true rfl, Nat.le_of_ble_eq_true rfl⟩ ⟨Nat.le_of_ble_eq_true rfl, Nat.le_of_ble_eq_true rfl⟩ (Nat.le_of_ble_eq_true rfl) dX2_weddingsOn_17 (ct_X2_isHome  h) (fun z_2 st_3 h => ?_)
      refine J_if_eq 35 dX2_weddingsOn_20 (by decide) (fun hc => ?_) (fun hc => ?_)
      · have h := h.1 hc
        exact J_lv [0, 1, 2, 3] rfl (K_X2_weddingsOn_35   a0 a1 (fun x2 x3 st h => ih x2 x3 st h) x2 x3 st_3 h)
      · have h := h.2 hc
        refine J_aload_n 0 dX2_weddingsOn_23 rfl rfl ?_
        refine J_iload_n 3 dX2_weddingsOn_24 rfl rfl ?_
        obtain ⟨ho, h⟩ := h
        refine J_cvi (As := [_]) md_X2_weddingOf k_151 (rc_obj cl_2 ho) rfl rfl ⟨Nat.le_of_ble_eq_true rfl, Nat.le_of_ble_eq_true rfl⟩ ⟨Nat.le_of_ble_eq_true rfl, Nat.le_of_ble_eq_true rfl⟩ (Nat.le_of_ble_eq_true rfl) dX2_weddingsOn_25 (ct_X2_weddingOf  h) (fun z_4 st_5 h => ?_)
        refine J_iload_n 1 dX2_weddingsOn_28 rfl rfl ?_
        refine J_icmp_ne 35 dX2_weddingsOn_29 (by decide) (fun hc => ?_) (fun hc => ?_)
        · have h := h.1 hc
          exact J_lv [0, 1, 2, 3] rfl (K_X2_weddingsOn_35   a0 a1 (fun x2 x3 st h => ih x2 x3 st h) x2 x3 st_5 h)
        · have h := h.2 hc
          refine J_iinc 2 (x2 + 1) _ dX2_weddingsOn_32 rfl (by rfl) (by decide) rfl ?_
          exact J_lv [1, 2, 0, 3] rfl (K_X2_weddingsOn_35   a0 a1 (fun x2 x3 st h => ih x2 x3 st h) (x2 + 1) x3 st_5 h)
set_option maxRecDepth 100000 in
set_option maxHeartbeats 4000000 in
theorem ct_X2_weddingsOn {l : Launch} {E : En}  {a0 : Nat} {a1 : Int32} {st : St} {post : Int32 → St → Prop} (h : P_X2_weddingsOn  a0 a1 st post) : CtI l E (CFc E) 2 0 0 yX2_weddingsOn cX2_weddingsOn 4 (some .int) [.ref a0, .int a1] st post := by
  refine ctI_of (by decide) (Nat.le_of_ble_eq_true rfl) ?_
  show Jg l E (CFc E) (Rm 2 0 0) cX2_weddingsOn 4 RX2 (some .int) (fun _ => True) (QI E post 0 0) 0 0 0 [(0, .ref a0), (1, .int a1)] [] st
  unfold P_X2_weddingsOn at h
  refine J_iconst 0 dX2_weddingsOn_0 (by decide) ?_
  refine J_istore_n _ dX2_weddingsOn_1 rfl (by decide) rfl ?_
  refine J_iconst 0 dX2_weddingsOn_2 (by decide) ?_
  refine J_istore_n _ dX2_weddingsOn_3 rfl (by decide) rfl ?_
  obtain ⟨n8, h⟩ := h
  exact J_lv [2, 3, 1, 0] rfl (K_X2_weddingsOn_4   a0 a1  n8 0 0 st h)
/-! X2_hasWeddingBefore -/
def P_X2_hasWeddingBefore_32  (a0 : Nat) (a1 : Int32) (k2 : Int32 → St → Prop) (post : Int32 → St → Prop) (x2 : Int32) (st : St) : Prop := k2 (x2 + 1) st
def P_X2_hasWeddingBefore_2  (a0 : Nat) (a1 : Int32)  (post : Int32 → St → Prop) : Nat → Int32 → St → Prop
  | 0, _, _ => False
  | n9 + 1, x2, st => ∃ r_1, rv st a0 2 0 = some r_1 ∧ fk r_1 3 1 = some 0 ∧ (((gI st r_1 1) ≤ x2 → post 0 st) ∧ (¬ (gI st r_1 1) ≤ x2 → oC a0 2 ∧ P_X2_isHome  a0 x2 st (fun z_2 st_3 => ((z_2 = 0 → P_X2_hasWeddingBefore_32  a0 a1 (fun x2 st => P_X2_hasWeddingBefore_2  a0 a1  post n9 x2 st) post x2 st_3) ∧ (¬ z_2 = 0 → oC a0 2 ∧ P_X2_weddingOf  a0 x2 st_3 (fun z_4 st_5 => ((a1 ≤ z_4 → P_X2_hasWeddingBefore_32  a0 a1 (fun x2 st => P_X2_hasWeddingBefore_2  a0 a1  post n9 x2 st) post x2 st_5) ∧ (¬ a1 ≤ z_4 → post 1 st_5))))))))
def P_X2_hasWeddingBefore  (a0 : Nat) (a1 : Int32) (st : St) (post : Int32 → St → Prop) : Prop := ∃ n8, P_X2_hasWeddingBefore_2  a0 a1  post n8 0 st
set_option maxRecDepth 100000 in
set_option maxHeartbeats 4000000 in
theorem K_X2_hasWeddingBefore_32 {l : Launch} {E : En}   (a0 : Nat) (a1 : Int32) {k2 : Int32 → St → Prop} {post : Int32 → St → Prop}  (hk2 : ∀ (x2 : Int32) (st : St), k2 x2 st → Jg l E (CFc E) (Rm 2 0 0) cX2_hasWeddingBefore 3 RX2 (some .boolean) (fun _ => True) (QI E post 0 0) 0 0 2 [(0, .ref a0), (1, .int a1), (2, .int x2)] [] st) (x2 : Int32) (st : St) (h : P_X2_hasWeddingBefore_32  a0 a1 k2 post x2 st) : Jg l E (CFc E) (Rm 2 0 0) cX2_hasWeddingBefore 3 RX2 (some .boolean) (fun _ => True) (QI E post 0 0) 0 0 32 [(0, .ref a0), (1, .int a1), (2, .int x2)] [] st := by
  unfold P_X2_hasWeddingBefore_32 at h
  refine J_iinc 2 (x2 + 1) _ dX2_hasWeddingBefore_32 rfl (by rfl) (by decide) rfl ?_
  refine J_goto 2 dX2_hasWeddingBefore_35 (by decide) ?_
  exact J_lv [1, 2, 0] rfl (hk2 (x2 + 1) st h)
set_option maxRecDepth 100000 in
set_option maxHeartbeats 4000000 in
theorem K_X2_hasWeddingBefore_2 {l : Launch} {E : En}   (a0 : Nat) (a1 : Int32)  {post : Int32 → St → Prop}   : ∀ (n9 : Nat) (x2 : Int32) (st : St), P_X2_hasWeddingBefore_2  a0 a1  post n9 x2 st → Jg l E (CFc E) (Rm 2 0 0) cX2_hasWeddingBefore 3 RX2 (some .boolean) (fun _ => True) (QI E post 0 0) 0 0 2 [(0, .ref a0), (1, .int a1), (2, .int x2)] [] st := by
  intro n9
  induction n9 with
  | zero => intro x2 st h; exact h.elim
  | succ n9 ih =>
    intro x2 st h
    unfold P_X2_hasWeddingBefore_2 at h
    refine J_iload_n 2 dX2_hasWeddingBefore_2 rfl rfl ?_
    refine J_aload_n 0 dX2_hasWeddingBefore_3 rfl rfl ?_
    obtain ⟨r_1, hf, h⟩ := h
    refine J_getR fl_RX2_23 dX2_hasWeddingBefore_4 hf ?_
    obtain ⟨hf, h⟩ := h
    refine J_getI fl_RX2_38 dX2_hasWeddingBefore_7 hf ?_
    refine J_icmp_ge 38 dX2_hasWeddingBefore_10 (by decide) (fun hc => ?_) (fun hc => ?_)
    · have h := h.1 hc
      refine J_iconst 0 dX2_hasWeddingBefore_38 (by decide) ?_
      exact J_retz rfl (Or.inl rfl) dX2_hasWeddingBefore_39 h
    · have h := h.2 hc
      refine J_aload_n 0 dX2_hasWeddingBefore_13 rfl rfl ?_
      refine J_iload_n 2 dX2_hasWeddingBefore_14 rfl rfl ?_
      obtain ⟨ho, h⟩ := h
      refine J_cvi (As := [_]) md_X2_isHome k_143 (rc_obj cl_2 ho) rfl rfl ⟨Nat.le_of_ble_eq_true rfl, Nat.le_of_ble_eq_true rfl⟩ ⟨Nat.le_of_ble_eq_true rfl, Nat.le_of_ble_eq_true rfl⟩ (Nat.le_of_ble_eq_true rfl) dX2_hasWeddingBefore_15 (ct_X2_isHome  h) (fun z_2 st_3 h => ?_)
      refine J_if_eq 32 dX2_hasWeddingBefore_18 (by decide) (fun hc => ?_) (fun hc => ?_)
      · have h := h.1 hc
        exact J_lv [0, 1, 2] rfl (K_X2_hasWeddingBefore_32   a0 a1 (fun x2 st h => ih x2 st h) x2 st_3 h)
      · have h := h.2 hc
        refine J_aload_n 0 dX2_hasWeddingBefore_21 rfl rfl ?_
        refine J_iload_n 2 dX2_hasWeddingBefore_22 rfl rfl ?_
        obtain ⟨ho, h⟩ := h
        refine J_cvi (As := [_]) md_X2_weddingOf k_151 (rc_obj cl_2 ho) rfl rfl ⟨Nat.le_of_ble_eq_true rfl, Nat.le_of_ble_eq_true rfl⟩ ⟨Nat.le_of_ble_eq_true rfl, Nat.le_of_ble_eq_true rfl⟩ (Nat.le_of_ble_eq_true rfl) dX2_hasWeddingBefore_23 (ct_X2_weddingOf  h) (fun z_4 st_5 h => ?_)
        refine J_iload_n 1 dX2_hasWeddingBefore_26 rfl rfl ?_
        refine J_icmp_ge 32 dX2_hasWeddingBefore_27 (by decide) (fun hc => ?_) (fun hc => ?_)
        · have h := h.1 hc
          exact J_lv [0, 1, 2] rfl (K_X2_hasWeddingBefore_32   a0 a1 (fun x2 st h => ih x2 st h) x2 st_5 h)
        · have h := h.2 hc
          refine J_iconst 1 dX2_hasWeddingBefore_30 (by decide) ?_
          exact J_retz rfl (Or.inr rfl) dX2_hasWeddingBefore_31 h
set_option maxRecDepth 100000 in
set_option maxHeartbeats 4000000 in
theorem ct_X2_hasWeddingBefore {l : Launch} {E : En}  {a0 : Nat} {a1 : Int32} {st : St} {post : Int32 → St → Prop} (h : P_X2_hasWeddingBefore  a0 a1 st post) : CtI l E (CFc E) 2 0 0 yX2_hasWeddingBefore cX2_hasWeddingBefore 3 (some .boolean) [.ref a0, .int a1] st post := by
  refine ctI_of (by decide) (Nat.le_of_ble_eq_true rfl) ?_
  show Jg l E (CFc E) (Rm 2 0 0) cX2_hasWeddingBefore 3 RX2 (some .boolean) (fun _ => True) (QI E post 0 0) 0 0 0 [(0, .ref a0), (1, .int a1)] [] st
  unfold P_X2_hasWeddingBefore at h
  refine J_iconst 0 dX2_hasWeddingBefore_0 (by decide) ?_
  refine J_istore_n _ dX2_hasWeddingBefore_1 rfl (by decide) rfl ?_
  obtain ⟨n8, h⟩ := h
  exact J_lv [1, 2, 0] rfl (K_X2_hasWeddingBefore_2   a0 a1  n8 0 st h)
/-! X2_kept -/
def P_X2_kept  (a0 : Int32) (a1 : Int32) (st : St) (post : Int32 → St → Prop) : Prop := post (if (0 : Int32) < (if (a1 : Int32) < a0 then a1 else a0) then (if (a1 : Int32) < a0 then a1 else a0) else 0) st
set_option maxRecDepth 100000 in
set_option maxHeartbeats 4000000 in
theorem ct_X2_kept {l : Launch} {E : En}  {a0 : Int32} {a1 : Int32} {st : St} {post : Int32 → St → Prop} (h : P_X2_kept  a0 a1 st post) : CtI l E (CFc E) 2 0 0 yX2_kept cX2_kept 2 (some .int) [.int a0, .int a1] st post := by
  refine ctI_of (by decide) (Nat.le_of_ble_eq_true rfl) ?_
  show Jg l E (CFc E) (Rm 2 0 0) cX2_kept 2 RX2 (some .int) (fun _ => True) (QI E post 0 0) 0 0 0 [(0, .int a0), (1, .int a1)] [] st
  unfold P_X2_kept at h
  refine J_iconst 0 dX2_kept_0 (by decide) ?_
  refine J_iload_n 0 dX2_kept_1 rfl rfl ?_
  refine J_iload_n 1 dX2_kept_2 rfl rfl ?_
  refine J_mmin k_161 k_162 k_158 k_163 ⟨Nat.le_of_ble_eq_true rfl, Nat.le_of_ble_eq_true rfl, Nat.le_of_ble_eq_true rfl, Nat.le_of_ble_eq_true rfl⟩ dX2_kept_3 ?_
  refine J_mmax k_156 k_157 k_158 k_159 ⟨Nat.le_of_ble_eq_true rfl, Nat.le_of_ble_eq_true rfl, Nat.le_of_ble_eq_true rfl, Nat.le_of_ble_eq_true rfl⟩ dX2_kept_6 ?_
  exact J_reti rfl dX2_kept_9 h
/-! X5_clear -/
def P_X5_clear  (a0 : Nat) (st : St) (post : St → Prop) : Prop := fk a0 5 0 = some 0 ∧ fk a0 5 2 = some 0 ∧ post (sI (sI st a0 0 0) a0 2 0)
set_option maxRecDepth 100000 in
set_option maxHeartbeats 4000000 in
theorem ct_X5_clear {l : Launch} {E : En}  {a0 : Nat} {st : St} {post : St → Prop} (h : P_X5_clear  a0 st post) : CtV l E (CFc E) 1 0 0 yX5_clear cX5_clear 1 none [.ref a0] st post := by
  refine ctV_of (by decide) (Nat.le_of_ble_eq_true rfl) ?_
  show Jg l E (CFc E) (Rm 1 0 0) cX5_clear 1 RX5 none (fun _ => True) (QV E post 0 0) 0 0 0 [(0, .ref a0)] [] st
  unfold P_X5_clear at h
  refine J_aload_n 0 dX5_clear_0 rfl rfl ?_
  refine J_iconst 0 dX5_clear_1 (by decide) ?_
  obtain ⟨hf, h⟩ := h
  refine J_putZ fp_RX5_18 dX5_clear_2 rfl (Or.inl rfl) hf ?_
  refine J_aload_n 0 dX5_clear_5 rfl rfl ?_
  refine J_iconst 0 dX5_clear_6 (by decide) ?_
  obtain ⟨hf, h⟩ := h
  refine J_putI fp_RX5_22 dX5_clear_7 rfl hf ?_
  exact J_retv rfl dX5_clear_10 h
/-! X5_add -/
def P_X5_add_32  (a0 : Nat) (a1 : Int32)  (post : St → Prop)  (st : St) : Prop := post st
def P_X5_add  (a0 : Nat) (a1 : Int32) (st : St) (post : St → Prop) : Prop := fk a0 5 2 = some 0 ∧ ∃ r_1, rv st a0 5 1 = some r_1 ∧ 0 < al 0 r_1 ∧ (((Int32.ofNat (al 0 r_1)) ≤ (gI st a0 2) → P_X5_add_32  a0 a1  post st) ∧ (¬ (Int32.ofNat (al 0 r_1)) ≤ (gI st a0 2) → ∃ r_2, rv st a0 5 1 = some r_2 ∧ fk a0 5 2 = some 0 ∧ vp_in (gI st a0 2) (al 0 r_2) ∧ fk a0 5 2 = some 0 ∧ fk a0 5 2 = some 0 ∧ P_X5_add_32  a0 a1  post (sI (sA st r_2 (gI st a0 2 : Int32).toNatClampNeg a1) a0 2 ((gI (sA st r_2 (gI st a0 2 : Int32).toNatClampNeg a1) a0 2) + 1))))
set_option maxRecDepth 100000 in
set_option maxHeartbeats 4000000 in
theorem K_X5_add_32 {l : Launch} {E : En}   (a0 : Nat) (a1 : Int32)  {post : St → Prop}    (st : St) (h : P_X5_add_32  a0 a1  post  st) : Jg l E (CFc E) (Rm 1 0 0) cX5_add 2 RX5 none (fun _ => True) (QV E post 0 0) 0 0 32 [(0, .ref a0), (1, .int a1)] [] st := by
  unfold P_X5_add_32 at h
  exact J_retv rfl dX5_add_32 h
set_option maxRecDepth 100000 in
set_option maxHeartbeats 4000000 in
theorem ct_X5_add {l : Launch} {E : En}  {a0 : Nat} {a1 : Int32} {st : St} {post : St → Prop} (h : P_X5_add  a0 a1 st post) : CtV l E (CFc E) 1 0 0 yX5_add cX5_add 2 none [.ref a0, .int a1] st post := by
  refine ctV_of (by decide) (Nat.le_of_ble_eq_true rfl) ?_
  show Jg l E (CFc E) (Rm 1 0 0) cX5_add 2 RX5 none (fun _ => True) (QV E post 0 0) 0 0 0 [(0, .ref a0), (1, .int a1)] [] st
  unfold P_X5_add at h
  refine J_aload_n 0 dX5_add_0 rfl rfl ?_
  obtain ⟨hf, h⟩ := h
  refine J_getI fl_RX5_22 dX5_add_1 hf ?_
  refine J_aload_n 0 dX5_add_4 rfl rfl ?_
  obtain ⟨r_1, hf, h⟩ := h
  refine J_getR fl_RX5_9 dX5_add_5 hf ?_
  obtain ⟨hf, h⟩ := h
  refine J_alenI dX5_add_8 hf ?_
  refine J_icmp_ge 32 dX5_add_9 (by decide) (fun hc => ?_) (fun hc => ?_)
  · have h := h.1 hc
    exact J_lv [0, 1] rfl (K_X5_add_32   a0 a1  st h)
  · have h := h.2 hc
    refine J_aload_n 0 dX5_add_12 rfl rfl ?_
    obtain ⟨r_2, hf, h⟩ := h
    refine J_getR fl_RX5_9 dX5_add_13 hf ?_
    refine J_aload_n 0 dX5_add_16 rfl rfl ?_
    obtain ⟨hf, h⟩ := h
    refine J_getI fl_RX5_22 dX5_add_17 hf ?_
    refine J_iload_n 1 dX5_add_20 rfl rfl ?_
    obtain ⟨hi, h⟩ := h
    refine J_iast dX5_add_21 hi ?_
    refine J_aload_n 0 dX5_add_22 rfl rfl ?_
    refine J_dup dX5_add_23 rfl ?_
    obtain ⟨hf, h⟩ := h
    refine J_getI fl_RX5_22 dX5_add_24 hf ?_
    refine J_iconst 1 dX5_add_27 (by decide) ?_
    refine J_iadd dX5_add_28 ?_
    obtain ⟨hf, h⟩ := h
    refine J_putI fp_RX5_22 dX5_add_29 rfl hf ?_
    exact J_lv [0, 1] rfl (K_X5_add_32   a0 a1  (sI (sA st r_2 (gI st a0 2 : Int32).toNatClampNeg a1) a0 2 ((gI (sA st r_2 (gI st a0 2 : Int32).toNatClampNeg a1) a0 2) + 1)) h)
/-! X5_joined -/
def P_X5_joined_121  (a0 : Int32) (a1 : Int32) (a2 : Int32)  (post : Int32 → St → Prop) (s0 : Int32) (st : St) : Prop := post s0 st
def P_X5_joined_97  (a0 : Int32) (a1 : Int32) (a2 : Int32)  (post : Int32 → St → Prop) (s0 : Int32) (st : St) : Prop := post s0 st
def P_X5_joined_86  (a0 : Int32) (a1 : Int32) (a2 : Int32)  (post : Int32 → St → Prop) (s0 : Int32) (st : St) : Prop := post s0 st
def P_X5_joined_75  (a0 : Int32) (a1 : Int32) (a2 : Int32)  (post : Int32 → St → Prop) (s0 : Int32) (st : St) : Prop := post s0 st
def P_X5_joined_74  (a0 : Int32) (a1 : Int32) (a2 : Int32)  (post : Int32 → St → Prop)  (st : St) : Prop := P_X5_joined_75  a0 a1 a2  post 0 st
def P_X5_joined_61  (a0 : Int32) (a1 : Int32) (a2 : Int32)  (post : Int32 → St → Prop) (s0 : Int32) (st : St) : Prop := post s0 st
def P_X5_joined_56  (a0 : Int32) (a1 : Int32) (a2 : Int32)  (post : Int32 → St → Prop)  (st : St) : Prop := P_X5_joined_61  a0 a1 a2  post 1 st
def P_X5_joined  (a0 : Int32) (a1 : Int32) (a2 : Int32) (st : St) (post : Int32 → St → Prop) : Prop := ((((a0 : Int32).toInt < -16 ∨ -9 < (a0 : Int32).toInt) → ((¬ a2 = 0 → (¬ a2 = 0) ∧ P_X5_joined_121  a0 a1 a2  post (a1 / a2) st) ∧ (a2 = 0 → P_X5_joined_121  a0 a1 a2  post 0 st))) ∧ ((a0 : Int32).toInt = -16 → post (a1 * a2) st) ∧ ((a0 : Int32).toInt = -15 → post (a1 - a2) st) ∧ ((a0 : Int32).toInt = -14 → post (a1 + a2) st) ∧ ((a0 : Int32).toInt = -13 → ((¬ a1 = a2 → P_X5_joined_97  a0 a1 a2  post 0 st) ∧ (a1 = a2 → P_X5_joined_97  a0 a1 a2  post 1 st))) ∧ ((a0 : Int32).toInt = -12 → ((a2 ≤ a1 → P_X5_joined_86  a0 a1 a2  post 0 st) ∧ (¬ a2 ≤ a1 → P_X5_joined_86  a0 a1 a2  post 1 st))) ∧ ((a0 : Int32).toInt = -11 → ((¬ a2 = 0 → (¬ a2 = 0) ∧ P_X5_joined_121  a0 a1 a2  post (a1 / a2) st) ∧ (a2 = 0 → P_X5_joined_121  a0 a1 a2  post 0 st))) ∧ ((a0 : Int32).toInt = -10 → ((a1 = 0 → P_X5_joined_74  a0 a1 a2  post st) ∧ (¬ a1 = 0 → ((a2 = 0 → P_X5_joined_74  a0 a1 a2  post st) ∧ (¬ a2 = 0 → P_X5_joined_75  a0 a1 a2  post 1 st))))) ∧ ((a0 : Int32).toInt = -9 → ((¬ a1 = 0 → P_X5_joined_56  a0 a1 a2  post st) ∧ (a1 = 0 → ((a2 = 0 → P_X5_joined_61  a0 a1 a2  post 0 st) ∧ (¬ a2 = 0 → P_X5_joined_56  a0 a1 a2  post st))))) ∧ True)
set_option maxRecDepth 100000 in
set_option maxHeartbeats 4000000 in
theorem K_X5_joined_121 {l : Launch} {E : En}   (a0 : Int32) (a1 : Int32) (a2 : Int32)  {post : Int32 → St → Prop}   (s0 : Int32) (st : St) (h : P_X5_joined_121  a0 a1 a2  post s0 st) : Jg l E (CFc E) (Rm 1 0 0) cX5_joined 3 RX5 (some .int) (fun _ => True) (QI E post 0 0) 0 0 121 [(0, .int a0), (1, .int a1), (2, .int a2)] [.int s0] st := by
  unfold P_X5_joined_121 at h
  exact J_reti rfl dX5_joined_121 h
set_option maxRecDepth 100000 in
set_option maxHeartbeats 4000000 in
theorem K_X5_joined_97 {l : Launch} {E : En}   (a0 : Int32) (a1 : Int32) (a2 : Int32)  {post : Int32 → St → Prop}   (s0 : Int32) (st : St) (h : P_X5_joined_97  a0 a1 a2  post s0 st) : Jg l E (CFc E) (Rm 1 0 0) cX5_joined 3 RX5 (some .int) (fun _ => True) (QI E post 0 0) 0 0 97 [(0, .int a0), (1, .int a1), (2, .int a2)] [.int s0] st := by
  unfold P_X5_joined_97 at h
  exact J_reti rfl dX5_joined_97 h
set_option maxRecDepth 100000 in
set_option maxHeartbeats 4000000 in
theorem K_X5_joined_86 {l : Launch} {E : En}   (a0 : Int32) (a1 : Int32) (a2 : Int32)  {post : Int32 → St → Prop}   (s0 : Int32) (st : St) (h : P_X5_joined_86  a0 a1 a2  post s0 st) : Jg l E (CFc E) (Rm 1 0 0) cX5_joined 3 RX5 (some .int) (fun _ => True) (QI E post 0 0) 0 0 86 [(0, .int a0), (1, .int a1), (2, .int a2)] [.int s0] st := by
  unfold P_X5_joined_86 at h
  exact J_reti rfl dX5_joined_86 h
set_option maxRecDepth 100000 in
set_option maxHeartbeats 4000000 in
theorem K_X5_joined_75 {l : Launch} {E : En}   (a0 : Int32) (a1 : Int32) (a2 : Int32)  {post : Int32 → St → Prop}   (s0 : Int32) (st : St) (h : P_X5_joined_75  a0 a1 a2  post s0 st) : Jg l E (CFc E) (Rm 1 0 0) cX5_joined 3 RX5 (some .int) (fun _ => True) (QI E post 0 0) 0 0 75 [(0, .int a0), (1, .int a1), (2, .int a2)] [.int s0] st := by
  unfold P_X5_joined_75 at h
  exact J_reti rfl dX5_joined_75 h
set_option maxRecDepth 100000 in
set_option maxHeartbeats 4000000 in
theorem K_X5_joined_74 {l : Launch} {E : En}   (a0 : Int32) (a1 : Int32) (a2 : Int32)  {post : Int32 → St → Prop}    (st : St) (h : P_X5_joined_74  a0 a1 a2  post  st) : Jg l E (CFc E) (Rm 1 0 0) cX5_joined 3 RX5 (some .int) (fun _ => True) (QI E post 0 0) 0 0 74 [(0, .int a0), (1, .int a1), (2, .int a2)] [] st := by
  unfold P_X5_joined_74 at h
  refine J_iconst 0 dX5_joined_74 (by decide) ?_
  exact J_lv [0, 1, 2] rfl (K_X5_joined_75   a0 a1 a2  0 st h)
set_option maxRecDepth 100000 in
set_option maxHeartbeats 4000000 in
theorem K_X5_joined_61 {l : Launch} {E : En}   (a0 : Int32) (a1 : Int32) (a2 : Int32)  {post : Int32 → St → Prop}   (s0 : Int32) (st : St) (h : P_X5_joined_61  a0 a1 a2  post s0 st) : Jg l E (CFc E) (Rm 1 0 0) cX5_joined 3 RX5 (some .int) (fun _ => True) (QI E post 0 0) 0 0 61 [(0, .int a0), (1, .int a1), (2, .int a2)] [.int s0] st := by
  unfold P_X5_joined_61 at h
  exact J_reti rfl dX5_joined_61 h
set_option maxRecDepth 100000 in
set_option maxHeartbeats 4000000 in
theorem K_X5_joined_56 {l : Launch} {E : En}   (a0 : Int32) (a1 : Int32) (a2 : Int32)  {post : Int32 → St → Prop}    (st : St) (h : P_X5_joined_56  a0 a1 a2  post  st) : Jg l E (CFc E) (Rm 1 0 0) cX5_joined 3 RX5 (some .int) (fun _ => True) (QI E post 0 0) 0 0 56 [(0, .int a0), (1, .int a1), (2, .int a2)] [] st := by
  unfold P_X5_joined_56 at h
  refine J_iconst 1 dX5_joined_56 (by decide) ?_
  refine J_goto 61 dX5_joined_57 (by decide) ?_
  exact J_lv [0, 1, 2] rfl (K_X5_joined_61   a0 a1 a2  1 st h)
set_option maxRecDepth 100000 in
set_option maxHeartbeats 4000000 in
theorem ct_X5_joined {l : Launch} {E : En}  {a0 : Int32} {a1 : Int32} {a2 : Int32} {st : St} {post : Int32 → St → Prop} (h : P_X5_joined  a0 a1 a2 st post) : CtI l E (CFc E) 1 0 0 yX5_joined cX5_joined 3 (some .int) [.int a0, .int a1, .int a2] st post := by
  refine ctI_of (by decide) (Nat.le_of_ble_eq_true rfl) ?_
  show Jg l E (CFc E) (Rm 1 0 0) cX5_joined 3 RX5 (some .int) (fun _ => True) (QI E post 0 0) 0 0 0 [(0, .int a0), (1, .int a1), (2, .int a2)] [] st
  unfold P_X5_joined at h
  refine J_iload_n 0 dX5_joined_0 rfl rfl ?_
  rcases (show (a0 : Int32).toInt < -16 ∨ (a0 : Int32).toInt = -16 ∨ (a0 : Int32).toInt = -15 ∨ (a0 : Int32).toInt = -14 ∨ (a0 : Int32).toInt = -13 ∨ (a0 : Int32).toInt = -12 ∨ (a0 : Int32).toInt = -11 ∨ (a0 : Int32).toInt = -10 ∨ (a0 : Int32).toInt = -9 ∨ -9 < (a0 : Int32).toInt by omega) with hc | hc | hc | hc | hc | hc | hc | hc | hc | hc
  · have h := h.1 (Or.inl hc)
    refine J_tsOut 110 dX5_joined_1 (Or.inl hc) (by decide) ?_
    refine J_iload_n 2 dX5_joined_110 rfl rfl ?_
    refine J_if_ne 118 dX5_joined_111 (by decide) (fun hc => ?_) (fun hc => ?_)
    · have h := h.1 hc
      refine J_iload_n 1 dX5_joined_118 rfl rfl ?_
      refine J_iload_n 2 dX5_joined_119 rfl rfl ?_
      obtain ⟨hz, h⟩ := h
      refine J_idiv dX5_joined_120 hz ?_
      exact J_lv [0, 1, 2] rfl (K_X5_joined_121   a0 a1 a2  (a1 / a2) st h)
    · have h := h.2 hc
      refine J_iconst 0 dX5_joined_114 (by decide) ?_
      refine J_goto 121 dX5_joined_115 (by decide) ?_
      exact J_lv [0, 1, 2] rfl (K_X5_joined_121   a0 a1 a2  0 st h)
  · have h := h.2.1 hc
    refine J_tsIn 106 (-16) dX5_joined_1 hc (by decide) (by decide) rfl (by decide) ?_
    refine J_iload_n 1 dX5_joined_106 rfl rfl ?_
    refine J_iload_n 2 dX5_joined_107 rfl rfl ?_
    refine J_imul dX5_joined_108 ?_
    exact J_reti rfl dX5_joined_109 h
  · have h := h.2.2.1 hc
    refine J_tsIn 102 (-15) dX5_joined_1 hc (by decide) (by decide) rfl (by decide) ?_
    refine J_iload_n 1 dX5_joined_102 rfl rfl ?_
    refine J_iload_n 2 dX5_joined_103 rfl rfl ?_
    refine J_isub dX5_joined_104 ?_
    exact J_reti rfl dX5_joined_105 h
  · have h := h.2.2.2.1 hc
    refine J_tsIn 98 (-14) dX5_joined_1 hc (by decide) (by decide) rfl (by decide) ?_
    refine J_iload_n 1 dX5_joined_98 rfl rfl ?_
    refine J_iload_n 2 dX5_joined_99 rfl rfl ?_
    refine J_iadd dX5_joined_100 ?_
    exact J_reti rfl dX5_joined_101 h
  · have h := h.2.2.2.2.1 hc
    refine J_tsIn 87 (-13) dX5_joined_1 hc (by decide) (by decide) rfl (by decide) ?_
    refine J_iload_n 1 dX5_joined_87 rfl rfl ?_
    refine J_iload_n 2 dX5_joined_88 rfl rfl ?_
    refine J_icmp_ne 96 dX5_joined_89 (by decide) (fun hc => ?_) (fun hc => ?_)
    · have h := h.1 hc
      refine J_iconst 0 dX5_joined_96 (by decide) ?_
      exact J_lv [0, 1, 2] rfl (K_X5_joined_97   a0 a1 a2  0 st h)
    · have h := h.2 hc
      refine J_iconst 1 dX5_joined_92 (by decide) ?_
      refine J_goto 97 dX5_joined_93 (by decide) ?_
      exact J_lv [0, 1, 2] rfl (K_X5_joined_97   a0 a1 a2  1 st h)
  · have h := h.2.2.2.2.2.1 hc
    refine J_tsIn 76 (-12) dX5_joined_1 hc (by decide) (by decide) rfl (by decide) ?_
    refine J_iload_n 1 dX5_joined_76 rfl rfl ?_
    refine J_iload_n 2 dX5_joined_77 rfl rfl ?_
    refine J_icmp_ge 85 dX5_joined_78 (by decide) (fun hc => ?_) (fun hc => ?_)
    · have h := h.1 hc
      refine J_iconst 0 dX5_joined_85 (by decide) ?_
      exact J_lv [0, 1, 2] rfl (K_X5_joined_86   a0 a1 a2  0 st h)
    · have h := h.2 hc
      refine J_iconst 1 dX5_joined_81 (by decide) ?_
      refine J_goto 86 dX5_joined_82 (by decide) ?_
      exact J_lv [0, 1, 2] rfl (K_X5_joined_86   a0 a1 a2  1 st h)
  · have h := h.2.2.2.2.2.2.1 hc
    refine J_tsIn 110 (-11) dX5_joined_1 hc (by decide) (by decide) rfl (by decide) ?_
    refine J_iload_n 2 dX5_joined_110 rfl rfl ?_
    refine J_if_ne 118 dX5_joined_111 (by decide) (fun hc => ?_) (fun hc => ?_)
    · have h := h.1 hc
      refine J_iload_n 1 dX5_joined_118 rfl rfl ?_
      refine J_iload_n 2 dX5_joined_119 rfl rfl ?_
      obtain ⟨hz, h⟩ := h
      refine J_idiv dX5_joined_120 hz ?_
      exact J_lv [0, 1, 2] rfl (K_X5_joined_121   a0 a1 a2  (a1 / a2) st h)
    · have h := h.2 hc
      refine J_iconst 0 dX5_joined_114 (by decide) ?_
      refine J_goto 121 dX5_joined_115 (by decide) ?_
      exact J_lv [0, 1, 2] rfl (K_X5_joined_121   a0 a1 a2  0 st h)
  · have h := h.2.2.2.2.2.2.2.1 hc
    refine J_tsIn 62 (-10) dX5_joined_1 hc (by decide) (by decide) rfl (by decide) ?_
    refine J_iload_n 1 dX5_joined_62 rfl rfl ?_
    refine J_if_eq 74 dX5_joined_63 (by decide) (fun hc => ?_) (fun hc => ?_)
    · have h := h.1 hc
      exact J_lv [0, 1, 2] rfl (K_X5_joined_74   a0 a1 a2  st h)
    · have h := h.2 hc
      refine J_iload_n 2 dX5_joined_66 rfl rfl ?_
      refine J_if_eq 74 dX5_joined_67 (by decide) (fun hc => ?_) (fun hc => ?_)
      · have h := h.1 hc
        exact J_lv [0, 1, 2] rfl (K_X5_joined_74   a0 a1 a2  st h)
      · have h := h.2 hc
        refine J_iconst 1 dX5_joined_70 (by decide) ?_
        refine J_goto 75 dX5_joined_71 (by decide) ?_
        exact J_lv [0, 1, 2] rfl (K_X5_joined_75   a0 a1 a2  1 st h)
  · have h := h.2.2.2.2.2.2.2.2.1 hc
    refine J_tsIn 48 (-9) dX5_joined_1 hc (by decide) (by decide) rfl (by decide) ?_
    refine J_iload_n 1 dX5_joined_48 rfl rfl ?_
    refine J_if_ne 56 dX5_joined_49 (by decide) (fun hc => ?_) (fun hc => ?_)
    · have h := h.1 hc
      exact J_lv [0, 1, 2] rfl (K_X5_joined_56   a0 a1 a2  st h)
    · have h := h.2 hc
      refine J_iload_n 2 dX5_joined_52 rfl rfl ?_
      refine J_if_eq 60 dX5_joined_53 (by decide) (fun hc => ?_) (fun hc => ?_)
      · have h := h.1 hc
        refine J_iconst 0 dX5_joined_60 (by decide) ?_
        exact J_lv [0, 1, 2] rfl (K_X5_joined_61   a0 a1 a2  0 st h)
      · have h := h.2 hc
        exact J_lv [0, 1, 2] rfl (K_X5_joined_56   a0 a1 a2  st h)
  · have h := h.1 (Or.inr hc)
    refine J_tsOut 110 dX5_joined_1 (Or.inr hc) (by decide) ?_
    refine J_iload_n 2 dX5_joined_110 rfl rfl ?_
    refine J_if_ne 118 dX5_joined_111 (by decide) (fun hc => ?_) (fun hc => ?_)
    · have h := h.1 hc
      refine J_iload_n 1 dX5_joined_118 rfl rfl ?_
      refine J_iload_n 2 dX5_joined_119 rfl rfl ?_
      obtain ⟨hz, h⟩ := h
      refine J_idiv dX5_joined_120 hz ?_
      exact J_lv [0, 1, 2] rfl (K_X5_joined_121   a0 a1 a2  (a1 / a2) st h)
    · have h := h.2 hc
      refine J_iconst 0 dX5_joined_114 (by decide) ?_
      refine J_goto 121 dX5_joined_115 (by decide) ?_
      exact J_lv [0, 1, 2] rfl (K_X5_joined_121   a0 a1 a2  0 st h)
/-! J6_bitCount_0f7a4 -/
def P_J6_bitCount_0f7a4  (a0 : Int32) (st : St) (post : Int32 → St → Prop) : Prop := post ((((((((a0 - ((((a0 : Int32).toUInt32 >>> ((1 : Int32).toUInt32 &&& Int32.toUInt32 31)).toInt32) &&& 1431655765)) &&& 858993459) + ((((a0 - ((((a0 : Int32).toUInt32 >>> ((1 : Int32).toUInt32 &&& Int32.toUInt32 31)).toInt32) &&& 1431655765) : Int32).toUInt32 >>> ((2 : Int32).toUInt32 &&& Int32.toUInt32 31)).toInt32) &&& 858993459)) + (((((a0 - ((((a0 : Int32).toUInt32 >>> ((1 : Int32).toUInt32 &&& Int32.toUInt32 31)).toInt32) &&& 1431655765)) &&& 858993459) + ((((a0 - ((((a0 : Int32).toUInt32 >>> ((1 : Int32).toUInt32 &&& Int32.toUInt32 31)).toInt32) &&& 1431655765) : Int32).toUInt32 >>> ((2 : Int32).toUInt32 &&& Int32.toUInt32 31)).toInt32) &&& 858993459) : Int32).toUInt32 >>> ((4 : Int32).toUInt32 &&& Int32.toUInt32 31)).toInt32)) &&& 252645135) + (((((((a0 - ((((a0 : Int32).toUInt32 >>> ((1 : Int32).toUInt32 &&& Int32.toUInt32 31)).toInt32) &&& 1431655765)) &&& 858993459) + ((((a0 - ((((a0 : Int32).toUInt32 >>> ((1 : Int32).toUInt32 &&& Int32.toUInt32 31)).toInt32) &&& 1431655765) : Int32).toUInt32 >>> ((2 : Int32).toUInt32 &&& Int32.toUInt32 31)).toInt32) &&& 858993459)) + (((((a0 - ((((a0 : Int32).toUInt32 >>> ((1 : Int32).toUInt32 &&& Int32.toUInt32 31)).toInt32) &&& 1431655765)) &&& 858993459) + ((((a0 - ((((a0 : Int32).toUInt32 >>> ((1 : Int32).toUInt32 &&& Int32.toUInt32 31)).toInt32) &&& 1431655765) : Int32).toUInt32 >>> ((2 : Int32).toUInt32 &&& Int32.toUInt32 31)).toInt32) &&& 858993459) : Int32).toUInt32 >>> ((4 : Int32).toUInt32 &&& Int32.toUInt32 31)).toInt32)) &&& 252645135 : Int32).toUInt32 >>> ((8 : Int32).toUInt32 &&& Int32.toUInt32 31)).toInt32)) + ((((((((a0 - ((((a0 : Int32).toUInt32 >>> ((1 : Int32).toUInt32 &&& Int32.toUInt32 31)).toInt32) &&& 1431655765)) &&& 858993459) + ((((a0 - ((((a0 : Int32).toUInt32 >>> ((1 : Int32).toUInt32 &&& Int32.toUInt32 31)).toInt32) &&& 1431655765) : Int32).toUInt32 >>> ((2 : Int32).toUInt32 &&& Int32.toUInt32 31)).toInt32) &&& 858993459)) + (((((a0 - ((((a0 : Int32).toUInt32 >>> ((1 : Int32).toUInt32 &&& Int32.toUInt32 31)).toInt32) &&& 1431655765)) &&& 858993459) + ((((a0 - ((((a0 : Int32).toUInt32 >>> ((1 : Int32).toUInt32 &&& Int32.toUInt32 31)).toInt32) &&& 1431655765) : Int32).toUInt32 >>> ((2 : Int32).toUInt32 &&& Int32.toUInt32 31)).toInt32) &&& 858993459) : Int32).toUInt32 >>> ((4 : Int32).toUInt32 &&& Int32.toUInt32 31)).toInt32)) &&& 252645135) + (((((((a0 - ((((a0 : Int32).toUInt32 >>> ((1 : Int32).toUInt32 &&& Int32.toUInt32 31)).toInt32) &&& 1431655765)) &&& 858993459) + ((((a0 - ((((a0 : Int32).toUInt32 >>> ((1 : Int32).toUInt32 &&& Int32.toUInt32 31)).toInt32) &&& 1431655765) : Int32).toUInt32 >>> ((2 : Int32).toUInt32 &&& Int32.toUInt32 31)).toInt32) &&& 858993459)) + (((((a0 - ((((a0 : Int32).toUInt32 >>> ((1 : Int32).toUInt32 &&& Int32.toUInt32 31)).toInt32) &&& 1431655765)) &&& 858993459) + ((((a0 - ((((a0 : Int32).toUInt32 >>> ((1 : Int32).toUInt32 &&& Int32.toUInt32 31)).toInt32) &&& 1431655765) : Int32).toUInt32 >>> ((2 : Int32).toUInt32 &&& Int32.toUInt32 31)).toInt32) &&& 858993459) : Int32).toUInt32 >>> ((4 : Int32).toUInt32 &&& Int32.toUInt32 31)).toInt32)) &&& 252645135 : Int32).toUInt32 >>> ((8 : Int32).toUInt32 &&& Int32.toUInt32 31)).toInt32) : Int32).toUInt32 >>> ((16 : Int32).toUInt32 &&& Int32.toUInt32 31)).toInt32)) &&& 63) st
set_option maxRecDepth 100000 in
set_option maxHeartbeats 4000000 in
theorem ct_J6_bitCount_0f7a4 {l : Launch} {E : En}  {a0 : Int32} {st : St} {post : Int32 → St → Prop} (h : P_J6_bitCount_0f7a4  a0 st post) : CtI l E (CFc E) 1 0 0 yJ6_bitCount_0f7a4 cJ6_bitCount_0f7a4 1 (some .int) [.int a0] st post := by
  refine ctI_of (by decide) (Nat.le_of_ble_eq_true rfl) ?_
  show Jg l E (CFc E) (Rm 1 0 0) cJ6_bitCount_0f7a4 1 RJ6 (some .int) (fun _ => True) (QI E post 0 0) 0 0 0 [(0, .int a0)] [] st
  unfold P_J6_bitCount_0f7a4 at h
  refine J_iload_n 0 dJ6_bitCount_0f7a4_0 rfl rfl ?_
  refine J_iload_n 0 dJ6_bitCount_0f7a4_1 rfl rfl ?_
  refine J_iconst 1 dJ6_bitCount_0f7a4_2 (by decide) ?_
  refine J_iushr dJ6_bitCount_0f7a4_3 ?_
  refine J_ldcw k_132 dJ6_bitCount_0f7a4_4 ?_
  refine J_iand dJ6_bitCount_0f7a4_7 ?_
  refine J_isub dJ6_bitCount_0f7a4_8 ?_
  refine J_istore_n _ dJ6_bitCount_0f7a4_9 rfl (by decide) rfl ?_
  refine J_iload_n 0 dJ6_bitCount_0f7a4_10 rfl rfl ?_
  refine J_ldcw k_133 dJ6_bitCount_0f7a4_11 ?_
  refine J_iand dJ6_bitCount_0f7a4_14 ?_
  refine J_iload_n 0 dJ6_bitCount_0f7a4_15 rfl rfl ?_
  refine J_iconst 2 dJ6_bitCount_0f7a4_16 (by decide) ?_
  refine J_iushr dJ6_bitCount_0f7a4_17 ?_
  refine J_ldcw k_133 dJ6_bitCount_0f7a4_18 ?_
  refine J_iand dJ6_bitCount_0f7a4_21 ?_
  refine J_iadd dJ6_bitCount_0f7a4_22 ?_
  refine J_istore_n _ dJ6_bitCount_0f7a4_23 rfl (by decide) rfl ?_
  refine J_iload_n 0 dJ6_bitCount_0f7a4_24 rfl rfl ?_
  refine J_iload_n 0 dJ6_bitCount_0f7a4_25 rfl rfl ?_
  refine J_iconst 4 dJ6_bitCount_0f7a4_26 (by decide) ?_
  refine J_iushr dJ6_bitCount_0f7a4_27 ?_
  refine J_iadd dJ6_bitCount_0f7a4_28 ?_
  refine J_ldcw k_134 dJ6_bitCount_0f7a4_29 ?_
  refine J_iand dJ6_bitCount_0f7a4_32 ?_
  refine J_istore_n _ dJ6_bitCount_0f7a4_33 rfl (by decide) rfl ?_
  refine J_iload_n 0 dJ6_bitCount_0f7a4_34 rfl rfl ?_
  refine J_iload_n 0 dJ6_bitCount_0f7a4_35 rfl rfl ?_
  refine J_bipush 8 dJ6_bitCount_0f7a4_36 (by decide) ?_
  refine J_iushr dJ6_bitCount_0f7a4_38 ?_
  refine J_iadd dJ6_bitCount_0f7a4_39 ?_
  refine J_istore_n _ dJ6_bitCount_0f7a4_40 rfl (by decide) rfl ?_
  refine J_iload_n 0 dJ6_bitCount_0f7a4_41 rfl rfl ?_
  refine J_iload_n 0 dJ6_bitCount_0f7a4_42 rfl rfl ?_
  refine J_bipush 16 dJ6_bitCount_0f7a4_43 (by decide) ?_
  refine J_iushr dJ6_bitCount_0f7a4_45 ?_
  refine J_iadd dJ6_bitCount_0f7a4_46 ?_
  refine J_istore_n _ dJ6_bitCount_0f7a4_47 rfl (by decide) rfl ?_
  refine J_iload_n 0 dJ6_bitCount_0f7a4_48 rfl rfl ?_
  refine J_bipush 63 dJ6_bitCount_0f7a4_49 (by decide) ?_
  refine J_iand dJ6_bitCount_0f7a4_51 ?_
  exact J_reti rfl dJ6_bitCount_0f7a4_52 h
/-! J0_coder_7d493 -/
def P_J0_coder_7d493_14  (a0 : Nat)  (post : Int32 → St → Prop) (s0 : Int32) (st : St) : Prop := narrow .byte (.int s0) = .int s0 ∧ post s0 st
def P_J0_coder_7d493  (a0 : Nat) (st : St) (post : Int32 → St → Prop) : Prop := (((1 : Int32) = 0 → P_J0_coder_7d493_14  a0  post 1 st) ∧ (¬ (1 : Int32) = 0 → kOk a0 ∧ P_J0_coder_7d493_14  a0  post 0 st))
set_option maxRecDepth 100000 in
set_option maxHeartbeats 4000000 in
theorem K_J0_coder_7d493_14 {l : Launch} {E : En}   (a0 : Nat)  {post : Int32 → St → Prop}   (s0 : Int32) (st : St) (h : P_J0_coder_7d493_14  a0  post s0 st) : Jg l E (CFc E) (Rm 1 0 0) cJ0_coder_7d493 1 RJ0 (some .byte) (fun _ => True) (QI E post 0 0) 0 0 14 [(0, .ref a0)] [.int s0] st := by
  unfold P_J0_coder_7d493_14 at h
  exact J_retn rfl h.1 dJ0_coder_7d493_14 h.2
set_option maxRecDepth 100000 in
set_option maxHeartbeats 4000000 in
theorem ct_J0_coder_7d493 {l : Launch} {E : En}  {a0 : Nat} {st : St} {post : Int32 → St → Prop} (h : P_J0_coder_7d493  a0 st post) : CtI l E (CFc E) 1 0 0 yJ0_coder_7d493 cJ0_coder_7d493 1 (some .byte) [.ref a0] st post := by
  refine ctI_of (by decide) (Nat.le_of_ble_eq_true rfl) ?_
  show Jg l E (CFc E) (Rm 1 0 0) cJ0_coder_7d493 1 RJ0 (some .byte) (fun _ => True) (QI E post 0 0) 0 0 0 [(0, .ref a0)] [] st
  unfold P_J0_coder_7d493 at h
  refine J_gsC k_246 dJ0_coder_7d493_0 ?_
  refine J_if_eq 13 dJ0_coder_7d493_3 (by decide) (fun hc => ?_) (fun hc => ?_)
  · have h := h.1 hc
    refine J_iconst 1 dJ0_coder_7d493_13 (by decide) ?_
    exact J_lv [0] rfl (K_J0_coder_7d493_14   a0  1 st h)
  · have h := h.2 hc
    refine J_aload_n 0 dJ0_coder_7d493_6 rfl rfl ?_
    obtain ⟨hf, h⟩ := h
    refine J_kC k_247 dJ0_coder_7d493_7 hf ?_
    refine J_goto 14 dJ0_coder_7d493_10 (by decide) ?_
    exact J_lv [0] rfl (K_J0_coder_7d493_14   a0  0 st h)
/-! J0_isLatin1_aae02 -/
def P_J0_isLatin1_aae02_18  (a0 : Nat)  (post : Int32 → St → Prop) (s0 : Int32) (st : St) : Prop := (s0 = 0 ∨ s0 = 1) ∧ post s0 st
def P_J0_isLatin1_aae02_17  (a0 : Nat)  (post : Int32 → St → Prop)  (st : St) : Prop := P_J0_isLatin1_aae02_18  a0  post 0 st
def P_J0_isLatin1_aae02  (a0 : Nat) (st : St) (post : Int32 → St → Prop) : Prop := (((1 : Int32) = 0 → P_J0_isLatin1_aae02_17  a0  post st) ∧ (¬ (1 : Int32) = 0 → kOk a0 ∧ ((¬ (0 : Int32) = (0 : Int32) → P_J0_isLatin1_aae02_17  a0  post st) ∧ ((0 : Int32) = (0 : Int32) → P_J0_isLatin1_aae02_18  a0  post 1 st))))
set_option maxRecDepth 100000 in
set_option maxHeartbeats 4000000 in
theorem K_J0_isLatin1_aae02_18 {l : Launch} {E : En}   (a0 : Nat)  {post : Int32 → St → Prop}   (s0 : Int32) (st : St) (h : P_J0_isLatin1_aae02_18  a0  post s0 st) : Jg l E (CFc E) (Rm 1 0 0) cJ0_isLatin1_aae02 1 RJ0 (some .boolean) (fun _ => True) (QI E post 0 0) 0 0 18 [(0, .ref a0)] [.int s0] st := by
  unfold P_J0_isLatin1_aae02_18 at h
  exact J_retz rfl h.1 dJ0_isLatin1_aae02_18 h.2
set_option maxRecDepth 100000 in
set_option maxHeartbeats 4000000 in
theorem K_J0_isLatin1_aae02_17 {l : Launch} {E : En}   (a0 : Nat)  {post : Int32 → St → Prop}    (st : St) (h : P_J0_isLatin1_aae02_17  a0  post  st) : Jg l E (CFc E) (Rm 1 0 0) cJ0_isLatin1_aae02 1 RJ0 (some .boolean) (fun _ => True) (QI E post 0 0) 0 0 17 [(0, .ref a0)] [] st := by
  unfold P_J0_isLatin1_aae02_17 at h
  refine J_iconst 0 dJ0_isLatin1_aae02_17 (by decide) ?_
  exact J_lv [0] rfl (K_J0_isLatin1_aae02_18   a0  0 st h)
set_option maxRecDepth 100000 in
set_option maxHeartbeats 4000000 in
theorem ct_J0_isLatin1_aae02 {l : Launch} {E : En}  {a0 : Nat} {st : St} {post : Int32 → St → Prop} (h : P_J0_isLatin1_aae02  a0 st post) : CtI l E (CFc E) 1 0 0 yJ0_isLatin1_aae02 cJ0_isLatin1_aae02 1 (some .boolean) [.ref a0] st post := by
  refine ctI_of (by decide) (Nat.le_of_ble_eq_true rfl) ?_
  show Jg l E (CFc E) (Rm 1 0 0) cJ0_isLatin1_aae02 1 RJ0 (some .boolean) (fun _ => True) (QI E post 0 0) 0 0 0 [(0, .ref a0)] [] st
  unfold P_J0_isLatin1_aae02 at h
  refine J_gsC k_246 dJ0_isLatin1_aae02_0 ?_
  refine J_if_eq 17 dJ0_isLatin1_aae02_3 (by decide) (fun hc => ?_) (fun hc => ?_)
  · have h := h.1 hc
    exact J_lv [0] rfl (K_J0_isLatin1_aae02_17   a0  st h)
  · have h := h.2 hc
    refine J_aload_n 0 dJ0_isLatin1_aae02_6 rfl rfl ?_
    obtain ⟨hf, h⟩ := h
    refine J_kC k_247 dJ0_isLatin1_aae02_7 hf ?_
    refine J_if_ne 17 dJ0_isLatin1_aae02_10 (by decide) (fun hc => ?_) (fun hc => ?_)
    · have h := h.1 hc
      exact J_lv [0] rfl (K_J0_isLatin1_aae02_17   a0  st h)
    · have h := h.2 hc
      refine J_iconst 1 dJ0_isLatin1_aae02_13 (by decide) ?_
      refine J_goto 18 dJ0_isLatin1_aae02_14 (by decide) ?_
      exact J_lv [0] rfl (K_J0_isLatin1_aae02_18   a0  1 st h)
/-! J3_checkIndex_8e157 -/
def P_J3_checkIndex_8e157_9  (a0 : Int32) (a1 : Int32) (a2 : Option Nat)  (post : Int32 → St → Prop)  (st : St) : Prop := False
def P_J3_checkIndex_8e157  (a0 : Int32) (a1 : Int32) (a2 : Option Nat) (st : St) (post : Int32 → St → Prop) : Prop := ((a0 < 0 → P_J3_checkIndex_8e157_9  a0 a1 a2  post st) ∧ (¬ a0 < 0 → ((a0 < a1 → post a0 st) ∧ (¬ a0 < a1 → P_J3_checkIndex_8e157_9  a0 a1 a2  post st))))
set_option maxRecDepth 100000 in
set_option maxHeartbeats 4000000 in
theorem K_J3_checkIndex_8e157_9 {l : Launch} {E : En}   (a0 : Int32) (a1 : Int32) (a2 : Option Nat)  {post : Int32 → St → Prop}    (st : St) (h : P_J3_checkIndex_8e157_9  a0 a1 a2  post  st) : Jg l E (CFc E) (Rm 1 0 0) cJ3_checkIndex_8e157 3 RJ3 (some .int) (fun _ => True) (QI E post 0 0) 0 0 9 [(0, .int a0), (1, .int a1), (2, va_rf a2)] [] st := by
  unfold P_J3_checkIndex_8e157_9 at h
  refine J_aload_nQ 2 dJ3_checkIndex_8e157_9 rfl rfl ?_
  refine J_iload_n 0 dJ3_checkIndex_8e157_10 rfl rfl ?_
  refine J_iload_n 1 dJ3_checkIndex_8e157_11 rfl rfl ?_
  exact h.elim
set_option maxRecDepth 100000 in
set_option maxHeartbeats 4000000 in
theorem ct_J3_checkIndex_8e157 {l : Launch} {E : En}  {a0 : Int32} {a1 : Int32} {a2 : Option Nat} {st : St} {post : Int32 → St → Prop} (h : P_J3_checkIndex_8e157  a0 a1 a2 st post) : CtI l E (CFc E) 1 0 0 yJ3_checkIndex_8e157 cJ3_checkIndex_8e157 3 (some .int) [.int a0, .int a1, va_rf a2] st post := by
  refine ctI_of (by decide) (by cases a2 <;> exact Nat.le_of_ble_eq_true rfl) ?_
  show Jg l E (CFc E) (Rm 1 0 0) cJ3_checkIndex_8e157 3 RJ3 (some .int) (fun _ => True) (QI E post 0 0) 0 0 0 [(0, .int a0), (1, .int a1), (2, va_rf a2)] [] st
  unfold P_J3_checkIndex_8e157 at h
  refine J_iload_n 0 dJ3_checkIndex_8e157_0 rfl rfl ?_
  refine J_if_lt 9 dJ3_checkIndex_8e157_1 (by decide) (fun hc => ?_) (fun hc => ?_)
  · have h := h.1 hc
    exact J_lv [0, 1, 2] rfl (K_J3_checkIndex_8e157_9   a0 a1 a2  st h)
  · have h := h.2 hc
    refine J_iload_n 0 dJ3_checkIndex_8e157_4 rfl rfl ?_
    refine J_iload_n 1 dJ3_checkIndex_8e157_5 rfl rfl ?_
    refine J_icmp_lt 16 dJ3_checkIndex_8e157_6 (by decide) (fun hc => ?_) (fun hc => ?_)
    · have h := h.1 hc
      refine J_iload_n 0 dJ3_checkIndex_8e157_16 rfl rfl ?_
      exact J_reti rfl dJ3_checkIndex_8e157_17 h
    · have h := h.2 hc
      exact J_lv [0, 1, 2] rfl (K_J3_checkIndex_8e157_9   a0 a1 a2  st h)
/-! J1_indexOfChar_4cfef -/
def P_J1_indexOfChar_4cfef_7  (a0 : Nat) (a1 : Int32) (a2 : Int32) (a3 : Int32)  (post : Int32 → St → Prop) : Nat → Int32 → Int32 → St → Prop
  | 0, _, _, _ => False
  | n9 + 1, x4, x5, st => ((a3 ≤ x5 → post (-1) st) ∧ (¬ a3 ≤ x5 → vOk a0 ∧ vp_in x5 (kl a0) ∧ ((¬ (kb a0 (x5 : Int32).toNatClampNeg) = x4 → P_J1_indexOfChar_4cfef_7  a0 a1 a2 a3  post n9 x4 (x5 + 1) st) ∧ ((kb a0 (x5 : Int32).toNatClampNeg) = x4 → post x5 st))))
def P_J1_indexOfChar_4cfef  (a0 : Nat) (a1 : Int32) (a2 : Int32) (a3 : Int32) (st : St) (post : Int32 → St → Prop) : Prop := ∃ n8, P_J1_indexOfChar_4cfef_7  a0 a1 a2 a3  post n8 ((a1 : Int32).toInt8.toInt32) a2 st
set_option maxRecDepth 100000 in
set_option maxHeartbeats 4000000 in
theorem K_J1_indexOfChar_4cfef_7 {l : Launch} {E : En}   (a0 : Nat) (a1 : Int32) (a2 : Int32) (a3 : Int32)  {post : Int32 → St → Prop}   : ∀ (n9 : Nat) (x4 : Int32) (x5 : Int32) (st : St), P_J1_indexOfChar_4cfef_7  a0 a1 a2 a3  post n9 x4 x5 st → Jg l E (CFc E) (Rm 1 0 0) cJ1_indexOfChar_4cfef 6 RJ1 (some .int) (fun _ => True) (QI E post 0 0) 0 0 7 [(0, .ref a0), (1, .int a1), (2, .int a2), (3, .int a3), (4, .int x4), (5, .int x5)] [] st := by
  intro n9
  induction n9 with
  | zero => intro x4 x5 st h; exact h.elim
  | succ n9 ih =>
    intro x4 x5 st h
    unfold P_J1_indexOfChar_4cfef_7 at h
    refine J_iload 5 dJ1_indexOfChar_4cfef_7 rfl ?_
    refine J_iload_n 3 dJ1_indexOfChar_4cfef_9 rfl rfl ?_
    refine J_icmp_ge 31 dJ1_indexOfChar_4cfef_10 (by decide) (fun hc => ?_) (fun hc => ?_)
    · have h := h.1 hc
      refine J_iconst (-1) dJ1_indexOfChar_4cfef_31 (by decide) ?_
      exact J_reti rfl dJ1_indexOfChar_4cfef_32 h
    · have h := h.2 hc
      refine J_aload_n 0 dJ1_indexOfChar_4cfef_13 rfl rfl ?_
      refine J_iload 5 dJ1_indexOfChar_4cfef_14 rfl ?_
      obtain ⟨hf, hi, h⟩ := h
      refine J_kB dJ1_indexOfChar_4cfef_16 hf hi ?_
      refine J_iload 4 dJ1_indexOfChar_4cfef_17 rfl ?_
      refine J_icmp_ne 25 dJ1_indexOfChar_4cfef_19 (by decide) (fun hc => ?_) (fun hc => ?_)
      · have h := h.1 hc
        refine J_iinc 5 (x5 + 1) _ dJ1_indexOfChar_4cfef_25 rfl (by rfl) (by decide) rfl ?_
        refine J_goto 7 dJ1_indexOfChar_4cfef_28 (by decide) ?_
        exact J_lv [1, 2, 3, 4, 5, 0] rfl (ih x4 (x5 + 1) st h)
      · have h := h.2 hc
        refine J_iload 5 dJ1_indexOfChar_4cfef_22 rfl ?_
        exact J_reti rfl dJ1_indexOfChar_4cfef_24 h
set_option maxRecDepth 100000 in
set_option maxHeartbeats 4000000 in
theorem ct_J1_indexOfChar_4cfef {l : Launch} {E : En}  {a0 : Nat} {a1 : Int32} {a2 : Int32} {a3 : Int32} {st : St} {post : Int32 → St → Prop} (h : P_J1_indexOfChar_4cfef  a0 a1 a2 a3 st post) : CtI l E (CFc E) 1 0 0 yJ1_indexOfChar_4cfef cJ1_indexOfChar_4cfef 6 (some .int) [.ref a0, .int a1, .int a2, .int a3] st post := by
  refine ctI_of (by decide) (Nat.le_of_ble_eq_true rfl) ?_
  show Jg l E (CFc E) (Rm 1 0 0) cJ1_indexOfChar_4cfef 6 RJ1 (some .int) (fun _ => True) (QI E post 0 0) 0 0 0 [(0, .ref a0), (1, .int a1), (2, .int a2), (3, .int a3)] [] st
  unfold P_J1_indexOfChar_4cfef at h
  refine J_iload_n 1 dJ1_indexOfChar_4cfef_0 rfl rfl ?_
  refine J_i2b dJ1_indexOfChar_4cfef_1 ?_
  refine J_istore _ dJ1_indexOfChar_4cfef_2 (by decide) rfl ?_
  refine J_iload_n 3 dJ1_indexOfChar_4cfef_4 rfl rfl ?_
  refine J_istore _ dJ1_indexOfChar_4cfef_5 (by decide) rfl ?_
  obtain ⟨n8, h⟩ := h
  exact J_lv [2, 3, 4, 5, 1, 0] rfl (K_J1_indexOfChar_4cfef_7   a0 a1 a2 a3  n8 ((a1 : Int32).toInt8.toInt32) a2 st h)
/-! J1_canEncode_9a6ad -/
def P_J1_canEncode_9a6ad_16  (a0 : Int32)  (post : Int32 → St → Prop) (s0 : Int32) (st : St) : Prop := (s0 = 0 ∨ s0 = 1) ∧ post s0 st
def P_J1_canEncode_9a6ad_15  (a0 : Int32)  (post : Int32 → St → Prop)  (st : St) : Prop := P_J1_canEncode_9a6ad_16  a0  post 0 st
def P_J1_canEncode_9a6ad  (a0 : Int32) (st : St) (post : Int32 → St → Prop) : Prop := ((a0 < 0 → P_J1_canEncode_9a6ad_15  a0  post st) ∧ (¬ a0 < 0 → ((255 < a0 → P_J1_canEncode_9a6ad_15  a0  post st) ∧ (¬ 255 < a0 → P_J1_canEncode_9a6ad_16  a0  post 1 st))))
set_option maxRecDepth 100000 in
set_option maxHeartbeats 4000000 in
theorem K_J1_canEncode_9a6ad_16 {l : Launch} {E : En}   (a0 : Int32)  {post : Int32 → St → Prop}   (s0 : Int32) (st : St) (h : P_J1_canEncode_9a6ad_16  a0  post s0 st) : Jg l E (CFc E) (Rm 1 0 0) cJ1_canEncode_9a6ad 1 RJ1 (some .boolean) (fun _ => True) (QI E post 0 0) 0 0 16 [(0, .int a0)] [.int s0] st := by
  unfold P_J1_canEncode_9a6ad_16 at h
  exact J_retz rfl h.1 dJ1_canEncode_9a6ad_16 h.2
set_option maxRecDepth 100000 in
set_option maxHeartbeats 4000000 in
theorem K_J1_canEncode_9a6ad_15 {l : Launch} {E : En}   (a0 : Int32)  {post : Int32 → St → Prop}    (st : St) (h : P_J1_canEncode_9a6ad_15  a0  post  st) : Jg l E (CFc E) (Rm 1 0 0) cJ1_canEncode_9a6ad 1 RJ1 (some .boolean) (fun _ => True) (QI E post 0 0) 0 0 15 [(0, .int a0)] [] st := by
  unfold P_J1_canEncode_9a6ad_15 at h
  refine J_iconst 0 dJ1_canEncode_9a6ad_15 (by decide) ?_
  exact J_lv [0] rfl (K_J1_canEncode_9a6ad_16   a0  0 st h)
set_option maxRecDepth 100000 in
set_option maxHeartbeats 4000000 in
theorem ct_J1_canEncode_9a6ad {l : Launch} {E : En}  {a0 : Int32} {st : St} {post : Int32 → St → Prop} (h : P_J1_canEncode_9a6ad  a0 st post) : CtI l E (CFc E) 1 0 0 yJ1_canEncode_9a6ad cJ1_canEncode_9a6ad 1 (some .boolean) [.int a0] st post := by
  refine ctI_of (by decide) (Nat.le_of_ble_eq_true rfl) ?_
  show Jg l E (CFc E) (Rm 1 0 0) cJ1_canEncode_9a6ad 1 RJ1 (some .boolean) (fun _ => True) (QI E post 0 0) 0 0 0 [(0, .int a0)] [] st
  unfold P_J1_canEncode_9a6ad at h
  refine J_iload_n 0 dJ1_canEncode_9a6ad_0 rfl rfl ?_
  refine J_if_lt 15 dJ1_canEncode_9a6ad_1 (by decide) (fun hc => ?_) (fun hc => ?_)
  · have h := h.1 hc
    exact J_lv [0] rfl (K_J1_canEncode_9a6ad_15   a0  st h)
  · have h := h.2 hc
    refine J_iload_n 0 dJ1_canEncode_9a6ad_4 rfl rfl ?_
    refine J_sipush 255 dJ1_canEncode_9a6ad_5 (by decide) ?_
    refine J_icmp_gt 15 dJ1_canEncode_9a6ad_8 (by decide) (fun hc => ?_) (fun hc => ?_)
    · have h := h.1 hc
      exact J_lv [0] rfl (K_J1_canEncode_9a6ad_15   a0  st h)
    · have h := h.2 hc
      refine J_iconst 1 dJ1_canEncode_9a6ad_11 (by decide) ?_
      refine J_goto 16 dJ1_canEncode_9a6ad_12 (by decide) ?_
      exact J_lv [0] rfl (K_J1_canEncode_9a6ad_16   a0  1 st h)
/-! X0_push -/
def P_X0_push_32  (a0 : Nat) (a1 : Nat)  (post : St → Prop)  (st : St) : Prop := ∃ r_1, rv st a0 0 0 = some r_1 ∧ fk a0 0 2 = some 0 ∧ oC a0 0 ∧ P_X0_startOf  a0 (gI st a0 2) st (fun z_2 st_3 => (¬ (0 : Int32) < 0) ∧ (¬ (z_2 : Int32) < 0) ∧ (¬ (110 : Int32) < 0) ∧ 0 < al 0 a1 ∧ 0 < al 0 r_1 ∧ (0 : Int32).toNatClampNeg + (110 : Int32).toNatClampNeg ≤ al 0 a1 ∧ (z_2 : Int32).toNatClampNeg + (110 : Int32).toNatClampNeg ≤ al 0 r_1 ∧ fk a0 0 2 = some 0 ∧ fk a0 0 2 = some 0 ∧ post (sI (sF st_3 r_1 (va_cpy (gA st_3 a1) (gA st_3 r_1) (0 : Int32).toNatClampNeg (z_2 : Int32).toNatClampNeg (110 : Int32).toNatClampNeg)) a0 2 ((gI (sF st_3 r_1 (va_cpy (gA st_3 a1) (gA st_3 r_1) (0 : Int32).toNatClampNeg (z_2 : Int32).toNatClampNeg (110 : Int32).toNatClampNeg)) a0 2) + 1)))
def P_X0_push  (a0 : Nat) (a1 : Nat) (st : St) (post : St → Prop) : Prop := fk a0 0 2 = some 0 ∧ ((¬ (gI st a0 2) = 40 → P_X0_push_32  a0 a1  post st) ∧ ((gI st a0 2) = 40 → fk a0 0 1 = some 0 ∧ fk a0 0 1 = some 0 ∧ fk a0 0 2 = some 0 ∧ fk a0 0 2 = some 0 ∧ P_X0_push_32  a0 a1  post (sI (sI st a0 1 (((gI st a0 1) + 1) - ((gI st a0 1) + 1) / 40 * 40)) a0 2 ((gI (sI st a0 1 (((gI st a0 1) + 1) - ((gI st a0 1) + 1) / 40 * 40)) a0 2) - 1))))
set_option maxRecDepth 100000 in
set_option maxHeartbeats 4000000 in
theorem K_X0_push_32 {l : Launch} {E : En}   (a0 : Nat) (a1 : Nat)  {post : St → Prop}    (st : St) (h : P_X0_push_32  a0 a1  post  st) : Jg l E (CFc E) (Rm 2 0 0) cX0_push 2 RX0 none (fun _ => True) (QV E post 0 0) 0 0 32 [(0, .ref a0), (1, .ref a1)] [] st := by
  unfold P_X0_push_32 at h
  refine J_aload_n 1 dX0_push_32 rfl rfl ?_
  refine J_iconst 0 dX0_push_33 (by decide) ?_
  refine J_aload_n 0 dX0_push_34 rfl rfl ?_
  obtain ⟨r_1, hf, h⟩ := h
  refine J_getR fl_RX0_11 dX0_push_35 hf ?_
  refine J_aload_n 0 dX0_push_38 rfl rfl ?_
  refine J_aload_n 0 dX0_push_39 rfl rfl ?_
  obtain ⟨hf, h⟩ := h
  refine J_getI fl_RX0_21 dX0_push_40 hf ?_
  obtain ⟨ho, h⟩ := h
  refine J_cvi (As := [_]) md_X0_startOf k_15 (rc_obj cl_0 ho) rfl rfl ⟨Nat.le_of_ble_eq_true rfl, Nat.le_of_ble_eq_true rfl⟩ ⟨Nat.le_of_ble_eq_true rfl, Nat.le_of_ble_eq_true rfl⟩ (Nat.le_of_ble_eq_true rfl) dX0_push_43 (ct_X0_startOf  h) (fun z_2 st_3 h => ?_)
  refine J_bipush 110 dX0_push_46 (by decide) ?_
  obtain ⟨h1, h2, h3, h4, h5, h6, h7, h⟩ := h
  refine J_copy k_11 k_12 k_13 k_14 ⟨Nat.le_of_ble_eq_true rfl, Nat.le_of_ble_eq_true rfl⟩ dX0_push_48 h1 h2 h3 h4 h5 h6 h7 ?_
  refine J_aload_n 0 dX0_push_51 rfl rfl ?_
  refine J_dup dX0_push_52 rfl ?_
  obtain ⟨hf, h⟩ := h
  refine J_getI fl_RX0_21 dX0_push_53 hf ?_
  refine J_iconst 1 dX0_push_56 (by decide) ?_
  refine J_iadd dX0_push_57 ?_
  obtain ⟨hf, h⟩ := h
  refine J_putI fp_RX0_21 dX0_push_58 rfl hf ?_
  exact J_retv rfl dX0_push_61 h
set_option maxRecDepth 100000 in
set_option maxHeartbeats 4000000 in
theorem ct_X0_push {l : Launch} {E : En}  {a0 : Nat} {a1 : Nat} {st : St} {post : St → Prop} (h : P_X0_push  a0 a1 st post) : CtV l E (CFc E) 2 0 0 yX0_push cX0_push 2 none [.ref a0, .ref a1] st post := by
  refine ctV_of (by decide) (Nat.le_of_ble_eq_true rfl) ?_
  show Jg l E (CFc E) (Rm 2 0 0) cX0_push 2 RX0 none (fun _ => True) (QV E post 0 0) 0 0 0 [(0, .ref a0), (1, .ref a1)] [] st
  unfold P_X0_push at h
  refine J_aload_n 0 dX0_push_0 rfl rfl ?_
  obtain ⟨hf, h⟩ := h
  refine J_getI fl_RX0_21 dX0_push_1 hf ?_
  refine J_bipush 40 dX0_push_4 (by decide) ?_
  refine J_icmp_ne 32 dX0_push_6 (by decide) (fun hc => ?_) (fun hc => ?_)
  · have h := h.1 hc
    exact J_lv [0, 1] rfl (K_X0_push_32   a0 a1  st h)
  · have h := h.2 hc
    refine J_aload_n 0 dX0_push_9 rfl rfl ?_
    refine J_aload_n 0 dX0_push_10 rfl rfl ?_
    obtain ⟨hf, h⟩ := h
    refine J_getI fl_RX0_17 dX0_push_11 hf ?_
    refine J_iconst 1 dX0_push_14 (by decide) ?_
    refine J_iadd dX0_push_15 ?_
    refine J_bipush 40 dX0_push_16 (by decide) ?_
    refine J_irem dX0_push_18 (by decide) ?_
    obtain ⟨hf, h⟩ := h
    refine J_putI fp_RX0_17 dX0_push_19 rfl hf ?_
    refine J_aload_n 0 dX0_push_22 rfl rfl ?_
    refine J_dup dX0_push_23 rfl ?_
    obtain ⟨hf, h⟩ := h
    refine J_getI fl_RX0_21 dX0_push_24 hf ?_
    refine J_iconst 1 dX0_push_27 (by decide) ?_
    refine J_isub dX0_push_28 ?_
    obtain ⟨hf, h⟩ := h
    refine J_putI fp_RX0_21 dX0_push_29 rfl hf ?_
    exact J_lv [0, 1] rfl (K_X0_push_32   a0 a1  (sI (sI st a0 1 (((gI st a0 1) + 1) - ((gI st a0 1) + 1) / 40 * 40)) a0 2 ((gI (sI st a0 1 (((gI st a0 1) + 1) - ((gI st a0 1) + 1) / 40 * 40)) a0 2) - 1)) h)
/-! X0_pop -/
def P_X0_pop_36  (a0 : Nat) (a1 : Nat)  (post : St → Prop)  (st : St) : Prop := post st
def P_X0_pop  (a0 : Nat) (a1 : Nat) (st : St) (post : St → Prop) : Prop := fk a0 0 2 = some 0 ∧ (((gI st a0 2) ≤ 0 → P_X0_pop_36  a0 a1  post st) ∧ (¬ (gI st a0 2) ≤ 0 → fk a0 0 2 = some 0 ∧ fk a0 0 2 = some 0 ∧ ∃ r_1, rv (sI st a0 2 ((gI st a0 2) - 1)) a0 0 0 = some r_1 ∧ fk a0 0 2 = some 0 ∧ oC a0 0 ∧ P_X0_startOf  a0 (gI (sI st a0 2 ((gI st a0 2) - 1)) a0 2) (sI st a0 2 ((gI st a0 2) - 1)) (fun z_2 st_3 => (¬ (z_2 : Int32) < 0) ∧ (¬ (0 : Int32) < 0) ∧ (¬ (110 : Int32) < 0) ∧ 0 < al 0 r_1 ∧ 0 < al 0 a1 ∧ (z_2 : Int32).toNatClampNeg + (110 : Int32).toNatClampNeg ≤ al 0 r_1 ∧ (0 : Int32).toNatClampNeg + (110 : Int32).toNatClampNeg ≤ al 0 a1 ∧ P_X0_pop_36  a0 a1  post (sF st_3 a1 (va_cpy (gA st_3 r_1) (gA st_3 a1) (z_2 : Int32).toNatClampNeg (0 : Int32).toNatClampNeg (110 : Int32).toNatClampNeg)))))
set_option maxRecDepth 100000 in
set_option maxHeartbeats 4000000 in
theorem K_X0_pop_36 {l : Launch} {E : En}   (a0 : Nat) (a1 : Nat)  {post : St → Prop}    (st : St) (h : P_X0_pop_36  a0 a1  post  st) : Jg l E (CFc E) (Rm 2 0 0) cX0_pop 2 RX0 none (fun _ => True) (QV E post 0 0) 0 0 36 [(0, .ref a0), (1, .ref a1)] [] st := by
  unfold P_X0_pop_36 at h
  exact J_retv rfl dX0_pop_36 h
set_option maxRecDepth 100000 in
set_option maxHeartbeats 4000000 in
theorem ct_X0_pop {l : Launch} {E : En}  {a0 : Nat} {a1 : Nat} {st : St} {post : St → Prop} (h : P_X0_pop  a0 a1 st post) : CtV l E (CFc E) 2 0 0 yX0_pop cX0_pop 2 none [.ref a0, .ref a1] st post := by
  refine ctV_of (by decide) (Nat.le_of_ble_eq_true rfl) ?_
  show Jg l E (CFc E) (Rm 2 0 0) cX0_pop 2 RX0 none (fun _ => True) (QV E post 0 0) 0 0 0 [(0, .ref a0), (1, .ref a1)] [] st
  unfold P_X0_pop at h
  refine J_aload_n 0 dX0_pop_0 rfl rfl ?_
  obtain ⟨hf, h⟩ := h
  refine J_getI fl_RX0_21 dX0_pop_1 hf ?_
  refine J_if_le 36 dX0_pop_4 (by decide) (fun hc => ?_) (fun hc => ?_)
  · have h := h.1 hc
    exact J_lv [0, 1] rfl (K_X0_pop_36   a0 a1  st h)
  · have h := h.2 hc
    refine J_aload_n 0 dX0_pop_7 rfl rfl ?_
    refine J_dup dX0_pop_8 rfl ?_
    obtain ⟨hf, h⟩ := h
    refine J_getI fl_RX0_21 dX0_pop_9 hf ?_
    refine J_iconst 1 dX0_pop_12 (by decide) ?_
    refine J_isub dX0_pop_13 ?_
    obtain ⟨hf, h⟩ := h
    refine J_putI fp_RX0_21 dX0_pop_14 rfl hf ?_
    refine J_aload_n 0 dX0_pop_17 rfl rfl ?_
    obtain ⟨r_1, hf, h⟩ := h
    refine J_getR fl_RX0_11 dX0_pop_18 hf ?_
    refine J_aload_n 0 dX0_pop_21 rfl rfl ?_
    refine J_aload_n 0 dX0_pop_22 rfl rfl ?_
    obtain ⟨hf, h⟩ := h
    refine J_getI fl_RX0_21 dX0_pop_23 hf ?_
    obtain ⟨ho, h⟩ := h
    refine J_cvi (As := [_]) md_X0_startOf k_15 (rc_obj cl_0 ho) rfl rfl ⟨Nat.le_of_ble_eq_true rfl, Nat.le_of_ble_eq_true rfl⟩ ⟨Nat.le_of_ble_eq_true rfl, Nat.le_of_ble_eq_true rfl⟩ (Nat.le_of_ble_eq_true rfl) dX0_pop_26 (ct_X0_startOf  h) (fun z_2 st_3 h => ?_)
    refine J_aload_n 1 dX0_pop_29 rfl rfl ?_
    refine J_iconst 0 dX0_pop_30 (by decide) ?_
    refine J_bipush 110 dX0_pop_31 (by decide) ?_
    obtain ⟨h1, h2, h3, h4, h5, h6, h7, h⟩ := h
    refine J_copy k_11 k_12 k_13 k_14 ⟨Nat.le_of_ble_eq_true rfl, Nat.le_of_ble_eq_true rfl⟩ dX0_pop_33 h1 h2 h3 h4 h5 h6 h7 ?_
    exact J_lv [0, 1] rfl (K_X0_pop_36   a0 a1  (sF st_3 a1 (va_cpy (gA st_3 r_1) (gA st_3 a1) (z_2 : Int32).toNatClampNeg (0 : Int32).toNatClampNeg (110 : Int32).toNatClampNeg)) h)
/-! X2_tieCount -/
def P_X2_tieCount_4  (a0 : Nat)  (post : Int32 → St → Prop) : Nat → Int32 → Int32 → St → Prop
  | 0, _, _, _ => False
  | n9 + 1, x1, x2, st => ∃ r_1, rv st a0 2 0 = some r_1 ∧ fk r_1 3 0 = some 0 ∧ (((gI st r_1 0) ≤ x2 → post x1 st) ∧ (¬ (gI st r_1 0) ≤ x2 → oC a0 2 ∧ P_X2_bridesTiedTo  a0 x2 st (fun z_2 st_3 => P_J6_bitCount_0f7a4  z_2 st_3 (fun z_4 st_5 => P_X2_tieCount_4  a0  post n9 (x1 + z_4) (x2 + 1) st_5))))
def P_X2_tieCount  (a0 : Nat) (st : St) (post : Int32 → St → Prop) : Prop := ∃ n8, P_X2_tieCount_4  a0  post n8 0 0 st
set_option maxRecDepth 100000 in
set_option maxHeartbeats 4000000 in
theorem K_X2_tieCount_4 {l : Launch} {E : En}   (a0 : Nat)  {post : Int32 → St → Prop}   : ∀ (n9 : Nat) (x1 : Int32) (x2 : Int32) (st : St), P_X2_tieCount_4  a0  post n9 x1 x2 st → Jg l E (CFc E) (Rm 3 0 0) cX2_tieCount 3 RX2 (some .int) (fun _ => True) (QI E post 0 0) 0 0 4 [(0, .ref a0), (1, .int x1), (2, .int x2)] [] st := by
  intro n9
  induction n9 with
  | zero => intro x1 x2 st h; exact h.elim
  | succ n9 ih =>
    intro x1 x2 st h
    unfold P_X2_tieCount_4 at h
    refine J_iload_n 2 dX2_tieCount_4 rfl rfl ?_
    refine J_aload_n 0 dX2_tieCount_5 rfl rfl ?_
    obtain ⟨r_1, hf, h⟩ := h
    refine J_getR fl_RX2_23 dX2_tieCount_6 hf ?_
    obtain ⟨hf, h⟩ := h
    refine J_getI fl_RX2_46 dX2_tieCount_9 hf ?_
    refine J_icmp_ge 32 dX2_tieCount_12 (by decide) (fun hc => ?_) (fun hc => ?_)
    · have h := h.1 hc
      refine J_iload_n 1 dX2_tieCount_32 rfl rfl ?_
      exact J_reti rfl dX2_tieCount_33 h
    · have h := h.2 hc
      refine J_iload_n 1 dX2_tieCount_15 rfl rfl ?_
      refine J_aload_n 0 dX2_tieCount_16 rfl rfl ?_
      refine J_iload_n 2 dX2_tieCount_17 rfl rfl ?_
      obtain ⟨ho, h⟩ := h
      refine J_cvi (As := [_]) md_X2_bridesTiedTo k_136 (rc_obj cl_2 ho) rfl rfl ⟨Nat.le_of_ble_eq_true rfl, Nat.le_of_ble_eq_true rfl⟩ ⟨Nat.le_of_ble_eq_true rfl, Nat.le_of_ble_eq_true rfl⟩ (Nat.le_of_ble_eq_true rfl) dX2_tieCount_18 (ct_X2_bridesTiedTo  h) (fun z_2 st_3 h => ?_)
      refine J_csi (As := [_]) md_J6_bitCount_0f7a4 k_139 rfl rfl ⟨Nat.le_of_ble_eq_true rfl, Nat.le_of_ble_eq_true rfl⟩ ⟨Nat.le_of_ble_eq_true rfl, Nat.le_of_ble_eq_true rfl⟩ (Nat.le_of_ble_eq_true rfl) dX2_tieCount_21 (ct_J6_bitCount_0f7a4  h) (fun z_4 st_5 h => ?_)
      refine J_iadd dX2_tieCount_24 ?_
      refine J_istore_n _ dX2_tieCount_25 rfl (by decide) rfl ?_
      refine J_iinc 2 (x2 + 1) _ dX2_tieCount_26 rfl (by rfl) (by decide) rfl ?_
      refine J_goto 4 dX2_tieCount_29 (by decide) ?_
      exact J_lv [2, 1, 0] rfl (ih (x1 + z_4) (x2 + 1) st_5 h)
set_option maxRecDepth 100000 in
set_option maxHeartbeats 4000000 in
theorem ct_X2_tieCount {l : Launch} {E : En}  {a0 : Nat} {st : St} {post : Int32 → St → Prop} (h : P_X2_tieCount  a0 st post) : CtI l E (CFc E) 3 0 0 yX2_tieCount cX2_tieCount 3 (some .int) [.ref a0] st post := by
  refine ctI_of (by decide) (Nat.le_of_ble_eq_true rfl) ?_
  show Jg l E (CFc E) (Rm 3 0 0) cX2_tieCount 3 RX2 (some .int) (fun _ => True) (QI E post 0 0) 0 0 0 [(0, .ref a0)] [] st
  unfold P_X2_tieCount at h
  refine J_iconst 0 dX2_tieCount_0 (by decide) ?_
  refine J_istore_n _ dX2_tieCount_1 rfl (by decide) rfl ?_
  refine J_iconst 0 dX2_tieCount_2 (by decide) ?_
  refine J_istore_n _ dX2_tieCount_3 rfl (by decide) rfl ?_
  obtain ⟨n8, h⟩ := h
  exact J_lv [2, 1, 0] rfl (K_X2_tieCount_4   a0  n8 0 0 st h)
/-! X2_rivalsFor -/
def P_X2_rivalsFor  (a0 : Nat) (a1 : Int32) (st : St) (post : Int32 → St → Prop) : Prop := oC a0 2 ∧ P_X2_peopleTiedTo  a0 a1 st (fun z_1 st_2 => P_J6_bitCount_0f7a4  z_1 st_2 (fun z_3 st_4 => post (if (0 : Int32) < (z_3 - 1) then (z_3 - 1) else 0) st_4))
set_option maxRecDepth 100000 in
set_option maxHeartbeats 4000000 in
theorem ct_X2_rivalsFor {l : Launch} {E : En}  {a0 : Nat} {a1 : Int32} {st : St} {post : Int32 → St → Prop} (h : P_X2_rivalsFor  a0 a1 st post) : CtI l E (CFc E) 2 0 0 yX2_rivalsFor cX2_rivalsFor 2 (some .int) [.ref a0, .int a1] st post := by
  refine ctI_of (by decide) (Nat.le_of_ble_eq_true rfl) ?_
  show Jg l E (CFc E) (Rm 2 0 0) cX2_rivalsFor 2 RX2 (some .int) (fun _ => True) (QI E post 0 0) 0 0 0 [(0, .ref a0), (1, .int a1)] [] st
  unfold P_X2_rivalsFor at h
  refine J_iconst 0 dX2_rivalsFor_0 (by decide) ?_
  refine J_aload_n 0 dX2_rivalsFor_1 rfl rfl ?_
  refine J_iload_n 1 dX2_rivalsFor_2 rfl rfl ?_
  obtain ⟨ho, h⟩ := h
  refine J_cvi (As := [_]) md_X2_peopleTiedTo k_128 (rc_obj cl_2 ho) rfl rfl ⟨Nat.le_of_ble_eq_true rfl, Nat.le_of_ble_eq_true rfl⟩ ⟨Nat.le_of_ble_eq_true rfl, Nat.le_of_ble_eq_true rfl⟩ (Nat.le_of_ble_eq_true rfl) dX2_rivalsFor_3 (ct_X2_peopleTiedTo  h) (fun z_1 st_2 h => ?_)
  refine J_csi (As := [_]) md_J6_bitCount_0f7a4 k_139 rfl rfl ⟨Nat.le_of_ble_eq_true rfl, Nat.le_of_ble_eq_true rfl⟩ ⟨Nat.le_of_ble_eq_true rfl, Nat.le_of_ble_eq_true rfl⟩ (Nat.le_of_ble_eq_true rfl) dX2_rivalsFor_6 (ct_J6_bitCount_0f7a4  h) (fun z_3 st_4 h => ?_)
  refine J_iconst 1 dX2_rivalsFor_9 (by decide) ?_
  refine J_isub dX2_rivalsFor_10 ?_
  refine J_mmax k_156 k_157 k_158 k_159 ⟨Nat.le_of_ble_eq_true rfl, Nat.le_of_ble_eq_true rfl, Nat.le_of_ble_eq_true rfl, Nat.le_of_ble_eq_true rfl⟩ dX2_rivalsFor_11 ?_
  exact J_reti rfl dX2_rivalsFor_14 h
/-! X2_setValuesOf -/
def P_X2_setValuesOf  (a0 : Nat) (a1 : Int32) (st : St) (post : St → Prop) : Prop := ∃ r_1, rv st a0 2 2 = some r_1 ∧ oC a0 2 ∧ P_X2_griefOf  a0 a1 st (fun z_2 st_3 => vp_in 0 (al 0 r_1) ∧ ∃ r_4, rv (sA st_3 r_1 (0 : Int32).toNatClampNeg z_2) a0 2 2 = some r_4 ∧ oC a0 2 ∧ P_X2_onionsOf  a0 a1 (sA st_3 r_1 (0 : Int32).toNatClampNeg z_2) (fun z_5 st_6 => vp_in 1 (al 0 r_4) ∧ ∃ r_7, rv (sA st_6 r_4 (1 : Int32).toNatClampNeg z_5) a0 2 2 = some r_7 ∧ ∃ r_8, rv (sA st_6 r_4 (1 : Int32).toNatClampNeg z_5) a0 2 0 = some r_8 ∧ ∃ r_9, rv (sA st_6 r_4 (1 : Int32).toNatClampNeg z_5) r_8 3 2 = some r_9 ∧ vp_in a1 (al 0 r_9) ∧ vp_in 2 (al 0 r_7) ∧ ∃ r_10, rv (sA (sA st_6 r_4 (1 : Int32).toNatClampNeg z_5) r_7 (2 : Int32).toNatClampNeg (gA (sA st_6 r_4 (1 : Int32).toNatClampNeg z_5) r_9 (a1 : Int32).toNatClampNeg)) a0 2 2 = some r_10 ∧ oC a0 2 ∧ P_X2_ledBits  a0 a1 (sA (sA st_6 r_4 (1 : Int32).toNatClampNeg z_5) r_7 (2 : Int32).toNatClampNeg (gA (sA st_6 r_4 (1 : Int32).toNatClampNeg z_5) r_9 (a1 : Int32).toNatClampNeg)) (fun z_11 st_12 => P_J6_bitCount_0f7a4  z_11 st_12 (fun z_13 st_14 => vp_in 3 (al 0 r_10) ∧ ∃ r_15, rv (sA st_14 r_10 (3 : Int32).toNatClampNeg z_13) a0 2 2 = some r_15 ∧ oC a0 2 ∧ P_X2_today  a0 (sA st_14 r_10 (3 : Int32).toNatClampNeg z_13) (fun z_16 st_17 => vp_in 4 (al 0 r_15) ∧ post (sA st_17 r_15 (4 : Int32).toNatClampNeg z_16))))))
set_option maxRecDepth 100000 in
set_option maxHeartbeats 4000000 in
theorem ct_X2_setValuesOf {l : Launch} {E : En}  {a0 : Nat} {a1 : Int32} {st : St} {post : St → Prop} (h : P_X2_setValuesOf  a0 a1 st post) : CtV l E (CFc E) 2 0 0 yX2_setValuesOf cX2_setValuesOf 2 none [.ref a0, .int a1] st post := by
  refine ctV_of (by decide) (Nat.le_of_ble_eq_true rfl) ?_
  show Jg l E (CFc E) (Rm 2 0 0) cX2_setValuesOf 2 RX2 none (fun _ => True) (QV E post 0 0) 0 0 0 [(0, .ref a0), (1, .int a1)] [] st
  unfold P_X2_setValuesOf at h
  refine J_aload_n 0 dX2_setValuesOf_0 rfl rfl ?_
  obtain ⟨r_1, hf, h⟩ := h
  refine J_getR fl_RX2_17 dX2_setValuesOf_1 hf ?_
  refine J_iconst 0 dX2_setValuesOf_4 (by decide) ?_
  refine J_aload_n 0 dX2_setValuesOf_5 rfl rfl ?_
  refine J_iload_n 1 dX2_setValuesOf_6 rfl rfl ?_
  obtain ⟨ho, h⟩ := h
  refine J_cvi (As := [_]) md_X2_griefOf k_147 (rc_obj cl_2 ho) rfl rfl ⟨Nat.le_of_ble_eq_true rfl, Nat.le_of_ble_eq_true rfl⟩ ⟨Nat.le_of_ble_eq_true rfl, Nat.le_of_ble_eq_true rfl⟩ (Nat.le_of_ble_eq_true rfl) dX2_setValuesOf_7 (ct_X2_griefOf  h) (fun z_2 st_3 h => ?_)
  obtain ⟨hi, h⟩ := h
  refine J_iast dX2_setValuesOf_10 hi ?_
  refine J_aload_n 0 dX2_setValuesOf_11 rfl rfl ?_
  obtain ⟨r_4, hf, h⟩ := h
  refine J_getR fl_RX2_17 dX2_setValuesOf_12 hf ?_
  refine J_iconst 1 dX2_setValuesOf_15 (by decide) ?_
  refine J_aload_n 0 dX2_setValuesOf_16 rfl rfl ?_
  refine J_iload_n 1 dX2_setValuesOf_17 rfl rfl ?_
  obtain ⟨ho, h⟩ := h
  refine J_cvi (As := [_]) md_X2_onionsOf k_165 (rc_obj cl_2 ho) rfl rfl ⟨Nat.le_of_ble_eq_true rfl, Nat.le_of_ble_eq_true rfl⟩ ⟨Nat.le_of_ble_eq_true rfl, Nat.le_of_ble_eq_true rfl⟩ (Nat.le_of_ble_eq_true rfl) dX2_setValuesOf_18 (ct_X2_onionsOf  h) (fun z_5 st_6 h => ?_)
  obtain ⟨hi, h⟩ := h
  refine J_iast dX2_setValuesOf_21 hi ?_
  refine J_aload_n 0 dX2_setValuesOf_22 rfl rfl ?_
  obtain ⟨r_7, hf, h⟩ := h
  refine J_getR fl_RX2_17 dX2_setValuesOf_23 hf ?_
  refine J_iconst 2 dX2_setValuesOf_26 (by decide) ?_
  refine J_aload_n 0 dX2_setValuesOf_27 rfl rfl ?_
  obtain ⟨r_8, hf, h⟩ := h
  refine J_getR fl_RX2_23 dX2_setValuesOf_28 hf ?_
  obtain ⟨r_9, hf, h⟩ := h
  refine J_getR fl_RX2_105 dX2_setValuesOf_31 hf ?_
  refine J_iload_n 1 dX2_setValuesOf_34 rfl rfl ?_
  obtain ⟨hi, h⟩ := h
  refine J_iald dX2_setValuesOf_35 hi ?_
  obtain ⟨hi, h⟩ := h
  refine J_iast dX2_setValuesOf_36 hi ?_
  refine J_aload_n 0 dX2_setValuesOf_37 rfl rfl ?_
  obtain ⟨r_10, hf, h⟩ := h
  refine J_getR fl_RX2_17 dX2_setValuesOf_38 hf ?_
  refine J_iconst 3 dX2_setValuesOf_41 (by decide) ?_
  refine J_aload_n 0 dX2_setValuesOf_42 rfl rfl ?_
  refine J_iload_n 1 dX2_setValuesOf_43 rfl rfl ?_
  obtain ⟨ho, h⟩ := h
  refine J_cvi (As := [_]) md_X2_ledBits k_168 (rc_obj cl_2 ho) rfl rfl ⟨Nat.le_of_ble_eq_true rfl, Nat.le_of_ble_eq_true rfl⟩ ⟨Nat.le_of_ble_eq_true rfl, Nat.le_of_ble_eq_true rfl⟩ (Nat.le_of_ble_eq_true rfl) dX2_setValuesOf_44 (ct_X2_ledBits  h) (fun z_11 st_12 h => ?_)
  refine J_csi (As := [_]) md_J6_bitCount_0f7a4 k_139 rfl rfl ⟨Nat.le_of_ble_eq_true rfl, Nat.le_of_ble_eq_true rfl⟩ ⟨Nat.le_of_ble_eq_true rfl, Nat.le_of_ble_eq_true rfl⟩ (Nat.le_of_ble_eq_true rfl) dX2_setValuesOf_47 (ct_J6_bitCount_0f7a4  h) (fun z_13 st_14 h => ?_)
  obtain ⟨hi, h⟩ := h
  refine J_iast dX2_setValuesOf_50 hi ?_
  refine J_aload_n 0 dX2_setValuesOf_51 rfl rfl ?_
  obtain ⟨r_15, hf, h⟩ := h
  refine J_getR fl_RX2_17 dX2_setValuesOf_52 hf ?_
  refine J_iconst 4 dX2_setValuesOf_55 (by decide) ?_
  refine J_aload_n 0 dX2_setValuesOf_56 rfl rfl ?_
  obtain ⟨ho, h⟩ := h
  refine J_cvi (As := []) md_X2_today k_171 (rc_obj cl_2 ho) rfl rfl ⟨Nat.le_of_ble_eq_true rfl, Nat.le_of_ble_eq_true rfl⟩ ⟨Nat.le_of_ble_eq_true rfl, Nat.le_of_ble_eq_true rfl⟩ (Nat.le_of_ble_eq_true rfl) dX2_setValuesOf_57 (ct_X2_today  h) (fun z_16 st_17 h => ?_)
  obtain ⟨hi, h⟩ := h
  refine J_iast dX2_setValuesOf_60 hi ?_
  exact J_retv rfl dX2_setValuesOf_61 h
/-! X3_clear -/
def P_X3_clear  (a0 : Nat) (st : St) (post : St → Prop) : Prop := fk a0 3 0 = some 0 ∧ fk a0 3 1 = some 0 ∧ ∃ r_1, rv (sI (sI st a0 0 0) a0 1 0) a0 3 3 = some r_1 ∧ oC r_1 5 ∧ P_X5_clear  r_1 (sI (sI st a0 0 0) a0 1 0) (fun st_3 => ∃ r_4, rv st_3 a0 3 4 = some r_4 ∧ oC r_4 5 ∧ P_X5_clear  r_4 st_3 (fun st_6 => post st_6))
set_option maxRecDepth 100000 in
set_option maxHeartbeats 4000000 in
theorem ct_X3_clear {l : Launch} {E : En}  {a0 : Nat} {st : St} {post : St → Prop} (h : P_X3_clear  a0 st post) : CtV l E (CFc E) 2 0 0 yX3_clear cX3_clear 1 none [.ref a0] st post := by
  refine ctV_of (by decide) (Nat.le_of_ble_eq_true rfl) ?_
  show Jg l E (CFc E) (Rm 2 0 0) cX3_clear 1 RX3 none (fun _ => True) (QV E post 0 0) 0 0 0 [(0, .ref a0)] [] st
  unfold P_X3_clear at h
  refine J_aload_n 0 dX3_clear_0 rfl rfl ?_
  refine J_iconst 0 dX3_clear_1 (by decide) ?_
  obtain ⟨hf, h⟩ := h
  refine J_putI fp_RX3_25 dX3_clear_2 rfl hf ?_
  refine J_aload_n 0 dX3_clear_5 rfl rfl ?_
  refine J_iconst 0 dX3_clear_6 (by decide) ?_
  obtain ⟨hf, h⟩ := h
  refine J_putI fp_RX3_29 dX3_clear_7 rfl hf ?_
  refine J_aload_n 0 dX3_clear_10 rfl rfl ?_
  obtain ⟨r_1, hf, h⟩ := h
  refine J_getR fl_RX3_18 dX3_clear_11 hf ?_
  obtain ⟨ho, h⟩ := h
  refine J_cvv (As := []) md_X5_clear k_94 (rc_obj cl_5 ho) rfl rfl ⟨Nat.le_of_ble_eq_true rfl, Nat.le_of_ble_eq_true rfl⟩ ⟨Nat.le_of_ble_eq_true rfl, Nat.le_of_ble_eq_true rfl⟩ (Nat.le_of_ble_eq_true rfl) dX3_clear_14 (ct_X5_clear  h) (fun st_3 h => ?_)
  refine J_aload_n 0 dX3_clear_17 rfl rfl ?_
  obtain ⟨r_4, hf, h⟩ := h
  refine J_getR fl_RX3_22 dX3_clear_18 hf ?_
  obtain ⟨ho, h⟩ := h
  refine J_cvv (As := []) md_X5_clear k_94 (rc_obj cl_5 ho) rfl rfl ⟨Nat.le_of_ble_eq_true rfl, Nat.le_of_ble_eq_true rfl⟩ ⟨Nat.le_of_ble_eq_true rfl, Nat.le_of_ble_eq_true rfl⟩ (Nat.le_of_ble_eq_true rfl) dX3_clear_21 (ct_X5_clear  h) (fun st_6 h => ?_)
  exact J_retv rfl dX3_clear_24 h
/-! X5_workOut -/
def P_X5_workOut_135  (a0 : Nat) (a1 : Nat) (k4 : Int32 → Int32 → St → Prop) (post : Int32 → St → Prop) (x2 : Int32) (x3 : Int32) (st : St) : Prop := k4 x2 (x3 + 1) st
def P_X5_workOut_96  (a0 : Nat) (a1 : Nat) (k4 : Int32 → Int32 → St → Prop) (post : Int32 → St → Prop) (x2 : Int32) (x3 : Int32) (s0 : Int32) (s1 : Int32) (s2 : Nat) (st : St) : Prop := vp_in s1 (al 0 s2) ∧ P_X5_workOut_135  a0 a1 k4 post x2 x3 (sA st s2 (s1 : Int32).toNatClampNeg s0)
def P_X5_workOut_54  (a0 : Nat) (a1 : Nat) (k4 : Int32 → Int32 → St → Prop) (post : Int32 → St → Prop) (x2 : Int32) (x3 : Int32) (s0 : Int32) (s1 : Int32) (s2 : Nat) (st : St) : Prop := vp_in s1 (al 0 s2) ∧ P_X5_workOut_135  a0 a1 k4 post (x2 + 1) x3 (sA st s2 (s1 : Int32).toNatClampNeg s0)
def P_X5_workOut_4  (a0 : Nat) (a1 : Nat)  (post : Int32 → St → Prop) : Nat → Int32 → Int32 → St → Prop
  | 0, _, _, _ => False
  | n9 + 1, x2, x3, st => fk a0 5 2 = some 0 ∧ (((gI st a0 2) ≤ x3 → ∃ r_1, rv st a0 5 3 = some r_1 ∧ vp_in 0 (al 0 r_1) ∧ post (gA st r_1 (0 : Int32).toNatClampNeg) st) ∧ (¬ (gI st a0 2) ≤ x3 → ∃ r_2, rv st a0 5 1 = some r_2 ∧ vp_in x3 (al 0 r_2) ∧ (((gA st r_2 (x3 : Int32).toNatClampNeg) < (-8) → ((¬ (gA st r_2 (x3 : Int32).toNatClampNeg) = (-11) → ((x2 < 2 → P_X5_workOut_135  a0 a1 (fun x2 x3 st => P_X5_workOut_4  a0 a1  post n9 x2 x3 st) post x2 x3 st) ∧ (¬ x2 < 2 → ∃ r_3, rv st a0 5 3 = some r_3 ∧ ∃ r_4, rv st a0 5 3 = some r_4 ∧ vp_in ((x2 + (-1)) - 1) (al 0 r_4) ∧ ∃ r_5, rv st a0 5 3 = some r_5 ∧ vp_in (x2 + (-1)) (al 0 r_5) ∧ P_X5_joined  (gA st r_2 (x3 : Int32).toNatClampNeg) (gA st r_4 ((x2 + (-1)) - 1 : Int32).toNatClampNeg) (gA st r_5 (x2 + (-1) : Int32).toNatClampNeg) st (fun z_6 st_7 => vp_in ((x2 + (-1)) - 1) (al 0 r_3) ∧ P_X5_workOut_135  a0 a1 (fun x2 x3 st => P_X5_workOut_4  a0 a1  post n9 x2 x3 st) post (x2 + (-1)) x3 (sA st_7 r_3 ((x2 + (-1)) - 1 : Int32).toNatClampNeg z_6))))) ∧ ((gA st r_2 (x3 : Int32).toNatClampNeg) = (-11) → ((x2 < 1 → P_X5_workOut_135  a0 a1 (fun x2 x3 st => P_X5_workOut_4  a0 a1  post n9 x2 x3 st) post x2 x3 st) ∧ (¬ x2 < 1 → ∃ r_8, rv st a0 5 3 = some r_8 ∧ ∃ r_9, rv st a0 5 3 = some r_9 ∧ vp_in (x2 - 1) (al 0 r_9) ∧ ((¬ (gA st r_9 (x2 - 1 : Int32).toNatClampNeg) = 0 → P_X5_workOut_96  a0 a1 (fun x2 x3 st => P_X5_workOut_4  a0 a1  post n9 x2 x3 st) post x2 x3 0 (x2 - 1) r_8 st) ∧ ((gA st r_9 (x2 - 1 : Int32).toNatClampNeg) = 0 → P_X5_workOut_96  a0 a1 (fun x2 x3 st => P_X5_workOut_4  a0 a1  post n9 x2 x3 st) post x2 x3 1 (x2 - 1) r_8 st))))))) ∧ (¬ (gA st r_2 (x3 : Int32).toNatClampNeg) < (-8) → ((40 ≤ x2 → P_X5_workOut_135  a0 a1 (fun x2 x3 st => P_X5_workOut_4  a0 a1  post n9 x2 x3 st) post x2 x3 st) ∧ (¬ 40 ≤ x2 → ∃ r_10, rv st a0 5 3 = some r_10 ∧ (((gA st r_2 (x3 : Int32).toNatClampNeg) < 0 → vp_in ((-1) - (gA st r_2 (x3 : Int32).toNatClampNeg)) (al 0 a1) ∧ P_X5_workOut_54  a0 a1 (fun x2 x3 st => P_X5_workOut_4  a0 a1  post n9 x2 x3 st) post x2 x3 (gA st a1 ((-1) - (gA st r_2 (x3 : Int32).toNatClampNeg) : Int32).toNatClampNeg) x2 r_10 st) ∧ (¬ (gA st r_2 (x3 : Int32).toNatClampNeg) < 0 → P_X5_workOut_54  a0 a1 (fun x2 x3 st => P_X5_workOut_4  a0 a1  post n9 x2 x3 st) post x2 x3 (gA st r_2 (x3 : Int32).toNatClampNeg) x2 r_10 st))))))))
def P_X5_workOut  (a0 : Nat) (a1 : Nat) (st : St) (post : Int32 → St → Prop) : Prop := ∃ n8, P_X5_workOut_4  a0 a1  post n8 0 0 st
set_option maxRecDepth 100000 in
set_option maxHeartbeats 4000000 in
theorem K_X5_workOut_135 {l : Launch} {E : En}   (a0 : Nat) (a1 : Nat) {k4 : Int32 → Int32 → St → Prop} {post : Int32 → St → Prop}  (hk4 : ∀ (x2 : Int32) (x3 : Int32) (st : St), k4 x2 x3 st → Jg l E (CFc E) (Rm 2 0 0) cX5_workOut 5 RX5 (some .int) (fun _ => True) (QI E post 0 0) 0 0 4 [(0, .ref a0), (1, .ref a1), (2, .int x2), (3, .int x3)] [] st) (x2 : Int32) (x3 : Int32) (st : St) (h : P_X5_workOut_135  a0 a1 k4 post x2 x3 st) : Jg l E (CFc E) (Rm 2 0 0) cX5_workOut 5 RX5 (some .int) (fun _ => True) (QI E post 0 0) 0 0 135 [(0, .ref a0), (1, .ref a1), (2, .int x2), (3, .int x3)] [] st := by
  unfold P_X5_workOut_135 at h
  refine J_iinc 3 (x3 + 1) _ dX5_workOut_135 rfl (by rfl) (by decide) rfl ?_
  refine J_goto 4 dX5_workOut_138 (by decide) ?_
  exact J_lv [1, 2, 3, 0] rfl (hk4 x2 (x3 + 1) st h)
set_option maxRecDepth 100000 in
set_option maxHeartbeats 4000000 in
theorem K_X5_workOut_96 {l : Launch} {E : En}   (a0 : Nat) (a1 : Nat) {k4 : Int32 → Int32 → St → Prop} {post : Int32 → St → Prop}  (hk4 : ∀ (x2 : Int32) (x3 : Int32) (st : St), k4 x2 x3 st → Jg l E (CFc E) (Rm 2 0 0) cX5_workOut 5 RX5 (some .int) (fun _ => True) (QI E post 0 0) 0 0 4 [(0, .ref a0), (1, .ref a1), (2, .int x2), (3, .int x3)] [] st) (x2 : Int32) (x3 : Int32) (s0 : Int32) (s1 : Int32) (s2 : Nat) (st : St) (h : P_X5_workOut_96  a0 a1 k4 post x2 x3 s0 s1 s2 st) : Jg l E (CFc E) (Rm 2 0 0) cX5_workOut 5 RX5 (some .int) (fun _ => True) (QI E post 0 0) 0 0 96 [(0, .ref a0), (1, .ref a1), (2, .int x2), (3, .int x3)] [.int s0, .int s1, .ref s2] st := by
  unfold P_X5_workOut_96 at h
  obtain ⟨hi, h⟩ := h
  refine J_iast dX5_workOut_96 hi ?_
  refine J_goto 135 dX5_workOut_97 (by decide) ?_
  exact J_lv [0, 1, 2, 3] rfl (K_X5_workOut_135   a0 a1 hk4 x2 x3 (sA st s2 (s1 : Int32).toNatClampNeg s0) h)
set_option maxRecDepth 100000 in
set_option maxHeartbeats 4000000 in
theorem K_X5_workOut_54 {l : Launch} {E : En}   (a0 : Nat) (a1 : Nat) {k4 : Int32 → Int32 → St → Prop} {post : Int32 → St → Prop}  (hk4 : ∀ (x2 : Int32) (x3 : Int32) (st : St), k4 x2 x3 st → Jg l E (CFc E) (Rm 2 0 0) cX5_workOut 5 RX5 (some .int) (fun _ => True) (QI E post 0 0) 0 0 4 [(0, .ref a0), (1, .ref a1), (2, .int x2), (3, .int x3)] [] st) (x2 : Int32) (x3 : Int32) (s0 : Int32) (s1 : Int32) (s2 : Nat) (st : St) (h : P_X5_workOut_54  a0 a1 k4 post x2 x3 s0 s1 s2 st) : Jg l E (CFc E) (Rm 2 0 0) cX5_workOut 5 RX5 (some .int) (fun _ => True) (QI E post 0 0) 0 0 54 [(0, .ref a0), (1, .ref a1), (2, .int x2), (3, .int x3)] [.int s0, .int s1, .ref s2] st := by
  unfold P_X5_workOut_54 at h
  obtain ⟨hi, h⟩ := h
  refine J_iast dX5_workOut_54 hi ?_
  refine J_iinc 2 (x2 + 1) _ dX5_workOut_55 rfl (by rfl) (by decide) rfl ?_
  refine J_goto 135 dX5_workOut_58 (by decide) ?_
  exact J_lv [1, 2, 0, 3] rfl (K_X5_workOut_135   a0 a1 hk4 (x2 + 1) x3 (sA st s2 (s1 : Int32).toNatClampNeg s0) h)
set_option maxRecDepth 100000 in
set_option maxHeartbeats 4000000 in
theorem K_X5_workOut_4 {l : Launch} {E : En}   (a0 : Nat) (a1 : Nat)  {post : Int32 → St → Prop}   : ∀ (n9 : Nat) (x2 : Int32) (x3 : Int32) (st : St), P_X5_workOut_4  a0 a1  post n9 x2 x3 st → Jg l E (CFc E) (Rm 2 0 0) cX5_workOut 5 RX5 (some .int) (fun _ => True) (QI E post 0 0) 0 0 4 [(0, .ref a0), (1, .ref a1), (2, .int x2), (3, .int x3)] [] st := by
  intro n9
  induction n9 with
  | zero => intro x2 x3 st h; exact h.elim
  | succ n9 ih =>
    intro x2 x3 st h
    unfold P_X5_workOut_4 at h
    refine J_iload_n 3 dX5_workOut_4 rfl rfl ?_
    refine J_aload_n 0 dX5_workOut_5 rfl rfl ?_
    obtain ⟨hf, h⟩ := h
    refine J_getI fl_RX5_22 dX5_workOut_6 hf ?_
    refine J_icmp_ge 141 dX5_workOut_9 (by decide) (fun hc => ?_) (fun hc => ?_)
    · have h := h.1 hc
      refine J_aload_n 0 dX5_workOut_141 rfl rfl ?_
      obtain ⟨r_1, hf, h⟩ := h
      refine J_getR fl_RX5_15 dX5_workOut_142 hf ?_
      refine J_iconst 0 dX5_workOut_145 (by decide) ?_
      obtain ⟨hi, h⟩ := h
      refine J_iald dX5_workOut_146 hi ?_
      exact J_reti rfl dX5_workOut_147 h
    · have h := h.2 hc
      refine J_aload_n 0 dX5_workOut_12 rfl rfl ?_
      obtain ⟨r_2, hf, h⟩ := h
      refine J_getR fl_RX5_9 dX5_workOut_13 hf ?_
      refine J_iload_n 3 dX5_workOut_16 rfl rfl ?_
      obtain ⟨hi, h⟩ := h
      refine J_iald dX5_workOut_17 hi ?_
      refine J_istore _ dX5_workOut_18 (by decide) rfl ?_
      refine J_iload 0 dX5_workOut_20 rfl ?_
      refine J_bipush (-8) dX5_workOut_22 (by decide) ?_
      refine J_icmp_lt 61 dX5_workOut_24 (by decide) (fun hc => ?_) (fun hc => ?_)
      · have h := h.1 hc
        refine J_iload 0 dX5_workOut_61 rfl ?_
        refine J_bipush (-11) dX5_workOut_63 (by decide) ?_
        refine J_icmp_ne 100 dX5_workOut_65 (by decide) (fun hc => ?_) (fun hc => ?_)
        · have h := h.1 hc
          refine J_iload_n 3 dX5_workOut_100 rfl rfl ?_
          refine J_iconst 2 dX5_workOut_101 (by decide) ?_
          refine J_icmp_lt 135 dX5_workOut_102 (by decide) (fun hc => ?_) (fun hc => ?_)
          · have h := h.1 hc
            exact J_lv [1, 2, 3, 4] rfl (K_X5_workOut_135   a0 a1 (fun x2 x3 st h => ih x2 x3 st h) x2 x3 st h)
          · have h := h.2 hc
            refine J_iinc 3 (x2 + (-1)) _ dX5_workOut_105 rfl (by rfl) (by decide) rfl ?_
            refine J_aload_n 2 dX5_workOut_108 rfl rfl ?_
            obtain ⟨r_3, hf, h⟩ := h
            refine J_getR fl_RX5_15 dX5_workOut_109 hf ?_
            refine J_iload_n 0 dX5_workOut_112 rfl rfl ?_
            refine J_iconst 1 dX5_workOut_113 (by decide) ?_
            refine J_isub dX5_workOut_114 ?_
            refine J_iload 1 dX5_workOut_115 rfl ?_
            refine J_aload_n 2 dX5_workOut_117 rfl rfl ?_
            obtain ⟨r_4, hf, h⟩ := h
            refine J_getR fl_RX5_15 dX5_workOut_118 hf ?_
            refine J_iload_n 0 dX5_workOut_121 rfl rfl ?_
            refine J_iconst 1 dX5_workOut_122 (by decide) ?_
            refine J_isub dX5_workOut_123 ?_
            obtain ⟨hi, h⟩ := h
            refine J_iald dX5_workOut_124 hi ?_
            refine J_aload_n 2 dX5_workOut_125 rfl rfl ?_
            obtain ⟨r_5, hf, h⟩ := h
            refine J_getR fl_RX5_15 dX5_workOut_126 hf ?_
            refine J_iload_n 0 dX5_workOut_129 rfl rfl ?_
            obtain ⟨hi, h⟩ := h
            refine J_iald dX5_workOut_130 hi ?_
            refine J_csi (As := [_, _, _]) md_X5_joined k_179 rfl rfl ⟨Nat.le_of_ble_eq_true rfl, Nat.le_of_ble_eq_true rfl⟩ ⟨Nat.le_of_ble_eq_true rfl, Nat.le_of_ble_eq_true rfl⟩ (Nat.le_of_ble_eq_true rfl) dX5_workOut_131 (ct_X5_joined  h) (fun z_6 st_7 h => ?_)
            obtain ⟨hi, h⟩ := h
            refine J_iast dX5_workOut_134 hi ?_
            exact J_lv [2, 3, 0, 4] rfl (K_X5_workOut_135   a0 a1 (fun x2 x3 st h => ih x2 x3 st h) (x2 + (-1)) x3 (sA st_7 r_3 ((x2 + (-1)) - 1 : Int32).toNatClampNeg z_6) h)
        · have h := h.2 hc
          refine J_iload_n 3 dX5_workOut_68 rfl rfl ?_
          refine J_iconst 1 dX5_workOut_69 (by decide) ?_
          refine J_icmp_lt 135 dX5_workOut_70 (by decide) (fun hc => ?_) (fun hc => ?_)
          · have h := h.1 hc
            exact J_lv [1, 2, 3, 4] rfl (K_X5_workOut_135   a0 a1 (fun x2 x3 st h => ih x2 x3 st h) x2 x3 st h)
          · have h := h.2 hc
            refine J_aload_n 1 dX5_workOut_73 rfl rfl ?_
            obtain ⟨r_8, hf, h⟩ := h
            refine J_getR fl_RX5_15 dX5_workOut_74 hf ?_
            refine J_iload_n 3 dX5_workOut_77 rfl rfl ?_
            refine J_iconst 1 dX5_workOut_78 (by decide) ?_
            refine J_isub dX5_workOut_79 ?_
            refine J_aload_n 1 dX5_workOut_80 rfl rfl ?_
            obtain ⟨r_9, hf, h⟩ := h
            refine J_getR fl_RX5_15 dX5_workOut_81 hf ?_
            refine J_iload_n 3 dX5_workOut_84 rfl rfl ?_
            refine J_iconst 1 dX5_workOut_85 (by decide) ?_
            refine J_isub dX5_workOut_86 ?_
            obtain ⟨hi, h⟩ := h
            refine J_iald dX5_workOut_87 hi ?_
            refine J_if_ne 95 dX5_workOut_88 (by decide) (fun hc => ?_) (fun hc => ?_)
            · have h := h.1 hc
              refine J_iconst 0 dX5_workOut_95 (by decide) ?_
              exact J_lv [1, 2, 3, 4] rfl (K_X5_workOut_96   a0 a1 (fun x2 x3 st h => ih x2 x3 st h) x2 x3 0 (x2 - 1) r_8 st h)
            · have h := h.2 hc
              refine J_iconst 1 dX5_workOut_91 (by decide) ?_
              refine J_goto 96 dX5_workOut_92 (by decide) ?_
              exact J_lv [1, 2, 3, 4] rfl (K_X5_workOut_96   a0 a1 (fun x2 x3 st h => ih x2 x3 st h) x2 x3 1 (x2 - 1) r_8 st h)
      · have h := h.2 hc
        refine J_iload_n 3 dX5_workOut_27 rfl rfl ?_
        refine J_bipush 40 dX5_workOut_28 (by decide) ?_
        refine J_icmp_ge 135 dX5_workOut_30 (by decide) (fun hc => ?_) (fun hc => ?_)
        · have h := h.1 hc
          exact J_lv [1, 2, 3, 4] rfl (K_X5_workOut_135   a0 a1 (fun x2 x3 st h => ih x2 x3 st h) x2 x3 st h)
        · have h := h.2 hc
          refine J_aload_n 1 dX5_workOut_33 rfl rfl ?_
          obtain ⟨r_10, hf, h⟩ := h
          refine J_getR fl_RX5_15 dX5_workOut_34 hf ?_
          refine J_iload_n 3 dX5_workOut_37 rfl rfl ?_
          refine J_iload 0 dX5_workOut_38 rfl ?_
          refine J_if_lt 48 dX5_workOut_40 (by decide) (fun hc => ?_) (fun hc => ?_)
          · have h := h.1 hc
            refine J_aload_n 2 dX5_workOut_48 rfl rfl ?_
            refine J_iconst (-1) dX5_workOut_49 (by decide) ?_
            refine J_iload 0 dX5_workOut_50 rfl ?_
            refine J_isub dX5_workOut_52 ?_
            obtain ⟨hi, h⟩ := h
            refine J_iald dX5_workOut_53 hi ?_
            exact J_lv [1, 2, 3, 4] rfl (K_X5_workOut_54   a0 a1 (fun x2 x3 st h => ih x2 x3 st h) x2 x3 (gA st a1 ((-1) - (gA st r_2 (x3 : Int32).toNatClampNeg) : Int32).toNatClampNeg) x2 r_10 st h)
          · have h := h.2 hc
            refine J_iload 0 dX5_workOut_43 rfl ?_
            refine J_goto 54 dX5_workOut_45 (by decide) ?_
            exact J_lv [1, 2, 3, 4] rfl (K_X5_workOut_54   a0 a1 (fun x2 x3 st h => ih x2 x3 st h) x2 x3 (gA st r_2 (x3 : Int32).toNatClampNeg) x2 r_10 st h)
set_option maxRecDepth 100000 in
set_option maxHeartbeats 4000000 in
theorem ct_X5_workOut {l : Launch} {E : En}  {a0 : Nat} {a1 : Nat} {st : St} {post : Int32 → St → Prop} (h : P_X5_workOut  a0 a1 st post) : CtI l E (CFc E) 2 0 0 yX5_workOut cX5_workOut 5 (some .int) [.ref a0, .ref a1] st post := by
  refine ctI_of (by decide) (Nat.le_of_ble_eq_true rfl) ?_
  show Jg l E (CFc E) (Rm 2 0 0) cX5_workOut 5 RX5 (some .int) (fun _ => True) (QI E post 0 0) 0 0 0 [(0, .ref a0), (1, .ref a1)] [] st
  unfold P_X5_workOut at h
  refine J_iconst 0 dX5_workOut_0 (by decide) ?_
  refine J_istore_n _ dX5_workOut_1 rfl (by decide) rfl ?_
  refine J_iconst 0 dX5_workOut_2 (by decide) ?_
  refine J_istore_n _ dX5_workOut_3 rfl (by decide) rfl ?_
  obtain ⟨n8, h⟩ := h
  exact J_lv [2, 3, 1, 0] rfl (K_X5_workOut_4   a0 a1  n8 0 0 st h)
/-! J0_length_8abf5 -/
def P_J0_length_8abf5  (a0 : Nat) (st : St) (post : Int32 → St → Prop) : Prop := kOk a0 ∧ vOk (a0 + 1000) ∧ kOk a0 ∧ P_J0_coder_7d493  a0 st (fun z_1 st_2 => post ((Int32.ofNat (kl (a0 + 1000)) : Int32) >>> ((z_1 : Int32) &&& 31)) st_2)
set_option maxRecDepth 100000 in
set_option maxHeartbeats 4000000 in
theorem ct_J0_length_8abf5 {l : Launch} {E : En}  {a0 : Nat} {st : St} {post : Int32 → St → Prop} (h : P_J0_length_8abf5  a0 st post) : CtI l E (CFc E) 2 0 0 yJ0_length_8abf5 cJ0_length_8abf5 1 (some .int) [.ref a0] st post := by
  refine ctI_of (by decide) (Nat.le_of_ble_eq_true rfl) ?_
  show Jg l E (CFc E) (Rm 2 0 0) cJ0_length_8abf5 1 RJ0 (some .int) (fun _ => True) (QI E post 0 0) 0 0 0 [(0, .ref a0)] [] st
  unfold P_J0_length_8abf5 at h
  refine J_aload_n 0 dJ0_length_8abf5_0 rfl rfl ?_
  obtain ⟨hf, h⟩ := h
  refine J_kV k_249 dJ0_length_8abf5_1 hf ?_
  obtain ⟨hf, h⟩ := h
  refine J_kLen dJ0_length_8abf5_4 hf ?_
  refine J_aload_n 0 dJ0_length_8abf5_5 rfl rfl ?_
  obtain ⟨ho, h⟩ := h
  refine J_cvi (As := []) md_J0_coder_7d493 k_250 (rc_str ho) rfl rfl ⟨Nat.le_of_ble_eq_true rfl, Nat.le_of_ble_eq_true rfl⟩ ⟨Nat.le_of_ble_eq_true rfl, Nat.le_of_ble_eq_true rfl⟩ (Nat.le_of_ble_eq_true rfl) dJ0_length_8abf5_6 (ct_J0_coder_7d493  h) (fun z_1 st_2 h => ?_)
  refine J_ishr dJ0_length_8abf5_9 ?_
  exact J_reti rfl dJ0_length_8abf5_10 h
/-! J0_checkIndex_df160 -/
def P_J0_checkIndex_df160  (a0 : Int32) (a1 : Int32) (st : St) (post : St → Prop) : Prop := ∀ q_1 : Option Nat, P_J3_checkIndex_8e157  a0 a1 q_1 st (fun z_2 st_3 => post st_3)
set_option maxRecDepth 100000 in
set_option maxHeartbeats 4000000 in
theorem ct_J0_checkIndex_df160 {l : Launch} {E : En}  {a0 : Int32} {a1 : Int32} {st : St} {post : St → Prop} (h : P_J0_checkIndex_df160  a0 a1 st post) : CtV l E (CFc E) 2 0 0 yJ0_checkIndex_df160 cJ0_checkIndex_df160 2 none [.int a0, .int a1] st post := by
  refine ctV_of (by decide) (Nat.le_of_ble_eq_true rfl) ?_
  show Jg l E (CFc E) (Rm 2 0 0) cJ0_checkIndex_df160 2 RJ0 none (fun _ => True) (QV E post 0 0) 0 0 0 [(0, .int a0), (1, .int a1)] [] st
  unfold P_J0_checkIndex_df160 at h
  refine J_iload_n 0 dJ0_checkIndex_df160_0 rfl rfl ?_
  refine J_iload_n 1 dJ0_checkIndex_df160_1 rfl rfl ?_
  refine J_gsF k_257 dJ0_checkIndex_df160_2 (fun q_1 => ?_)
  have h := h q_1
  refine J_csi (As := [_, _, _]) md_J3_checkIndex_8e157 k_258 rfl rfl ⟨Nat.le_of_ble_eq_true rfl, Nat.le_of_ble_eq_true rfl⟩ ⟨Nat.le_of_ble_eq_true rfl, Nat.le_of_ble_eq_true rfl⟩ (Nat.le_of_ble_eq_true rfl) dJ0_checkIndex_df160_5 (ct_J3_checkIndex_8e157  h) (fun z_2 st_3 h => ?_)
  refine J_pop dJ0_checkIndex_df160_8 rfl ?_
  exact J_retv rfl dJ0_checkIndex_df160_9 h
/-! J1_indexOf_4cfef -/
def P_J1_indexOf_4cfef  (a0 : Nat) (a1 : Int32) (a2 : Int32) (a3 : Int32) (st : St) (post : Int32 → St → Prop) : Prop := P_J1_canEncode_9a6ad  a1 st (fun z_1 st_2 => ((¬ z_1 = 0 → vOk a0 ∧ (((if (a2 : Int32) < 0 then 0 else a2) < (if ((Int32.ofNat (kl a0)) : Int32) < a3 then (Int32.ofNat (kl a0)) else a3) → P_J1_indexOfChar_4cfef  a0 a1 (if (a2 : Int32) < 0 then 0 else a2) (if ((Int32.ofNat (kl a0)) : Int32) < a3 then (Int32.ofNat (kl a0)) else a3) st_2 (fun z_3 st_4 => post z_3 st_4)) ∧ (¬ (if (a2 : Int32) < 0 then 0 else a2) < (if ((Int32.ofNat (kl a0)) : Int32) < a3 then (Int32.ofNat (kl a0)) else a3) → post (-1) st_2))) ∧ (z_1 = 0 → post (-1) st_2)))
set_option maxRecDepth 100000 in
set_option maxHeartbeats 4000000 in
theorem ct_J1_indexOf_4cfef {l : Launch} {E : En}  {a0 : Nat} {a1 : Int32} {a2 : Int32} {a3 : Int32} {st : St} {post : Int32 → St → Prop} (h : P_J1_indexOf_4cfef  a0 a1 a2 a3 st post) : CtI l E (CFc E) 2 0 0 yJ1_indexOf_4cfef cJ1_indexOf_4cfef 4 (some .int) [.ref a0, .int a1, .int a2, .int a3] st post := by
  refine ctI_of (by decide) (Nat.le_of_ble_eq_true rfl) ?_
  show Jg l E (CFc E) (Rm 2 0 0) cJ1_indexOf_4cfef 4 RJ1 (some .int) (fun _ => True) (QI E post 0 0) 0 0 0 [(0, .ref a0), (1, .int a1), (2, .int a2), (3, .int a3)] [] st
  unfold P_J1_indexOf_4cfef at h
  refine J_iload_n 1 dJ1_indexOf_4cfef_0 rfl rfl ?_
  refine J_csi (As := [_]) md_J1_canEncode_9a6ad k_323 rfl rfl ⟨Nat.le_of_ble_eq_true rfl, Nat.le_of_ble_eq_true rfl⟩ ⟨Nat.le_of_ble_eq_true rfl, Nat.le_of_ble_eq_true rfl⟩ (Nat.le_of_ble_eq_true rfl) dJ1_indexOf_4cfef_1 (ct_J1_canEncode_9a6ad  h) (fun z_1 st_2 h => ?_)
  refine J_if_ne 9 dJ1_indexOf_4cfef_4 (by decide) (fun hc => ?_) (fun hc => ?_)
  · have h := h.1 hc
    refine J_iload_n 2 dJ1_indexOf_4cfef_9 rfl rfl ?_
    refine J_iconst 0 dJ1_indexOf_4cfef_10 (by decide) ?_
    refine J_mmax k_321 k_157 k_158 k_159 ⟨Nat.le_of_ble_eq_true rfl, Nat.le_of_ble_eq_true rfl, Nat.le_of_ble_eq_true rfl, Nat.le_of_ble_eq_true rfl⟩ dJ1_indexOf_4cfef_11 ?_
    refine J_istore_n _ dJ1_indexOf_4cfef_14 rfl (by decide) rfl ?_
    refine J_iload_n 3 dJ1_indexOf_4cfef_15 rfl rfl ?_
    refine J_aload_n 1 dJ1_indexOf_4cfef_16 rfl rfl ?_
    obtain ⟨hf, h⟩ := h
    refine J_kLen dJ1_indexOf_4cfef_17 hf ?_
    refine J_mmin k_322 k_162 k_158 k_163 ⟨Nat.le_of_ble_eq_true rfl, Nat.le_of_ble_eq_true rfl, Nat.le_of_ble_eq_true rfl, Nat.le_of_ble_eq_true rfl⟩ dJ1_indexOf_4cfef_18 ?_
    refine J_istore_n _ dJ1_indexOf_4cfef_21 rfl (by decide) rfl ?_
    refine J_iload_n 1 dJ1_indexOf_4cfef_22 rfl rfl ?_
    refine J_iload_n 0 dJ1_indexOf_4cfef_23 rfl rfl ?_
    refine J_icmp_lt 29 dJ1_indexOf_4cfef_24 (by decide) (fun hc => ?_) (fun hc => ?_)
    · have h := h.1 hc
      refine J_aload_n 2 dJ1_indexOf_4cfef_29 rfl rfl ?_
      refine J_iload_n 3 dJ1_indexOf_4cfef_30 rfl rfl ?_
      refine J_iload_n 1 dJ1_indexOf_4cfef_31 rfl rfl ?_
      refine J_iload_n 0 dJ1_indexOf_4cfef_32 rfl rfl ?_
      refine J_csi (As := [_, _, _, _]) md_J1_indexOfChar_4cfef k_325 rfl rfl ⟨Nat.le_of_ble_eq_true rfl, Nat.le_of_ble_eq_true rfl⟩ ⟨Nat.le_of_ble_eq_true rfl, Nat.le_of_ble_eq_true rfl⟩ (Nat.le_of_ble_eq_true rfl) dJ1_indexOf_4cfef_33 (ct_J1_indexOfChar_4cfef  h) (fun z_3 st_4 h => ?_)
      exact J_reti rfl dJ1_indexOf_4cfef_36 h
    · have h := h.2 hc
      refine J_iconst (-1) dJ1_indexOf_4cfef_27 (by decide) ?_
      exact J_reti rfl dJ1_indexOf_4cfef_28 h
  · have h := h.2 hc
    refine J_iconst (-1) dJ1_indexOf_4cfef_7 (by decide) ?_
    exact J_reti rfl dJ1_indexOf_4cfef_8 h
/-! X2_startAnew -/
def P_X2_startAnew_14  (a0 : Nat) (a1 : Nat)  (post : St → Prop) : Nat → Int32 → St → Prop
  | 0, _, _ => False
  | n9 + 1, x2, st => ((110 ≤ x2 → post st) ∧ (¬ 110 ≤ x2 → ∃ r_1, rv st a0 2 1 = some r_1 ∧ vp_in x2 (al 0 r_1) ∧ P_X2_startAnew_14  a0 a1  post n9 (x2 + 1) (sA st r_1 (x2 : Int32).toNatClampNeg 0)))
def P_X2_startAnew  (a0 : Nat) (a1 : Nat) (st : St) (post : St → Prop) : Prop := fk a0 2 0 = some 1 ∧ ∃ r_1, rv (sR st a0 0 (some a1)) a0 2 0 = some r_1 ∧ oC r_1 3 ∧ P_X3_clear  r_1 (sR st a0 0 (some a1)) (fun st_3 => ∃ n8, P_X2_startAnew_14  a0 a1  post n8 0 st_3)
set_option maxRecDepth 100000 in
set_option maxHeartbeats 4000000 in
theorem K_X2_startAnew_14 {l : Launch} {E : En}   (a0 : Nat) (a1 : Nat)  {post : St → Prop}   : ∀ (n9 : Nat) (x2 : Int32) (st : St), P_X2_startAnew_14  a0 a1  post n9 x2 st → Jg l E (CFc E) (Rm 3 0 0) cX2_startAnew 3 RX2 none (fun _ => True) (QV E post 0 0) 0 0 14 [(0, .ref a0), (1, .ref a1), (2, .int x2)] [] st := by
  intro n9
  induction n9 with
  | zero => intro x2 st h; exact h.elim
  | succ n9 ih =>
    intro x2 st h
    unfold P_X2_startAnew_14 at h
    refine J_iload_n 2 dX2_startAnew_14 rfl rfl ?_
    refine J_bipush 110 dX2_startAnew_15 (by decide) ?_
    refine J_icmp_ge 33 dX2_startAnew_17 (by decide) (fun hc => ?_) (fun hc => ?_)
    · have h := h.1 hc
      exact J_retv rfl dX2_startAnew_33 h
    · have h := h.2 hc
      refine J_aload_n 0 dX2_startAnew_20 rfl rfl ?_
      obtain ⟨r_1, hf, h⟩ := h
      refine J_getR fl_RX2_11 dX2_startAnew_21 hf ?_
      refine J_iload_n 2 dX2_startAnew_24 rfl rfl ?_
      refine J_iconst 0 dX2_startAnew_25 (by decide) ?_
      obtain ⟨hi, h⟩ := h
      refine J_iast dX2_startAnew_26 hi ?_
      refine J_iinc 2 (x2 + 1) _ dX2_startAnew_27 rfl (by rfl) (by decide) rfl ?_
      refine J_goto 14 dX2_startAnew_30 (by decide) ?_
      exact J_lv [1, 2, 0] rfl (ih (x2 + 1) (sA st r_1 (x2 : Int32).toNatClampNeg 0) h)
set_option maxRecDepth 100000 in
set_option maxHeartbeats 4000000 in
theorem ct_X2_startAnew {l : Launch} {E : En}  {a0 : Nat} {a1 : Nat} {st : St} {post : St → Prop} (h : P_X2_startAnew  a0 a1 st post) : CtV l E (CFc E) 3 0 0 yX2_startAnew cX2_startAnew 3 none [.ref a0, .ref a1] st post := by
  refine ctV_of (by decide) (Nat.le_of_ble_eq_true rfl) ?_
  show Jg l E (CFc E) (Rm 3 0 0) cX2_startAnew 3 RX2 none (fun _ => True) (QV E post 0 0) 0 0 0 [(0, .ref a0), (1, .ref a1)] [] st
  unfold P_X2_startAnew at h
  refine J_aload_n 0 dX2_startAnew_0 rfl rfl ?_
  refine J_aload_n 1 dX2_startAnew_1 rfl rfl ?_
  obtain ⟨hf, h⟩ := h
  refine J_putQ (v := (some a1)) fp_RX2_23 dX2_startAnew_2 (Or.inl ⟨_, rfl⟩) hf ?_
  refine J_aload_n 0 dX2_startAnew_5 rfl rfl ?_
  obtain ⟨r_1, hf, h⟩ := h
  refine J_getR fl_RX2_23 dX2_startAnew_6 hf ?_
  obtain ⟨ho, h⟩ := h
  refine J_cvv (As := []) md_X3_clear k_99 (rc_obj cl_3 ho) rfl rfl ⟨Nat.le_of_ble_eq_true rfl, Nat.le_of_ble_eq_true rfl⟩ ⟨Nat.le_of_ble_eq_true rfl, Nat.le_of_ble_eq_true rfl⟩ (Nat.le_of_ble_eq_true rfl) dX2_startAnew_9 (ct_X3_clear  h) (fun st_3 h => ?_)
  refine J_iconst 0 dX2_startAnew_12 (by decide) ?_
  refine J_istore_n _ dX2_startAnew_13 rfl (by decide) rfl ?_
  obtain ⟨n8, h⟩ := h
  exact J_lv [1, 2, 0] rfl (K_X2_startAnew_14   a0 a1  n8 0 st_3 h)
/-! X2_weigh -/
def P_X2_weigh  (a0 : Nat) (a1 : Int32) (a2 : Int32) (st : St) (post : Int32 → St → Prop) : Prop := oC a0 2 ∧ P_X2_yearsOf  a0 a1 a2 st (fun z_1 st_2 => ((¬ z_1 = 0 → ∃ r_3, rv st_2 a0 2 0 = some r_3 ∧ ∃ r_4, rv st_2 r_3 3 3 = some r_4 ∧ fk r_4 5 0 = some 0 ∧ ((¬ (gI st_2 r_4 0) = 0 → oC a0 2 ∧ P_X2_setValuesOf  a0 a1 st_2 (fun st_6 => ∃ r_7, rv st_6 a0 2 2 = some r_7 ∧ vp_in 5 (al 0 r_7) ∧ ∃ r_8, rv (sA st_6 r_7 (5 : Int32).toNatClampNeg z_1) a0 2 2 = some r_8 ∧ oC a0 2 ∧ P_X2_weddingOf  a0 a2 (sA st_6 r_7 (5 : Int32).toNatClampNeg z_1) (fun z_9 st_10 => oC a0 2 ∧ P_X2_today  a0 st_10 (fun z_11 st_12 => vp_in 6 (al 0 r_8) ∧ ∃ r_13, rv (sA st_12 r_8 (6 : Int32).toNatClampNeg (if (0 : Int32) < (z_9 - z_11) then (z_9 - z_11) else 0)) a0 2 2 = some r_13 ∧ oC a0 2 ∧ P_X2_rivalsFor  a0 a2 (sA st_12 r_8 (6 : Int32).toNatClampNeg (if (0 : Int32) < (z_9 - z_11) then (z_9 - z_11) else 0)) (fun z_14 st_15 => vp_in 7 (al 0 r_13) ∧ ∃ r_16, rv (sA st_15 r_13 (7 : Int32).toNatClampNeg z_14) a0 2 0 = some r_16 ∧ ∃ r_17, rv (sA st_15 r_13 (7 : Int32).toNatClampNeg z_14) r_16 3 3 = some r_17 ∧ ∃ r_18, rv (sA st_15 r_13 (7 : Int32).toNatClampNeg z_14) a0 2 2 = some r_18 ∧ oC r_17 5 ∧ P_X5_workOut  r_17 r_18 (sA st_15 r_13 (7 : Int32).toNatClampNeg z_14) (fun z_19 st_20 => P_X2_kept  z_19 999 st_20 (fun z_21 st_22 => post z_21 st_22))))))) ∧ ((gI st_2 r_4 0) = 0 → oC a0 2 ∧ P_X2_griefOf  a0 a1 st_2 (fun z_23 st_24 => oC a0 2 ∧ P_X2_onionsOf  a0 a1 st_24 (fun z_25 st_26 => P_X2_kept  ((z_23 + z_1) - (2 * z_25)) 999 st_26 (fun z_27 st_28 => post z_27 st_28)))))) ∧ (z_1 = 0 → post (-1) st_2)))
set_option maxRecDepth 100000 in
set_option maxHeartbeats 4000000 in
theorem ct_X2_weigh {l : Launch} {E : En}  {a0 : Nat} {a1 : Int32} {a2 : Int32} {st : St} {post : Int32 → St → Prop} (h : P_X2_weigh  a0 a1 a2 st post) : CtI l E (CFc E) 3 0 0 yX2_weigh cX2_weigh 4 (some .int) [.ref a0, .int a1, .int a2] st post := by
  refine ctI_of (by decide) (Nat.le_of_ble_eq_true rfl) ?_
  show Jg l E (CFc E) (Rm 3 0 0) cX2_weigh 4 RX2 (some .int) (fun _ => True) (QI E post 0 0) 0 0 0 [(0, .ref a0), (1, .int a1), (2, .int a2)] [] st
  unfold P_X2_weigh at h
  refine J_aload_n 0 dX2_weigh_0 rfl rfl ?_
  refine J_iload_n 1 dX2_weigh_1 rfl rfl ?_
  refine J_iload_n 2 dX2_weigh_2 rfl rfl ?_
  obtain ⟨ho, h⟩ := h
  refine J_cvi (As := [_, _]) md_X2_yearsOf k_122 (rc_obj cl_2 ho) rfl rfl ⟨Nat.le_of_ble_eq_true rfl, Nat.le_of_ble_eq_true rfl⟩ ⟨Nat.le_of_ble_eq_true rfl, Nat.le_of_ble_eq_true rfl⟩ (Nat.le_of_ble_eq_true rfl) dX2_weigh_3 (ct_X2_yearsOf  h) (fun z_1 st_2 h => ?_)
  refine J_istore_n _ dX2_weigh_6 rfl (by decide) rfl ?_
  refine J_iload_n 0 dX2_weigh_7 rfl rfl ?_
  refine J_if_ne 13 dX2_weigh_8 (by decide) (fun hc => ?_) (fun hc => ?_)
  · have h := h.1 hc
    refine J_aload_n 1 dX2_weigh_13 rfl rfl ?_
    obtain ⟨r_3, hf, h⟩ := h
    refine J_getR fl_RX2_23 dX2_weigh_14 hf ?_
    obtain ⟨r_4, hf, h⟩ := h
    refine J_getR fl_RX2_76 dX2_weigh_17 hf ?_
    obtain ⟨hf, h⟩ := h
    refine J_getI fl_RX2_80 dX2_weigh_20 hf ?_
    refine J_if_ne 48 dX2_weigh_23 (by decide) (fun hc => ?_) (fun hc => ?_)
    · have h := h.1 hc
      refine J_aload_n 1 dX2_weigh_48 rfl rfl ?_
      refine J_iload_n 2 dX2_weigh_49 rfl rfl ?_
      obtain ⟨ho, h⟩ := h
      refine J_cvv (As := [_]) md_X2_setValuesOf k_185 (rc_obj cl_2 ho) rfl rfl ⟨Nat.le_of_ble_eq_true rfl, Nat.le_of_ble_eq_true rfl⟩ ⟨Nat.le_of_ble_eq_true rfl, Nat.le_of_ble_eq_true rfl⟩ (Nat.le_of_ble_eq_true rfl) dX2_weigh_50 (ct_X2_setValuesOf  h) (fun st_6 h => ?_)
      refine J_aload_n 1 dX2_weigh_53 rfl rfl ?_
      obtain ⟨r_7, hf, h⟩ := h
      refine J_getR fl_RX2_17 dX2_weigh_54 hf ?_
      refine J_iconst 5 dX2_weigh_57 (by decide) ?_
      refine J_iload_n 0 dX2_weigh_58 rfl rfl ?_
      obtain ⟨hi, h⟩ := h
      refine J_iast dX2_weigh_59 hi ?_
      refine J_aload_n 1 dX2_weigh_60 rfl rfl ?_
      obtain ⟨r_8, hf, h⟩ := h
      refine J_getR fl_RX2_17 dX2_weigh_61 hf ?_
      refine J_bipush 6 dX2_weigh_64 (by decide) ?_
      refine J_iconst 0 dX2_weigh_66 (by decide) ?_
      refine J_aload_n 1 dX2_weigh_67 rfl rfl ?_
      refine J_iload_n 3 dX2_weigh_68 rfl rfl ?_
      obtain ⟨ho, h⟩ := h
      refine J_cvi (As := [_]) md_X2_weddingOf k_151 (rc_obj cl_2 ho) rfl rfl ⟨Nat.le_of_ble_eq_true rfl, Nat.le_of_ble_eq_true rfl⟩ ⟨Nat.le_of_ble_eq_true rfl, Nat.le_of_ble_eq_true rfl⟩ (Nat.le_of_ble_eq_true rfl) dX2_weigh_69 (ct_X2_weddingOf  h) (fun z_9 st_10 h => ?_)
      refine J_aload_n 1 dX2_weigh_72 rfl rfl ?_
      obtain ⟨ho, h⟩ := h
      refine J_cvi (As := []) md_X2_today k_171 (rc_obj cl_2 ho) rfl rfl ⟨Nat.le_of_ble_eq_true rfl, Nat.le_of_ble_eq_true rfl⟩ ⟨Nat.le_of_ble_eq_true rfl, Nat.le_of_ble_eq_true rfl⟩ (Nat.le_of_ble_eq_true rfl) dX2_weigh_73 (ct_X2_today  h) (fun z_11 st_12 h => ?_)
      refine J_isub dX2_weigh_76 ?_
      refine J_mmax k_156 k_157 k_158 k_159 ⟨Nat.le_of_ble_eq_true rfl, Nat.le_of_ble_eq_true rfl, Nat.le_of_ble_eq_true rfl, Nat.le_of_ble_eq_true rfl⟩ dX2_weigh_77 ?_
      obtain ⟨hi, h⟩ := h
      refine J_iast dX2_weigh_80 hi ?_
      refine J_aload_n 1 dX2_weigh_81 rfl rfl ?_
      obtain ⟨r_13, hf, h⟩ := h
      refine J_getR fl_RX2_17 dX2_weigh_82 hf ?_
      refine J_bipush 7 dX2_weigh_85 (by decide) ?_
      refine J_aload_n 1 dX2_weigh_87 rfl rfl ?_
      refine J_iload_n 3 dX2_weigh_88 rfl rfl ?_
      obtain ⟨ho, h⟩ := h
      refine J_cvi (As := [_]) md_X2_rivalsFor k_188 (rc_obj cl_2 ho) rfl rfl ⟨Nat.le_of_ble_eq_true rfl, Nat.le_of_ble_eq_true rfl⟩ ⟨Nat.le_of_ble_eq_true rfl, Nat.le_of_ble_eq_true rfl⟩ (Nat.le_of_ble_eq_true rfl) dX2_weigh_89 (ct_X2_rivalsFor  h) (fun z_14 st_15 h => ?_)
      obtain ⟨hi, h⟩ := h
      refine J_iast dX2_weigh_92 hi ?_
      refine J_aload_n 1 dX2_weigh_93 rfl rfl ?_
      obtain ⟨r_16, hf, h⟩ := h
      refine J_getR fl_RX2_23 dX2_weigh_94 hf ?_
      obtain ⟨r_17, hf, h⟩ := h
      refine J_getR fl_RX2_76 dX2_weigh_97 hf ?_
      refine J_aload_n 1 dX2_weigh_100 rfl rfl ?_
      obtain ⟨r_18, hf, h⟩ := h
      refine J_getR fl_RX2_17 dX2_weigh_101 hf ?_
      obtain ⟨ho, h⟩ := h
      refine J_cvi (As := [_]) md_X5_workOut k_191 (rc_obj cl_5 ho) rfl rfl ⟨Nat.le_of_ble_eq_true rfl, Nat.le_of_ble_eq_true rfl⟩ ⟨Nat.le_of_ble_eq_true rfl, Nat.le_of_ble_eq_true rfl⟩ (Nat.le_of_ble_eq_true rfl) dX2_weigh_104 (ct_X5_workOut  h) (fun z_19 st_20 h => ?_)
      refine J_sipush 999 dX2_weigh_107 (by decide) ?_
      refine J_csi (As := [_, _]) md_X2_kept k_183 rfl rfl ⟨Nat.le_of_ble_eq_true rfl, Nat.le_of_ble_eq_true rfl⟩ ⟨Nat.le_of_ble_eq_true rfl, Nat.le_of_ble_eq_true rfl⟩ (Nat.le_of_ble_eq_true rfl) dX2_weigh_110 (ct_X2_kept  h) (fun z_21 st_22 h => ?_)
      exact J_reti rfl dX2_weigh_113 h
    · have h := h.2 hc
      refine J_aload_n 1 dX2_weigh_26 rfl rfl ?_
      refine J_iload_n 2 dX2_weigh_27 rfl rfl ?_
      obtain ⟨ho, h⟩ := h
      refine J_cvi (As := [_]) md_X2_griefOf k_147 (rc_obj cl_2 ho) rfl rfl ⟨Nat.le_of_ble_eq_true rfl, Nat.le_of_ble_eq_true rfl⟩ ⟨Nat.le_of_ble_eq_true rfl, Nat.le_of_ble_eq_true rfl⟩ (Nat.le_of_ble_eq_true rfl) dX2_weigh_28 (ct_X2_griefOf  h) (fun z_23 st_24 h => ?_)
      refine J_iload_n 0 dX2_weigh_31 rfl rfl ?_
      refine J_iadd dX2_weigh_32 ?_
      refine J_iconst 2 dX2_weigh_33 (by decide) ?_
      refine J_aload_n 1 dX2_weigh_34 rfl rfl ?_
      refine J_iload_n 2 dX2_weigh_35 rfl rfl ?_
      obtain ⟨ho, h⟩ := h
      refine J_cvi (As := [_]) md_X2_onionsOf k_165 (rc_obj cl_2 ho) rfl rfl ⟨Nat.le_of_ble_eq_true rfl, Nat.le_of_ble_eq_true rfl⟩ ⟨Nat.le_of_ble_eq_true rfl, Nat.le_of_ble_eq_true rfl⟩ (Nat.le_of_ble_eq_true rfl) dX2_weigh_36 (ct_X2_onionsOf  h) (fun z_25 st_26 h => ?_)
      refine J_imul dX2_weigh_39 ?_
      refine J_isub dX2_weigh_40 ?_
      refine J_sipush 999 dX2_weigh_41 (by decide) ?_
      refine J_csi (As := [_, _]) md_X2_kept k_183 rfl rfl ⟨Nat.le_of_ble_eq_true rfl, Nat.le_of_ble_eq_true rfl⟩ ⟨Nat.le_of_ble_eq_true rfl, Nat.le_of_ble_eq_true rfl⟩ (Nat.le_of_ble_eq_true rfl) dX2_weigh_44 (ct_X2_kept  h) (fun z_27 st_28 h => ?_)
      exact J_reti rfl dX2_weigh_47 h
  · have h := h.2 hc
    refine J_iconst (-1) dX2_weigh_11 (by decide) ?_
    exact J_reti rfl dX2_weigh_12 h
/-! X2_heaviestFor -/
def P_X2_heaviestFor_40  (a0 : Nat) (a1 : Int32) (k7 : Int32 → Int32 → Int32 → St → Prop) (post : Int32 → St → Prop) (x2 : Int32) (x3 : Int32) (x4 : Int32) (st : St) : Prop := k7 x2 x3 (x4 + 1) st
def P_X2_heaviestFor_7  (a0 : Nat) (a1 : Int32)  (post : Int32 → St → Prop) : Nat → Int32 → Int32 → Int32 → St → Prop
  | 0, _, _, _, _ => False
  | n9 + 1, x2, x3, x4, st => ∃ r_1, rv st a0 2 0 = some r_1 ∧ fk r_1 3 0 = some 0 ∧ (((gI st r_1 0) ≤ x4 → post x2 st) ∧ (¬ (gI st r_1 0) ≤ x4 → oC a0 2 ∧ P_X2_weigh  a0 x4 a1 st (fun z_2 st_3 => ((z_2 ≤ x3 → P_X2_heaviestFor_40  a0 a1 (fun x2 x3 x4 st => P_X2_heaviestFor_7  a0 a1  post n9 x2 x3 x4 st) post x2 x3 x4 st_3) ∧ (¬ z_2 ≤ x3 → P_X2_heaviestFor_40  a0 a1 (fun x2 x3 x4 st => P_X2_heaviestFor_7  a0 a1  post n9 x2 x3 x4 st) post x4 z_2 x4 st_3)))))
def P_X2_heaviestFor  (a0 : Nat) (a1 : Int32) (st : St) (post : Int32 → St → Prop) : Prop := ∃ n8, P_X2_heaviestFor_7  a0 a1  post n8 (-1) (-1) 0 st
set_option maxRecDepth 100000 in
set_option maxHeartbeats 4000000 in
theorem K_X2_heaviestFor_40 {l : Launch} {E : En}   (a0 : Nat) (a1 : Int32) {k7 : Int32 → Int32 → Int32 → St → Prop} {post : Int32 → St → Prop}  (hk7 : ∀ (x2 : Int32) (x3 : Int32) (x4 : Int32) (st : St), k7 x2 x3 x4 st → Jg l E (CFc E) (Rm 4 0 0) cX2_heaviestFor 6 RX2 (some .int) (fun _ => True) (QI E post 0 0) 0 0 7 [(0, .ref a0), (1, .int a1), (2, .int x2), (3, .int x3), (4, .int x4)] [] st) (x2 : Int32) (x3 : Int32) (x4 : Int32) (st : St) (h : P_X2_heaviestFor_40  a0 a1 k7 post x2 x3 x4 st) : Jg l E (CFc E) (Rm 4 0 0) cX2_heaviestFor 6 RX2 (some .int) (fun _ => True) (QI E post 0 0) 0 0 40 [(0, .ref a0), (1, .int a1), (2, .int x2), (3, .int x3), (4, .int x4)] [] st := by
  unfold P_X2_heaviestFor_40 at h
  refine J_iinc 4 (x4 + 1) _ dX2_heaviestFor_40 rfl (by rfl) (by decide) rfl ?_
  refine J_goto 7 dX2_heaviestFor_43 (by decide) ?_
  exact J_lv [1, 2, 3, 4, 0] rfl (hk7 x2 x3 (x4 + 1) st h)
set_option maxRecDepth 100000 in
set_option maxHeartbeats 4000000 in
theorem K_X2_heaviestFor_7 {l : Launch} {E : En}   (a0 : Nat) (a1 : Int32)  {post : Int32 → St → Prop}   : ∀ (n9 : Nat) (x2 : Int32) (x3 : Int32) (x4 : Int32) (st : St), P_X2_heaviestFor_7  a0 a1  post n9 x2 x3 x4 st → Jg l E (CFc E) (Rm 4 0 0) cX2_heaviestFor 6 RX2 (some .int) (fun _ => True) (QI E post 0 0) 0 0 7 [(0, .ref a0), (1, .int a1), (2, .int x2), (3, .int x3), (4, .int x4)] [] st := by
  intro n9
  induction n9 with
  | zero => intro x2 x3 x4 st h; exact h.elim
  | succ n9 ih =>
    intro x2 x3 x4 st h
    unfold P_X2_heaviestFor_7 at h
    refine J_iload 4 dX2_heaviestFor_7 rfl ?_
    refine J_aload_n 0 dX2_heaviestFor_9 rfl rfl ?_
    obtain ⟨r_1, hf, h⟩ := h
    refine J_getR fl_RX2_23 dX2_heaviestFor_10 hf ?_
    obtain ⟨hf, h⟩ := h
    refine J_getI fl_RX2_46 dX2_heaviestFor_13 hf ?_
    refine J_icmp_ge 46 dX2_heaviestFor_16 (by decide) (fun hc => ?_) (fun hc => ?_)
    · have h := h.1 hc
      refine J_iload_n 2 dX2_heaviestFor_46 rfl rfl ?_
      exact J_reti rfl dX2_heaviestFor_47 h
    · have h := h.2 hc
      refine J_aload_n 0 dX2_heaviestFor_19 rfl rfl ?_
      refine J_iload 4 dX2_heaviestFor_20 rfl ?_
      refine J_iload_n 1 dX2_heaviestFor_22 rfl rfl ?_
      obtain ⟨ho, h⟩ := h
      refine J_cvi (As := [_, _]) md_X2_weigh k_195 (rc_obj cl_2 ho) rfl rfl ⟨Nat.le_of_ble_eq_true rfl, Nat.le_of_ble_eq_true rfl⟩ ⟨Nat.le_of_ble_eq_true rfl, Nat.le_of_ble_eq_true rfl⟩ (Nat.le_of_ble_eq_true rfl) dX2_heaviestFor_23 (ct_X2_weigh  h) (fun z_2 st_3 h => ?_)
      refine J_istore _ dX2_heaviestFor_26 (by decide) rfl ?_
      refine J_iload 0 dX2_heaviestFor_28 rfl ?_
      refine J_iload_n 4 dX2_heaviestFor_30 rfl rfl ?_
      refine J_icmp_le 40 dX2_heaviestFor_31 (by decide) (fun hc => ?_) (fun hc => ?_)
      · have h := h.1 hc
        exact J_lv [1, 2, 3, 4, 5] rfl (K_X2_heaviestFor_40   a0 a1 (fun x2 x3 x4 st h => ih x2 x3 x4 st h) x2 x3 x4 st_3 h)
      · have h := h.2 hc
        refine J_iload 0 dX2_heaviestFor_34 rfl ?_
        refine J_istore_n _ dX2_heaviestFor_36 rfl (by decide) rfl ?_
        refine J_iload 5 dX2_heaviestFor_37 rfl ?_
        refine J_istore_n _ dX2_heaviestFor_39 rfl (by decide) rfl ?_
        exact J_lv [3, 4, 0, 1, 5] rfl (K_X2_heaviestFor_40   a0 a1 (fun x2 x3 x4 st h => ih x2 x3 x4 st h) x4 z_2 x4 st_3 h)
set_option maxRecDepth 100000 in
set_option maxHeartbeats 4000000 in
theorem ct_X2_heaviestFor {l : Launch} {E : En}  {a0 : Nat} {a1 : Int32} {st : St} {post : Int32 → St → Prop} (h : P_X2_heaviestFor  a0 a1 st post) : CtI l E (CFc E) 4 0 0 yX2_heaviestFor cX2_heaviestFor 6 (some .int) [.ref a0, .int a1] st post := by
  refine ctI_of (by decide) (Nat.le_of_ble_eq_true rfl) ?_
  show Jg l E (CFc E) (Rm 4 0 0) cX2_heaviestFor 6 RX2 (some .int) (fun _ => True) (QI E post 0 0) 0 0 0 [(0, .ref a0), (1, .int a1)] [] st
  unfold P_X2_heaviestFor at h
  refine J_iconst (-1) dX2_heaviestFor_0 (by decide) ?_
  refine J_istore_n _ dX2_heaviestFor_1 rfl (by decide) rfl ?_
  refine J_iconst (-1) dX2_heaviestFor_2 (by decide) ?_
  refine J_istore_n _ dX2_heaviestFor_3 rfl (by decide) rfl ?_
  refine J_iconst 0 dX2_heaviestFor_4 (by decide) ?_
  refine J_istore _ dX2_heaviestFor_5 (by decide) rfl ?_
  obtain ⟨n8, h⟩ := h
  exact J_lv [3, 4, 2, 1, 0] rfl (K_X2_heaviestFor_7   a0 a1  n8 (-1) (-1) 0 st h)
/-! X2_giveAway -/
def P_X2_giveAway_29  (a0 : Nat) (a1 : Int32) (a2 : Int32)  (post : St → Prop) (s0 : Int32) (st : St) : Prop := ∃ r_1, rv st a0 2 3 = some r_1 ∧ vp_in a1 (al 0 r_1) ∧ ((0 < s0 → ∃ r_2, rv (sA st r_1 (a1 : Int32).toNatClampNeg s0) a0 2 1 = some r_2 ∧ vp_in ((38 + (a1 * 3)) + 2) (al 0 r_2) ∧ ∃ r_3, rv (sA (sA st r_1 (a1 : Int32).toNatClampNeg s0) r_2 ((38 + (a1 * 3)) + 2 : Int32).toNatClampNeg a2) a0 2 1 = some r_3 ∧ vp_in ((2 + (a2 * 4)) + 3) (al 0 r_3) ∧ vp_in ((2 + (a2 * 4)) + 3) (al 0 r_3) ∧ oC a0 2 ∧ P_X2_griefOf  a0 a2 (sA (sA (sA st r_1 (a1 : Int32).toNatClampNeg s0) r_2 ((38 + (a1 * 3)) + 2 : Int32).toNatClampNeg a2) r_3 ((2 + (a2 * 4)) + 3 : Int32).toNatClampNeg ((gA (sA (sA st r_1 (a1 : Int32).toNatClampNeg s0) r_2 ((38 + (a1 * 3)) + 2 : Int32).toNatClampNeg a2) r_3 ((2 + (a2 * 4)) + 3 : Int32).toNatClampNeg) ||| ((1 : Int32) <<< ((a1 : Int32) &&& 31)))) (fun z_4 st_5 => oC a0 2 ∧ P_X2_setGrief  a0 a2 (z_4 / 2) st_5 (fun st_7 => post st_7))) ∧ (¬ 0 < s0 → ∃ r_8, rv (sA st r_1 (a1 : Int32).toNatClampNeg s0) a0 2 1 = some r_8 ∧ vp_in 1 (al 0 r_8) ∧ vp_in 1 (al 0 r_8) ∧ post (sA (sA st r_1 (a1 : Int32).toNatClampNeg s0) r_8 (1 : Int32).toNatClampNeg ((gA (sA st r_1 (a1 : Int32).toNatClampNeg s0) r_8 (1 : Int32).toNatClampNeg) + 1))))
def P_X2_giveAway  (a0 : Nat) (a1 : Int32) (a2 : Int32) (st : St) (post : St → Prop) : Prop := ∃ r_1, rv st a0 2 1 = some r_1 ∧ vp_in ((38 + (a1 * 3)) + 1) (al 0 r_1) ∧ ((¬ a2 = (-1) → oC a0 2 ∧ P_X2_weigh  a0 a2 a1 (sA st r_1 ((38 + (a1 * 3)) + 1 : Int32).toNatClampNeg 0) (fun z_2 st_3 => P_X2_giveAway_29  a0 a1 a2  post z_2 st_3)) ∧ (a2 = (-1) → P_X2_giveAway_29  a0 a1 a2  post 0 (sA st r_1 ((38 + (a1 * 3)) + 1 : Int32).toNatClampNeg 0)))
set_option maxRecDepth 100000 in
set_option maxHeartbeats 4000000 in
theorem K_X2_giveAway_29 {l : Launch} {E : En}   (a0 : Nat) (a1 : Int32) (a2 : Int32)  {post : St → Prop}   (s0 : Int32) (st : St) (h : P_X2_giveAway_29  a0 a1 a2  post s0 st) : Jg l E (CFc E) (Rm 4 0 0) cX2_giveAway 4 RX2 none (fun _ => True) (QV E post 0 0) 0 0 29 [(0, .ref a0), (1, .int a1), (2, .int a2)] [.int s0] st := by
  unfold P_X2_giveAway_29 at h
  refine J_istore_n _ dX2_giveAway_29 rfl (by decide) rfl ?_
  refine J_aload_n 1 dX2_giveAway_30 rfl rfl ?_
  obtain ⟨r_1, hf, h⟩ := h
  refine J_getR fl_RX2_20 dX2_giveAway_31 hf ?_
  refine J_iload_n 2 dX2_giveAway_34 rfl rfl ?_
  refine J_iload_n 0 dX2_giveAway_35 rfl rfl ?_
  obtain ⟨hi, h⟩ := h
  refine J_iast dX2_giveAway_36 hi ?_
  refine J_iload_n 0 dX2_giveAway_37 rfl rfl ?_
  refine J_if_gt 52 dX2_giveAway_38 (by decide) (fun hc => ?_) (fun hc => ?_)
  · have h := h.1 hc
    refine J_aload_n 1 dX2_giveAway_52 rfl rfl ?_
    obtain ⟨r_2, hf, h⟩ := h
    refine J_getR fl_RX2_11 dX2_giveAway_53 hf ?_
    refine J_bipush 38 dX2_giveAway_56 (by decide) ?_
    refine J_iload_n 2 dX2_giveAway_58 rfl rfl ?_
    refine J_iconst 3 dX2_giveAway_59 (by decide) ?_
    refine J_imul dX2_giveAway_60 ?_
    refine J_iadd dX2_giveAway_61 ?_
    refine J_iconst 2 dX2_giveAway_62 (by decide) ?_
    refine J_iadd dX2_giveAway_63 ?_
    refine J_iload_n 3 dX2_giveAway_64 rfl rfl ?_
    obtain ⟨hi, h⟩ := h
    refine J_iast dX2_giveAway_65 hi ?_
    refine J_aload_n 1 dX2_giveAway_66 rfl rfl ?_
    obtain ⟨r_3, hf, h⟩ := h
    refine J_getR fl_RX2_11 dX2_giveAway_67 hf ?_
    refine J_iconst 2 dX2_giveAway_70 (by decide) ?_
    refine J_iload_n 3 dX2_giveAway_71 rfl rfl ?_
    refine J_iconst 4 dX2_giveAway_72 (by decide) ?_
    refine J_imul dX2_giveAway_73 ?_
    refine J_iadd dX2_giveAway_74 ?_
    refine J_iconst 3 dX2_giveAway_75 (by decide) ?_
    refine J_iadd dX2_giveAway_76 ?_
    refine J_dup2 dX2_giveAway_77 rfl rfl ?_
    obtain ⟨hi, h⟩ := h
    refine J_iald dX2_giveAway_78 hi ?_
    refine J_iconst 1 dX2_giveAway_79 (by decide) ?_
    refine J_iload_n 2 dX2_giveAway_80 rfl rfl ?_
    refine J_ishl dX2_giveAway_81 ?_
    refine J_ior dX2_giveAway_82 ?_
    obtain ⟨hi, h⟩ := h
    refine J_iast dX2_giveAway_83 hi ?_
    refine J_aload_n 1 dX2_giveAway_84 rfl rfl ?_
    refine J_iload_n 3 dX2_giveAway_85 rfl rfl ?_
    refine J_aload_n 1 dX2_giveAway_86 rfl rfl ?_
    refine J_iload_n 3 dX2_giveAway_87 rfl rfl ?_
    obtain ⟨ho, h⟩ := h
    refine J_cvi (As := [_]) md_X2_griefOf k_147 (rc_obj cl_2 ho) rfl rfl ⟨Nat.le_of_ble_eq_true rfl, Nat.le_of_ble_eq_true rfl⟩ ⟨Nat.le_of_ble_eq_true rfl, Nat.le_of_ble_eq_true rfl⟩ (Nat.le_of_ble_eq_true rfl) dX2_giveAway_88 (ct_X2_griefOf  h) (fun z_4 st_5 h => ?_)
    refine J_iconst 2 dX2_giveAway_91 (by decide) ?_
    refine J_idiv dX2_giveAway_92 (by decide) ?_
    obtain ⟨ho, h⟩ := h
    refine J_cvv (As := [_, _]) md_X2_setGrief k_199 (rc_obj cl_2 ho) rfl rfl ⟨Nat.le_of_ble_eq_true rfl, Nat.le_of_ble_eq_true rfl⟩ ⟨Nat.le_of_ble_eq_true rfl, Nat.le_of_ble_eq_true rfl⟩ (Nat.le_of_ble_eq_true rfl) dX2_giveAway_93 (ct_X2_setGrief  h) (fun st_7 h => ?_)
    exact J_retv rfl dX2_giveAway_96 h
  · have h := h.2 hc
    refine J_aload_n 1 dX2_giveAway_41 rfl rfl ?_
    obtain ⟨r_8, hf, h⟩ := h
    refine J_getR fl_RX2_11 dX2_giveAway_42 hf ?_
    refine J_iconst 1 dX2_giveAway_45 (by decide) ?_
    refine J_dup2 dX2_giveAway_46 rfl rfl ?_
    obtain ⟨hi, h⟩ := h
    refine J_iald dX2_giveAway_47 hi ?_
    refine J_iconst 1 dX2_giveAway_48 (by decide) ?_
    refine J_iadd dX2_giveAway_49 ?_
    obtain ⟨hi, h⟩ := h
    refine J_iast dX2_giveAway_50 hi ?_
    exact J_retv rfl dX2_giveAway_51 h
set_option maxRecDepth 100000 in
set_option maxHeartbeats 4000000 in
theorem ct_X2_giveAway {l : Launch} {E : En}  {a0 : Nat} {a1 : Int32} {a2 : Int32} {st : St} {post : St → Prop} (h : P_X2_giveAway  a0 a1 a2 st post) : CtV l E (CFc E) 4 0 0 yX2_giveAway cX2_giveAway 4 none [.ref a0, .int a1, .int a2] st post := by
  refine ctV_of (by decide) (Nat.le_of_ble_eq_true rfl) ?_
  show Jg l E (CFc E) (Rm 4 0 0) cX2_giveAway 4 RX2 none (fun _ => True) (QV E post 0 0) 0 0 0 [(0, .ref a0), (1, .int a1), (2, .int a2)] [] st
  unfold P_X2_giveAway at h
  refine J_aload_n 0 dX2_giveAway_0 rfl rfl ?_
  obtain ⟨r_1, hf, h⟩ := h
  refine J_getR fl_RX2_11 dX2_giveAway_1 hf ?_
  refine J_bipush 38 dX2_giveAway_4 (by decide) ?_
  refine J_iload_n 1 dX2_giveAway_6 rfl rfl ?_
  refine J_iconst 3 dX2_giveAway_7 (by decide) ?_
  refine J_imul dX2_giveAway_8 ?_
  refine J_iadd dX2_giveAway_9 ?_
  refine J_iconst 1 dX2_giveAway_10 (by decide) ?_
  refine J_iadd dX2_giveAway_11 ?_
  refine J_iconst 0 dX2_giveAway_12 (by decide) ?_
  obtain ⟨hi, h⟩ := h
  refine J_iast dX2_giveAway_13 hi ?_
  refine J_iload_n 2 dX2_giveAway_14 rfl rfl ?_
  refine J_iconst (-1) dX2_giveAway_15 (by decide) ?_
  refine J_icmp_ne 23 dX2_giveAway_16 (by decide) (fun hc => ?_) (fun hc => ?_)
  · have h := h.1 hc
    refine J_aload_n 0 dX2_giveAway_23 rfl rfl ?_
    refine J_iload_n 2 dX2_giveAway_24 rfl rfl ?_
    refine J_iload_n 1 dX2_giveAway_25 rfl rfl ?_
    obtain ⟨ho, h⟩ := h
    refine J_cvi (As := [_, _]) md_X2_weigh k_195 (rc_obj cl_2 ho) rfl rfl ⟨Nat.le_of_ble_eq_true rfl, Nat.le_of_ble_eq_true rfl⟩ ⟨Nat.le_of_ble_eq_true rfl, Nat.le_of_ble_eq_true rfl⟩ (Nat.le_of_ble_eq_true rfl) dX2_giveAway_26 (ct_X2_weigh  h) (fun z_2 st_3 h => ?_)
    exact J_lv [0, 1, 2] rfl (K_X2_giveAway_29   a0 a1 a2  z_2 st_3 h)
  · have h := h.2 hc
    refine J_iconst 0 dX2_giveAway_19 (by decide) ?_
    refine J_goto 29 dX2_giveAway_20 (by decide) ?_
    exact J_lv [0, 1, 2] rfl (K_X2_giveAway_29   a0 a1 a2  0 (sA st r_1 ((38 + (a1 * 3)) + 1 : Int32).toNatClampNeg 0) h)
/-! X2_mournedBy -/
def P_X2_mournedBy_60  (a0 : Nat) (a1 : Int32)  (post : Int32 → St → Prop) (s0 : Int32) (st : St) : Prop := post s0 st
def P_X2_mournedBy  (a0 : Nat) (a1 : Int32) (st : St) (post : Int32 → St → Prop) : Prop := ∃ r_1, rv st a0 2 0 = some r_1 ∧ ∃ r_2, rv st r_1 3 4 = some r_2 ∧ fk r_2 5 0 = some 0 ∧ (((gI st r_2 0) = 0 → ∃ r_3, rv st a0 2 0 = some r_3 ∧ ∃ r_4, rv st r_3 3 2 = some r_4 ∧ vp_in a1 (al 0 r_4) ∧ ((¬ (gA st r_4 (a1 : Int32).toNatClampNeg) = 3 → oC a0 2 ∧ P_X2_trainsOf  a0 a1 st (fun z_5 st_6 => P_X2_mournedBy_60  a0 a1  post z_5 st_6)) ∧ ((gA st r_4 (a1 : Int32).toNatClampNeg) = 3 → P_X2_mournedBy_60  a0 a1  post 0 st))) ∧ (¬ (gI st r_2 0) = 0 → oC a0 2 ∧ P_X2_setValuesOf  a0 a1 st (fun st_8 => ∃ r_9, rv st_8 a0 2 0 = some r_9 ∧ ∃ r_10, rv st_8 r_9 3 4 = some r_10 ∧ ∃ r_11, rv st_8 a0 2 2 = some r_11 ∧ oC r_10 5 ∧ P_X5_workOut  r_10 r_11 st_8 (fun z_12 st_13 => P_X2_kept  z_12 20 st_13 (fun z_14 st_15 => post z_14 st_15)))))
set_option maxRecDepth 100000 in
set_option maxHeartbeats 4000000 in
theorem K_X2_mournedBy_60 {l : Launch} {E : En}   (a0 : Nat) (a1 : Int32)  {post : Int32 → St → Prop}   (s0 : Int32) (st : St) (h : P_X2_mournedBy_60  a0 a1  post s0 st) : Jg l E (CFc E) (Rm 3 0 0) cX2_mournedBy 2 RX2 (some .int) (fun _ => True) (QI E post 0 0) 0 0 60 [(0, .ref a0), (1, .int a1)] [.int s0] st := by
  unfold P_X2_mournedBy_60 at h
  exact J_reti rfl dX2_mournedBy_60 h
set_option maxRecDepth 100000 in
set_option maxHeartbeats 4000000 in
theorem ct_X2_mournedBy {l : Launch} {E : En}  {a0 : Nat} {a1 : Int32} {st : St} {post : Int32 → St → Prop} (h : P_X2_mournedBy  a0 a1 st post) : CtI l E (CFc E) 3 0 0 yX2_mournedBy cX2_mournedBy 2 (some .int) [.ref a0, .int a1] st post := by
  refine ctI_of (by decide) (Nat.le_of_ble_eq_true rfl) ?_
  show Jg l E (CFc E) (Rm 3 0 0) cX2_mournedBy 2 RX2 (some .int) (fun _ => True) (QI E post 0 0) 0 0 0 [(0, .ref a0), (1, .int a1)] [] st
  unfold P_X2_mournedBy at h
  refine J_aload_n 0 dX2_mournedBy_0 rfl rfl ?_
  obtain ⟨r_1, hf, h⟩ := h
  refine J_getR fl_RX2_23 dX2_mournedBy_1 hf ?_
  obtain ⟨r_2, hf, h⟩ := h
  refine J_getR fl_RX2_133 dX2_mournedBy_4 hf ?_
  obtain ⟨hf, h⟩ := h
  refine J_getI fl_RX2_80 dX2_mournedBy_7 hf ?_
  refine J_if_eq 38 dX2_mournedBy_10 (by decide) (fun hc => ?_) (fun hc => ?_)
  · have h := h.1 hc
    refine J_aload_n 0 dX2_mournedBy_38 rfl rfl ?_
    obtain ⟨r_3, hf, h⟩ := h
    refine J_getR fl_RX2_23 dX2_mournedBy_39 hf ?_
    obtain ⟨r_4, hf, h⟩ := h
    refine J_getR fl_RX2_105 dX2_mournedBy_42 hf ?_
    refine J_iload_n 1 dX2_mournedBy_45 rfl rfl ?_
    obtain ⟨hi, h⟩ := h
    refine J_iald dX2_mournedBy_46 hi ?_
    refine J_iconst 3 dX2_mournedBy_47 (by decide) ?_
    refine J_icmp_ne 55 dX2_mournedBy_48 (by decide) (fun hc => ?_) (fun hc => ?_)
    · have h := h.1 hc
      refine J_aload_n 0 dX2_mournedBy_55 rfl rfl ?_
      refine J_iload_n 1 dX2_mournedBy_56 rfl rfl ?_
      obtain ⟨ho, h⟩ := h
      refine J_cvi (As := [_]) md_X2_trainsOf k_204 (rc_obj cl_2 ho) rfl rfl ⟨Nat.le_of_ble_eq_true rfl, Nat.le_of_ble_eq_true rfl⟩ ⟨Nat.le_of_ble_eq_true rfl, Nat.le_of_ble_eq_true rfl⟩ (Nat.le_of_ble_eq_true rfl) dX2_mournedBy_57 (ct_X2_trainsOf  h) (fun z_5 st_6 h => ?_)
      exact J_lv [0, 1] rfl (K_X2_mournedBy_60   a0 a1  z_5 st_6 h)
    · have h := h.2 hc
      refine J_iconst 0 dX2_mournedBy_51 (by decide) ?_
      refine J_goto 60 dX2_mournedBy_52 (by decide) ?_
      exact J_lv [0, 1] rfl (K_X2_mournedBy_60   a0 a1  0 st h)
  · have h := h.2 hc
    refine J_aload_n 0 dX2_mournedBy_13 rfl rfl ?_
    refine J_iload_n 1 dX2_mournedBy_14 rfl rfl ?_
    obtain ⟨ho, h⟩ := h
    refine J_cvv (As := [_]) md_X2_setValuesOf k_185 (rc_obj cl_2 ho) rfl rfl ⟨Nat.le_of_ble_eq_true rfl, Nat.le_of_ble_eq_true rfl⟩ ⟨Nat.le_of_ble_eq_true rfl, Nat.le_of_ble_eq_true rfl⟩ (Nat.le_of_ble_eq_true rfl) dX2_mournedBy_15 (ct_X2_setValuesOf  h) (fun st_8 h => ?_)
    refine J_aload_n 0 dX2_mournedBy_18 rfl rfl ?_
    obtain ⟨r_9, hf, h⟩ := h
    refine J_getR fl_RX2_23 dX2_mournedBy_19 hf ?_
    obtain ⟨r_10, hf, h⟩ := h
    refine J_getR fl_RX2_133 dX2_mournedBy_22 hf ?_
    refine J_aload_n 0 dX2_mournedBy_25 rfl rfl ?_
    obtain ⟨r_11, hf, h⟩ := h
    refine J_getR fl_RX2_17 dX2_mournedBy_26 hf ?_
    obtain ⟨ho, h⟩ := h
    refine J_cvi (As := [_]) md_X5_workOut k_191 (rc_obj cl_5 ho) rfl rfl ⟨Nat.le_of_ble_eq_true rfl, Nat.le_of_ble_eq_true rfl⟩ ⟨Nat.le_of_ble_eq_true rfl, Nat.le_of_ble_eq_true rfl⟩ (Nat.le_of_ble_eq_true rfl) dX2_mournedBy_29 (ct_X5_workOut  h) (fun z_12 st_13 h => ?_)
    refine J_bipush 20 dX2_mournedBy_32 (by decide) ?_
    refine J_csi (As := [_, _]) md_X2_kept k_183 rfl rfl ⟨Nat.le_of_ble_eq_true rfl, Nat.le_of_ble_eq_true rfl⟩ ⟨Nat.le_of_ble_eq_true rfl, Nat.le_of_ble_eq_true rfl⟩ (Nat.le_of_ble_eq_true rfl) dX2_mournedBy_34 (ct_X2_kept  h) (fun z_14 st_15 h => ?_)
    exact J_reti rfl dX2_mournedBy_37 h
/-! J1_charAt_3b067 -/
def P_J1_charAt_3b067  (a0 : Nat) (a1 : Int32) (st : St) (post : Int32 → St → Prop) : Prop := vOk a0 ∧ P_J0_checkIndex_df160  a1 (Int32.ofNat (kl a0)) st (fun st_2 => vOk a0 ∧ vp_in a1 (kl a0) ∧ narrow .char (.int ((((kb a0 (a1 : Int32).toNatClampNeg) &&& 255 : Int32).toUInt32 % 65536).toInt32)) = .int ((((kb a0 (a1 : Int32).toNatClampNeg) &&& 255 : Int32).toUInt32 % 65536).toInt32) ∧ post ((((kb a0 (a1 : Int32).toNatClampNeg) &&& 255 : Int32).toUInt32 % 65536).toInt32) st_2)
set_option maxRecDepth 100000 in
set_option maxHeartbeats 4000000 in
theorem ct_J1_charAt_3b067 {l : Launch} {E : En}  {a0 : Nat} {a1 : Int32} {st : St} {post : Int32 → St → Prop} (h : P_J1_charAt_3b067  a0 a1 st post) : CtI l E (CFc E) 3 0 0 yJ1_charAt_3b067 cJ1_charAt_3b067 2 (some .char) [.ref a0, .int a1] st post := by
  refine ctI_of (by decide) (Nat.le_of_ble_eq_true rfl) ?_
  show Jg l E (CFc E) (Rm 3 0 0) cJ1_charAt_3b067 2 RJ1 (some .char) (fun _ => True) (QI E post 0 0) 0 0 0 [(0, .ref a0), (1, .int a1)] [] st
  unfold P_J1_charAt_3b067 at h
  refine J_iload_n 1 dJ1_charAt_3b067_0 rfl rfl ?_
  refine J_aload_n 0 dJ1_charAt_3b067_1 rfl rfl ?_
  obtain ⟨hf, h⟩ := h
  refine J_kLen dJ1_charAt_3b067_2 hf ?_
  refine J_csv (As := [_, _]) md_J0_checkIndex_df160 k_262 rfl rfl ⟨Nat.le_of_ble_eq_true rfl, Nat.le_of_ble_eq_true rfl⟩ ⟨Nat.le_of_ble_eq_true rfl, Nat.le_of_ble_eq_true rfl⟩ (Nat.le_of_ble_eq_true rfl) dJ1_charAt_3b067_3 (ct_J0_checkIndex_df160  h) (fun st_2 h => ?_)
  refine J_aload_n 0 dJ1_charAt_3b067_6 rfl rfl ?_
  refine J_iload_n 1 dJ1_charAt_3b067_7 rfl rfl ?_
  obtain ⟨hf, hi, h⟩ := h
  refine J_kB dJ1_charAt_3b067_8 hf hi ?_
  refine J_sipush 255 dJ1_charAt_3b067_9 (by decide) ?_
  refine J_iand dJ1_charAt_3b067_12 ?_
  refine J_i2c dJ1_charAt_3b067_13 ?_
  exact J_retn rfl h.1 dJ1_charAt_3b067_14 h.2
/-! J0_indexOf_7cf53 -/
def P_J0_indexOf_7cf53_36  (a0 : Nat) (a1 : Int32) (a2 : Int32)  (post : Int32 → St → Prop) (s0 : Int32) (st : St) : Prop := post s0 st
def P_J0_indexOf_7cf53  (a0 : Nat) (a1 : Int32) (a2 : Int32) (st : St) (post : Int32 → St → Prop) : Prop := kOk a0 ∧ P_J0_isLatin1_aae02  a0 st (fun z_1 st_2 => ((z_1 = 0 → kOk a0 ∧ kOk a0 ∧ P_J0_length_8abf5  a0 st_2 (fun z_3 st_4 => False)) ∧ (¬ z_1 = 0 → kOk a0 ∧ kOk a0 ∧ P_J0_length_8abf5  a0 st_2 (fun z_5 st_6 => P_J1_indexOf_4cfef  (a0 + 1000) a1 a2 z_5 st_6 (fun z_7 st_8 => P_J0_indexOf_7cf53_36  a0 a1 a2  post z_7 st_8)))))
set_option maxRecDepth 100000 in
set_option maxHeartbeats 4000000 in
theorem K_J0_indexOf_7cf53_36 {l : Launch} {E : En}   (a0 : Nat) (a1 : Int32) (a2 : Int32)  {post : Int32 → St → Prop}   (s0 : Int32) (st : St) (h : P_J0_indexOf_7cf53_36  a0 a1 a2  post s0 st) : Jg l E (CFc E) (Rm 3 0 0) cJ0_indexOf_7cf53 3 RJ0 (some .int) (fun _ => True) (QI E post 0 0) 0 0 36 [(0, .ref a0), (1, .int a1), (2, .int a2)] [.int s0] st := by
  unfold P_J0_indexOf_7cf53_36 at h
  exact J_reti rfl dJ0_indexOf_7cf53_36 h
set_option maxRecDepth 100000 in
set_option maxHeartbeats 4000000 in
theorem ct_J0_indexOf_7cf53 {l : Launch} {E : En}  {a0 : Nat} {a1 : Int32} {a2 : Int32} {st : St} {post : Int32 → St → Prop} (h : P_J0_indexOf_7cf53  a0 a1 a2 st post) : CtI l E (CFc E) 3 0 0 yJ0_indexOf_7cf53 cJ0_indexOf_7cf53 3 (some .int) [.ref a0, .int a1, .int a2] st post := by
  refine ctI_of (by decide) (Nat.le_of_ble_eq_true rfl) ?_
  show Jg l E (CFc E) (Rm 3 0 0) cJ0_indexOf_7cf53 3 RJ0 (some .int) (fun _ => True) (QI E post 0 0) 0 0 0 [(0, .ref a0), (1, .int a1), (2, .int a2)] [] st
  unfold P_J0_indexOf_7cf53 at h
  refine J_aload_n 0 dJ0_indexOf_7cf53_0 rfl rfl ?_
  obtain ⟨ho, h⟩ := h
  refine J_cvi (As := []) md_J0_isLatin1_aae02 k_279 (rc_str ho) rfl rfl ⟨Nat.le_of_ble_eq_true rfl, Nat.le_of_ble_eq_true rfl⟩ ⟨Nat.le_of_ble_eq_true rfl, Nat.le_of_ble_eq_true rfl⟩ (Nat.le_of_ble_eq_true rfl) dJ0_indexOf_7cf53_1 (ct_J0_isLatin1_aae02  h) (fun z_1 st_2 h => ?_)
  refine J_if_eq 23 dJ0_indexOf_7cf53_4 (by decide) (fun hc => ?_) (fun hc => ?_)
  · have h := h.1 hc
    refine J_aload_n 0 dJ0_indexOf_7cf53_23 rfl rfl ?_
    obtain ⟨hf, h⟩ := h
    refine J_kV k_249 dJ0_indexOf_7cf53_24 hf ?_
    refine J_iload_n 1 dJ0_indexOf_7cf53_27 rfl rfl ?_
    refine J_iload_n 2 dJ0_indexOf_7cf53_28 rfl rfl ?_
    refine J_aload_n 0 dJ0_indexOf_7cf53_29 rfl rfl ?_
    obtain ⟨ho, h⟩ := h
    refine J_cvi (As := []) md_J0_length_8abf5 k_361 (rc_str ho) rfl rfl ⟨Nat.le_of_ble_eq_true rfl, Nat.le_of_ble_eq_true rfl⟩ ⟨Nat.le_of_ble_eq_true rfl, Nat.le_of_ble_eq_true rfl⟩ (Nat.le_of_ble_eq_true rfl) dJ0_indexOf_7cf53_30 (ct_J0_length_8abf5  h) (fun z_3 st_4 h => ?_)
    exact h.elim
  · have h := h.2 hc
    refine J_aload_n 0 dJ0_indexOf_7cf53_7 rfl rfl ?_
    obtain ⟨hf, h⟩ := h
    refine J_kV k_249 dJ0_indexOf_7cf53_8 hf ?_
    refine J_iload_n 1 dJ0_indexOf_7cf53_11 rfl rfl ?_
    refine J_iload_n 2 dJ0_indexOf_7cf53_12 rfl rfl ?_
    refine J_aload_n 0 dJ0_indexOf_7cf53_13 rfl rfl ?_
    obtain ⟨ho, h⟩ := h
    refine J_cvi (As := []) md_J0_length_8abf5 k_361 (rc_str ho) rfl rfl ⟨Nat.le_of_ble_eq_true rfl, Nat.le_of_ble_eq_true rfl⟩ ⟨Nat.le_of_ble_eq_true rfl, Nat.le_of_ble_eq_true rfl⟩ (Nat.le_of_ble_eq_true rfl) dJ0_indexOf_7cf53_14 (ct_J0_length_8abf5  h) (fun z_5 st_6 h => ?_)
    refine J_csi (As := [_, _, _, _]) md_J1_indexOf_4cfef k_362 rfl rfl ⟨Nat.le_of_ble_eq_true rfl, Nat.le_of_ble_eq_true rfl⟩ ⟨Nat.le_of_ble_eq_true rfl, Nat.le_of_ble_eq_true rfl⟩ (Nat.le_of_ble_eq_true rfl) dJ0_indexOf_7cf53_17 (ct_J1_indexOf_4cfef  h) (fun z_7 st_8 h => ?_)
    refine J_goto 36 dJ0_indexOf_7cf53_20 (by decide) ?_
    exact J_lv [0, 1, 2] rfl (K_J0_indexOf_7cf53_36   a0 a1 a2  z_7 st_8 h)
/-! X2_passDay -/
def P_X2_passDay_51  (a0 : Nat)  (post : St → Prop) : Nat → Int32 → St → Prop
  | 0, _, _ => False
  | n9 + 1, x1, st => ∃ r_1, rv st a0 2 0 = some r_1 ∧ fk r_1 3 0 = some 0 ∧ (((gI st r_1 0) ≤ x1 → ∃ r_2, rv st a0 2 1 = some r_2 ∧ vp_in 0 (al 0 r_2) ∧ vp_in 0 (al 0 r_2) ∧ post (sA st r_2 (0 : Int32).toNatClampNeg ((gA st r_2 (0 : Int32).toNatClampNeg) + 1))) ∧ (¬ (gI st r_1 0) ≤ x1 → oC a0 2 ∧ P_X2_griefOf  a0 x1 st (fun z_3 st_4 => oC a0 2 ∧ P_X2_mournedBy  a0 x1 st_4 (fun z_5 st_6 => oC a0 2 ∧ P_X2_setGrief  a0 x1 (if ((z_3 + z_5) : Int32) < 99 then (z_3 + z_5) else 99) st_6 (fun st_8 => oC a0 2 ∧ P_X2_onionsOf  a0 x1 st_8 (fun z_9 st_10 => oC a0 2 ∧ P_X2_setOnions  a0 x1 (if (0 : Int32) < (z_9 - 1) then (z_9 - 1) else 0) st_10 (fun st_12 => P_X2_passDay_51  a0  post n9 (x1 + 1) st_12)))))))
def P_X2_passDay_43  (a0 : Nat) (k2 : Int32 → St → Prop) (post : St → Prop) (x1 : Int32) (st : St) : Prop := k2 (x1 + 1) st
def P_X2_passDay_2  (a0 : Nat)  (post : St → Prop) : Nat → Int32 → St → Prop
  | 0, _, _ => False
  | n9 + 1, x1, st => ∃ r_1, rv st a0 2 0 = some r_1 ∧ fk r_1 3 1 = some 0 ∧ (((gI st r_1 1) ≤ x1 → ∃ n8, P_X2_passDay_51  a0  post n8 0 st) ∧ (¬ (gI st r_1 1) ≤ x1 → oC a0 2 ∧ P_X2_isHome  a0 x1 st (fun z_2 st_3 => ((z_2 = 0 → P_X2_passDay_43  a0 (fun x1 st => P_X2_passDay_2  a0  post n9 x1 st) post x1 st_3) ∧ (¬ z_2 = 0 → oC a0 2 ∧ P_X2_weddingOf  a0 x1 st_3 (fun z_4 st_5 => oC a0 2 ∧ P_X2_today  a0 st_5 (fun z_6 st_7 => ((¬ z_4 = z_6 → P_X2_passDay_43  a0 (fun x1 st => P_X2_passDay_2  a0  post n9 x1 st) post x1 st_7) ∧ (z_4 = z_6 → oC a0 2 ∧ P_X2_heaviestFor  a0 x1 st_7 (fun z_8 st_9 => oC a0 2 ∧ P_X2_giveAway  a0 x1 z_8 st_9 (fun st_11 => P_X2_passDay_43  a0 (fun x1 st => P_X2_passDay_2  a0  post n9 x1 st) post x1 st_11)))))))))))
def P_X2_passDay  (a0 : Nat) (st : St) (post : St → Prop) : Prop := ∃ n8, P_X2_passDay_2  a0  post n8 0 st
set_option maxRecDepth 100000 in
set_option maxHeartbeats 4000000 in
theorem K_X2_passDay_51 {l : Launch} {E : En}   (a0 : Nat)  {post : St → Prop}   : ∀ (n9 : Nat) (x1 : Int32) (st : St), P_X2_passDay_51  a0  post n9 x1 st → Jg l E (CFc E) (Rm 5 0 0) cX2_passDay 2 RX2 none (fun _ => True) (QV E post 0 0) 0 0 51 [(0, .ref a0), (1, .int x1)] [] st := by
  intro n9
  induction n9 with
  | zero => intro x1 st h; exact h.elim
  | succ n9 ih =>
    intro x1 st h
    unfold P_X2_passDay_51 at h
    refine J_iload_n 1 dX2_passDay_51 rfl rfl ?_
    refine J_aload_n 0 dX2_passDay_52 rfl rfl ?_
    obtain ⟨r_1, hf, h⟩ := h
    refine J_getR fl_RX2_23 dX2_passDay_53 hf ?_
    obtain ⟨hf, h⟩ := h
    refine J_getI fl_RX2_46 dX2_passDay_56 hf ?_
    refine J_icmp_ge 105 dX2_passDay_59 (by decide) (fun hc => ?_) (fun hc => ?_)
    · have h := h.1 hc
      refine J_aload_n 0 dX2_passDay_105 rfl rfl ?_
      obtain ⟨r_2, hf, h⟩ := h
      refine J_getR fl_RX2_11 dX2_passDay_106 hf ?_
      refine J_iconst 0 dX2_passDay_109 (by decide) ?_
      refine J_dup2 dX2_passDay_110 rfl rfl ?_
      obtain ⟨hi, h⟩ := h
      refine J_iald dX2_passDay_111 hi ?_
      refine J_iconst 1 dX2_passDay_112 (by decide) ?_
      refine J_iadd dX2_passDay_113 ?_
      obtain ⟨hi, h⟩ := h
      refine J_iast dX2_passDay_114 hi ?_
      exact J_retv rfl dX2_passDay_115 h
    · have h := h.2 hc
      refine J_aload_n 0 dX2_passDay_62 rfl rfl ?_
      refine J_iload_n 1 dX2_passDay_63 rfl rfl ?_
      refine J_bipush 99 dX2_passDay_64 (by decide) ?_
      refine J_aload_n 0 dX2_passDay_66 rfl rfl ?_
      refine J_iload_n 1 dX2_passDay_67 rfl rfl ?_
      obtain ⟨ho, h⟩ := h
      refine J_cvi (As := [_]) md_X2_griefOf k_147 (rc_obj cl_2 ho) rfl rfl ⟨Nat.le_of_ble_eq_true rfl, Nat.le_of_ble_eq_true rfl⟩ ⟨Nat.le_of_ble_eq_true rfl, Nat.le_of_ble_eq_true rfl⟩ (Nat.le_of_ble_eq_true rfl) dX2_passDay_68 (ct_X2_griefOf  h) (fun z_3 st_4 h => ?_)
      refine J_aload_n 0 dX2_passDay_71 rfl rfl ?_
      refine J_iload_n 1 dX2_passDay_72 rfl rfl ?_
      obtain ⟨ho, h⟩ := h
      refine J_cvi (As := [_]) md_X2_mournedBy k_214 (rc_obj cl_2 ho) rfl rfl ⟨Nat.le_of_ble_eq_true rfl, Nat.le_of_ble_eq_true rfl⟩ ⟨Nat.le_of_ble_eq_true rfl, Nat.le_of_ble_eq_true rfl⟩ (Nat.le_of_ble_eq_true rfl) dX2_passDay_73 (ct_X2_mournedBy  h) (fun z_5 st_6 h => ?_)
      refine J_iadd dX2_passDay_76 ?_
      refine J_mmin k_161 k_162 k_158 k_163 ⟨Nat.le_of_ble_eq_true rfl, Nat.le_of_ble_eq_true rfl, Nat.le_of_ble_eq_true rfl, Nat.le_of_ble_eq_true rfl⟩ dX2_passDay_77 ?_
      obtain ⟨ho, h⟩ := h
      refine J_cvv (As := [_, _]) md_X2_setGrief k_199 (rc_obj cl_2 ho) rfl rfl ⟨Nat.le_of_ble_eq_true rfl, Nat.le_of_ble_eq_true rfl⟩ ⟨Nat.le_of_ble_eq_true rfl, Nat.le_of_ble_eq_true rfl⟩ (Nat.le_of_ble_eq_true rfl) dX2_passDay_80 (ct_X2_setGrief  h) (fun st_8 h => ?_)
      refine J_aload_n 0 dX2_passDay_83 rfl rfl ?_
      refine J_iload_n 1 dX2_passDay_84 rfl rfl ?_
      refine J_iconst 0 dX2_passDay_85 (by decide) ?_
      refine J_aload_n 0 dX2_passDay_86 rfl rfl ?_
      refine J_iload_n 1 dX2_passDay_87 rfl rfl ?_
      obtain ⟨ho, h⟩ := h
      refine J_cvi (As := [_]) md_X2_onionsOf k_165 (rc_obj cl_2 ho) rfl rfl ⟨Nat.le_of_ble_eq_true rfl, Nat.le_of_ble_eq_true rfl⟩ ⟨Nat.le_of_ble_eq_true rfl, Nat.le_of_ble_eq_true rfl⟩ (Nat.le_of_ble_eq_true rfl) dX2_passDay_88 (ct_X2_onionsOf  h) (fun z_9 st_10 h => ?_)
      refine J_iconst 1 dX2_passDay_91 (by decide) ?_
      refine J_isub dX2_passDay_92 ?_
      refine J_mmax k_156 k_157 k_158 k_159 ⟨Nat.le_of_ble_eq_true rfl, Nat.le_of_ble_eq_true rfl, Nat.le_of_ble_eq_true rfl, Nat.le_of_ble_eq_true rfl⟩ dX2_passDay_93 ?_
      obtain ⟨ho, h⟩ := h
      refine J_cvv (As := [_, _]) md_X2_setOnions k_217 (rc_obj cl_2 ho) rfl rfl ⟨Nat.le_of_ble_eq_true rfl, Nat.le_of_ble_eq_true rfl⟩ ⟨Nat.le_of_ble_eq_true rfl, Nat.le_of_ble_eq_true rfl⟩ (Nat.le_of_ble_eq_true rfl) dX2_passDay_96 (ct_X2_setOnions  h) (fun st_12 h => ?_)
      refine J_iinc 1 (x1 + 1) _ dX2_passDay_99 rfl (by rfl) (by decide) rfl ?_
      refine J_goto 51 dX2_passDay_102 (by decide) ?_
      exact J_lv [1, 0] rfl (ih (x1 + 1) st_12 h)
set_option maxRecDepth 100000 in
set_option maxHeartbeats 4000000 in
theorem K_X2_passDay_43 {l : Launch} {E : En}   (a0 : Nat) {k2 : Int32 → St → Prop} {post : St → Prop}  (hk2 : ∀ (x1 : Int32) (st : St), k2 x1 st → Jg l E (CFc E) (Rm 5 0 0) cX2_passDay 2 RX2 none (fun _ => True) (QV E post 0 0) 0 0 2 [(0, .ref a0), (1, .int x1)] [] st) (x1 : Int32) (st : St) (h : P_X2_passDay_43  a0 k2 post x1 st) : Jg l E (CFc E) (Rm 5 0 0) cX2_passDay 2 RX2 none (fun _ => True) (QV E post 0 0) 0 0 43 [(0, .ref a0), (1, .int x1)] [] st := by
  unfold P_X2_passDay_43 at h
  refine J_iinc 1 (x1 + 1) _ dX2_passDay_43 rfl (by rfl) (by decide) rfl ?_
  refine J_goto 2 dX2_passDay_46 (by decide) ?_
  exact J_lv [1, 0] rfl (hk2 (x1 + 1) st h)
set_option maxRecDepth 100000 in
set_option maxHeartbeats 4000000 in
theorem K_X2_passDay_2 {l : Launch} {E : En}   (a0 : Nat)  {post : St → Prop}   : ∀ (n9 : Nat) (x1 : Int32) (st : St), P_X2_passDay_2  a0  post n9 x1 st → Jg l E (CFc E) (Rm 5 0 0) cX2_passDay 2 RX2 none (fun _ => True) (QV E post 0 0) 0 0 2 [(0, .ref a0), (1, .int x1)] [] st := by
  intro n9
  induction n9 with
  | zero => intro x1 st h; exact h.elim
  | succ n9 ih =>
    intro x1 st h
    unfold P_X2_passDay_2 at h
    refine J_iload_n 1 dX2_passDay_2 rfl rfl ?_
    refine J_aload_n 0 dX2_passDay_3 rfl rfl ?_
    obtain ⟨r_1, hf, h⟩ := h
    refine J_getR fl_RX2_23 dX2_passDay_4 hf ?_
    obtain ⟨hf, h⟩ := h
    refine J_getI fl_RX2_38 dX2_passDay_7 hf ?_
    refine J_icmp_ge 49 dX2_passDay_10 (by decide) (fun hc => ?_) (fun hc => ?_)
    · have h := h.1 hc
      refine J_iconst 0 dX2_passDay_49 (by decide) ?_
      refine J_istore_n _ dX2_passDay_50 rfl (by decide) rfl ?_
      obtain ⟨n8, h⟩ := h
      exact J_lv [1, 0] rfl (K_X2_passDay_51   a0  n8 0 st h)
    · have h := h.2 hc
      refine J_aload_n 0 dX2_passDay_13 rfl rfl ?_
      refine J_iload_n 1 dX2_passDay_14 rfl rfl ?_
      obtain ⟨ho, h⟩ := h
      refine J_cvi (As := [_]) md_X2_isHome k_143 (rc_obj cl_2 ho) rfl rfl ⟨Nat.le_of_ble_eq_true rfl, Nat.le_of_ble_eq_true rfl⟩ ⟨Nat.le_of_ble_eq_true rfl, Nat.le_of_ble_eq_true rfl⟩ (Nat.le_of_ble_eq_true rfl) dX2_passDay_15 (ct_X2_isHome  h) (fun z_2 st_3 h => ?_)
      refine J_if_eq 43 dX2_passDay_18 (by decide) (fun hc => ?_) (fun hc => ?_)
      · have h := h.1 hc
        exact J_lv [0, 1] rfl (K_X2_passDay_43   a0 (fun x1 st h => ih x1 st h) x1 st_3 h)
      · have h := h.2 hc
        refine J_aload_n 0 dX2_passDay_21 rfl rfl ?_
        refine J_iload_n 1 dX2_passDay_22 rfl rfl ?_
        obtain ⟨ho, h⟩ := h
        refine J_cvi (As := [_]) md_X2_weddingOf k_151 (rc_obj cl_2 ho) rfl rfl ⟨Nat.le_of_ble_eq_true rfl, Nat.le_of_ble_eq_true rfl⟩ ⟨Nat.le_of_ble_eq_true rfl, Nat.le_of_ble_eq_true rfl⟩ (Nat.le_of_ble_eq_true rfl) dX2_passDay_23 (ct_X2_weddingOf  h) (fun z_4 st_5 h => ?_)
        refine J_aload_n 0 dX2_passDay_26 rfl rfl ?_
        obtain ⟨ho, h⟩ := h
        refine J_cvi (As := []) md_X2_today k_171 (rc_obj cl_2 ho) rfl rfl ⟨Nat.le_of_ble_eq_true rfl, Nat.le_of_ble_eq_true rfl⟩ ⟨Nat.le_of_ble_eq_true rfl, Nat.le_of_ble_eq_true rfl⟩ (Nat.le_of_ble_eq_true rfl) dX2_passDay_27 (ct_X2_today  h) (fun z_6 st_7 h => ?_)
        refine J_icmp_ne 43 dX2_passDay_30 (by decide) (fun hc => ?_) (fun hc => ?_)
        · have h := h.1 hc
          exact J_lv [0, 1] rfl (K_X2_passDay_43   a0 (fun x1 st h => ih x1 st h) x1 st_7 h)
        · have h := h.2 hc
          refine J_aload_n 0 dX2_passDay_33 rfl rfl ?_
          refine J_iload_n 1 dX2_passDay_34 rfl rfl ?_
          refine J_aload_n 0 dX2_passDay_35 rfl rfl ?_
          refine J_iload_n 1 dX2_passDay_36 rfl rfl ?_
          obtain ⟨ho, h⟩ := h
          refine J_cvi (As := [_]) md_X2_heaviestFor k_208 (rc_obj cl_2 ho) rfl rfl ⟨Nat.le_of_ble_eq_true rfl, Nat.le_of_ble_eq_true rfl⟩ ⟨Nat.le_of_ble_eq_true rfl, Nat.le_of_ble_eq_true rfl⟩ (Nat.le_of_ble_eq_true rfl) dX2_passDay_37 (ct_X2_heaviestFor  h) (fun z_8 st_9 h => ?_)
          obtain ⟨ho, h⟩ := h
          refine J_cvv (As := [_, _]) md_X2_giveAway k_211 (rc_obj cl_2 ho) rfl rfl ⟨Nat.le_of_ble_eq_true rfl, Nat.le_of_ble_eq_true rfl⟩ ⟨Nat.le_of_ble_eq_true rfl, Nat.le_of_ble_eq_true rfl⟩ (Nat.le_of_ble_eq_true rfl) dX2_passDay_40 (ct_X2_giveAway  h) (fun st_11 h => ?_)
          exact J_lv [0, 1] rfl (K_X2_passDay_43   a0 (fun x1 st h => ih x1 st h) x1 st_11 h)
set_option maxRecDepth 100000 in
set_option maxHeartbeats 4000000 in
theorem ct_X2_passDay {l : Launch} {E : En}  {a0 : Nat} {st : St} {post : St → Prop} (h : P_X2_passDay  a0 st post) : CtV l E (CFc E) 5 0 0 yX2_passDay cX2_passDay 2 none [.ref a0] st post := by
  refine ctV_of (by decide) (Nat.le_of_ble_eq_true rfl) ?_
  show Jg l E (CFc E) (Rm 5 0 0) cX2_passDay 2 RX2 none (fun _ => True) (QV E post 0 0) 0 0 0 [(0, .ref a0)] [] st
  unfold P_X2_passDay at h
  refine J_iconst 0 dX2_passDay_0 (by decide) ?_
  refine J_istore_n _ dX2_passDay_1 rfl (by decide) rfl ?_
  obtain ⟨n8, h⟩ := h
  exact J_lv [1, 0] rfl (K_X2_passDay_2   a0  n8 0 st h)
/-! J0_charAt_5068e -/
def P_J0_charAt_5068e  (a0 : Nat) (a1 : Int32) (st : St) (post : Int32 → St → Prop) : Prop := kOk a0 ∧ P_J0_isLatin1_aae02  a0 st (fun z_1 st_2 => ((z_1 = 0 → kOk a0 ∧ False) ∧ (¬ z_1 = 0 → kOk a0 ∧ P_J1_charAt_3b067  (a0 + 1000) a1 st_2 (fun z_3 st_4 => narrow .char (.int z_3) = .int z_3 ∧ post z_3 st_4))))
set_option maxRecDepth 100000 in
set_option maxHeartbeats 4000000 in
theorem ct_J0_charAt_5068e {l : Launch} {E : En}  {a0 : Nat} {a1 : Int32} {st : St} {post : Int32 → St → Prop} (h : P_J0_charAt_5068e  a0 a1 st post) : CtI l E (CFc E) 4 0 0 yJ0_charAt_5068e cJ0_charAt_5068e 2 (some .char) [.ref a0, .int a1] st post := by
  refine ctI_of (by decide) (Nat.le_of_ble_eq_true rfl) ?_
  show Jg l E (CFc E) (Rm 4 0 0) cJ0_charAt_5068e 2 RJ0 (some .char) (fun _ => True) (QI E post 0 0) 0 0 0 [(0, .ref a0), (1, .int a1)] [] st
  unfold P_J0_charAt_5068e at h
  refine J_aload_n 0 dJ0_charAt_5068e_0 rfl rfl ?_
  obtain ⟨ho, h⟩ := h
  refine J_cvi (As := []) md_J0_isLatin1_aae02 k_279 (rc_str ho) rfl rfl ⟨Nat.le_of_ble_eq_true rfl, Nat.le_of_ble_eq_true rfl⟩ ⟨Nat.le_of_ble_eq_true rfl, Nat.le_of_ble_eq_true rfl⟩ (Nat.le_of_ble_eq_true rfl) dJ0_charAt_5068e_1 (ct_J0_isLatin1_aae02  h) (fun z_1 st_2 h => ?_)
  refine J_if_eq 16 dJ0_charAt_5068e_4 (by decide) (fun hc => ?_) (fun hc => ?_)
  · have h := h.1 hc
    refine J_aload_n 0 dJ0_charAt_5068e_16 rfl rfl ?_
    obtain ⟨hf, h⟩ := h
    refine J_kV k_249 dJ0_charAt_5068e_17 hf ?_
    refine J_iload_n 1 dJ0_charAt_5068e_20 rfl rfl ?_
    exact h.elim
  · have h := h.2 hc
    refine J_aload_n 0 dJ0_charAt_5068e_7 rfl rfl ?_
    obtain ⟨hf, h⟩ := h
    refine J_kV k_249 dJ0_charAt_5068e_8 hf ?_
    refine J_iload_n 1 dJ0_charAt_5068e_11 rfl rfl ?_
    refine J_csi (As := [_, _]) md_J1_charAt_3b067 k_282 rfl rfl ⟨Nat.le_of_ble_eq_true rfl, Nat.le_of_ble_eq_true rfl⟩ ⟨Nat.le_of_ble_eq_true rfl, Nat.le_of_ble_eq_true rfl⟩ (Nat.le_of_ble_eq_true rfl) dJ0_charAt_5068e_12 (ct_J1_charAt_3b067  h) (fun z_3 st_4 h => ?_)
    exact J_retn rfl h.1 dJ0_charAt_5068e_15 h.2
/-! J0_indexOf_0f7a4 -/
def P_J0_indexOf_0f7a4  (a0 : Nat) (a1 : Int32) (st : St) (post : Int32 → St → Prop) : Prop := kOk a0 ∧ P_J0_indexOf_7cf53  a0 a1 0 st (fun z_1 st_2 => post z_1 st_2)
set_option maxRecDepth 100000 in
set_option maxHeartbeats 4000000 in
theorem ct_J0_indexOf_0f7a4 {l : Launch} {E : En}  {a0 : Nat} {a1 : Int32} {st : St} {post : Int32 → St → Prop} (h : P_J0_indexOf_0f7a4  a0 a1 st post) : CtI l E (CFc E) 4 0 0 yJ0_indexOf_0f7a4 cJ0_indexOf_0f7a4 2 (some .int) [.ref a0, .int a1] st post := by
  refine ctI_of (by decide) (Nat.le_of_ble_eq_true rfl) ?_
  show Jg l E (CFc E) (Rm 4 0 0) cJ0_indexOf_0f7a4 2 RJ0 (some .int) (fun _ => True) (QI E post 0 0) 0 0 0 [(0, .ref a0), (1, .int a1)] [] st
  unfold P_J0_indexOf_0f7a4 at h
  refine J_aload_n 0 dJ0_indexOf_0f7a4_0 rfl rfl ?_
  refine J_iload_n 1 dJ0_indexOf_0f7a4_1 rfl rfl ?_
  refine J_iconst 0 dJ0_indexOf_0f7a4_2 (by decide) ?_
  obtain ⟨ho, h⟩ := h
  refine J_cvi (As := [_, _]) md_J0_indexOf_7cf53 k_367 (rc_str ho) rfl rfl ⟨Nat.le_of_ble_eq_true rfl, Nat.le_of_ble_eq_true rfl⟩ ⟨Nat.le_of_ble_eq_true rfl, Nat.le_of_ble_eq_true rfl⟩ (Nat.le_of_ble_eq_true rfl) dJ0_indexOf_0f7a4_3 (ct_J0_indexOf_7cf53  h) (fun z_1 st_2 h => ?_)
  exact J_reti rfl dJ0_indexOf_0f7a4_6 h
