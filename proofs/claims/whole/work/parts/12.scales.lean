/-! X6_weightOf -/
def P_X6_weightOf  (a0 : Nat) (a1 : Int32) (a2 : Int32) (st : St) (post : Int32 → St → Prop) : Prop := ∃ r_1, rv st a0 6 1 = some r_1 ∧ vp_in ((a1 * 6) + a2) (al 0 r_1) ∧ post (gA st r_1 ((a1 * 6) + a2 : Int32).toNatClampNeg) st
set_option maxRecDepth 100000 in
set_option maxHeartbeats 4000000 in
theorem ct_X6_weightOf {l : Launch} {E : En}  {a0 : Nat} {a1 : Int32} {a2 : Int32} {st : St} {post : Int32 → St → Prop} (h : P_X6_weightOf  a0 a1 a2 st post) : CtI l E (CFc E) 1 0 0 yX6_weightOf cX6_weightOf 3 (some .int) [.ref a0, .int a1, .int a2] st post := by
  refine ctI_of (by decide) (Nat.le_of_ble_eq_true rfl) ?_
  show Jg l E (CFc E) (Rm 1 0 0) cX6_weightOf 3 RX6 (some .int) (fun _ => True) (QI E post 0 0) 0 0 0 [(0, .ref a0), (1, .int a1), (2, .int a2)] [] st
  unfold P_X6_weightOf at h
  refine J_aload_n 0 dX6_weightOf_0 rfl rfl ?_
  obtain ⟨r_1, hf, h⟩ := h
  refine J_getR fl_RX6_9 dX6_weightOf_1 hf ?_
  refine J_iload_n 1 dX6_weightOf_4 rfl rfl ?_
  refine J_bipush 6 dX6_weightOf_5 (by decide) ?_
  refine J_imul dX6_weightOf_7 ?_
  refine J_iload_n 2 dX6_weightOf_8 rfl rfl ?_
  refine J_iadd dX6_weightOf_9 ?_
  obtain ⟨hi, h⟩ := h
  refine J_iald dX6_weightOf_10 hi ?_
  exact J_reti rfl dX6_weightOf_11 h
/-! X6_weightOfSet -/
def P_X6_weightOfSet_40  (a0 : Nat) (a1 : Int32) (a2 : Int32) (k5 : Int32 → Int32 → St → Prop) (post : Int32 → St → Prop) (x3 : Int32) (x4 : Int32) (st : St) : Prop := k5 x3 (x4 + 1) st
def P_X6_weightOfSet_5  (a0 : Nat) (a1 : Int32) (a2 : Int32)  (post : Int32 → St → Prop) : Nat → Int32 → Int32 → St → Prop
  | 0, _, _, _ => False
  | n9 + 1, x3, x4, st => ∃ r_1, rv st a0 6 0 = some r_1 ∧ ∃ r_2, rv st r_1 2 0 = some r_2 ∧ fk r_2 3 0 = some 0 ∧ (((gI st r_2 0) ≤ x4 → post x3 st) ∧ (¬ (gI st r_2 0) ≤ x4 → ((¬ (((a1 : Int32) >>> ((x4 : Int32) &&& 31)) &&& 1) = 1 → P_X6_weightOfSet_40  a0 a1 a2 (fun x3 x4 st => P_X6_weightOfSet_5  a0 a1 a2  post n9 x3 x4 st) post x3 x4 st) ∧ ((((a1 : Int32) >>> ((x4 : Int32) &&& 31)) &&& 1) = 1 → oC a0 6 ∧ P_X6_weightOf  a0 x4 a2 st (fun z_3 st_4 => P_X6_weightOfSet_40  a0 a1 a2 (fun x3 x4 st => P_X6_weightOfSet_5  a0 a1 a2  post n9 x3 x4 st) post (x3 + z_3) x4 st_4)))))
def P_X6_weightOfSet  (a0 : Nat) (a1 : Int32) (a2 : Int32) (st : St) (post : Int32 → St → Prop) : Prop := ∃ n8, P_X6_weightOfSet_5  a0 a1 a2  post n8 0 0 st
set_option maxRecDepth 100000 in
set_option maxHeartbeats 4000000 in
theorem K_X6_weightOfSet_40 {l : Launch} {E : En}   (a0 : Nat) (a1 : Int32) (a2 : Int32) {k5 : Int32 → Int32 → St → Prop} {post : Int32 → St → Prop}  (hk5 : ∀ (x3 : Int32) (x4 : Int32) (st : St), k5 x3 x4 st → Jg l E (CFc E) (Rm 2 0 0) cX6_weightOfSet 5 RX6 (some .int) (fun _ => True) (QI E post 0 0) 0 0 5 [(0, .ref a0), (1, .int a1), (2, .int a2), (3, .int x3), (4, .int x4)] [] st) (x3 : Int32) (x4 : Int32) (st : St) (h : P_X6_weightOfSet_40  a0 a1 a2 k5 post x3 x4 st) : Jg l E (CFc E) (Rm 2 0 0) cX6_weightOfSet 5 RX6 (some .int) (fun _ => True) (QI E post 0 0) 0 0 40 [(0, .ref a0), (1, .int a1), (2, .int a2), (3, .int x3), (4, .int x4)] [] st := by
  unfold P_X6_weightOfSet_40 at h
  refine J_iinc 4 (x4 + 1) _ dX6_weightOfSet_40 rfl (by rfl) (by decide) rfl ?_
  refine J_goto 5 dX6_weightOfSet_43 (by decide) ?_
  exact J_lv [1, 2, 3, 4, 0] rfl (hk5 x3 (x4 + 1) st h)
set_option maxRecDepth 100000 in
set_option maxHeartbeats 4000000 in
theorem K_X6_weightOfSet_5 {l : Launch} {E : En}   (a0 : Nat) (a1 : Int32) (a2 : Int32)  {post : Int32 → St → Prop}   : ∀ (n9 : Nat) (x3 : Int32) (x4 : Int32) (st : St), P_X6_weightOfSet_5  a0 a1 a2  post n9 x3 x4 st → Jg l E (CFc E) (Rm 2 0 0) cX6_weightOfSet 5 RX6 (some .int) (fun _ => True) (QI E post 0 0) 0 0 5 [(0, .ref a0), (1, .int a1), (2, .int a2), (3, .int x3), (4, .int x4)] [] st := by
  intro n9
  induction n9 with
  | zero => intro x3 x4 st h; exact h.elim
  | succ n9 ih =>
    intro x3 x4 st h
    unfold P_X6_weightOfSet_5 at h
    refine J_iload 4 dX6_weightOfSet_5 rfl ?_
    refine J_aload_n 0 dX6_weightOfSet_7 rfl rfl ?_
    obtain ⟨r_1, hf, h⟩ := h
    refine J_getR fl_RX6_18 dX6_weightOfSet_8 hf ?_
    obtain ⟨r_2, hf, h⟩ := h
    refine J_getR fl_RX6_22 dX6_weightOfSet_11 hf ?_
    obtain ⟨hf, h⟩ := h
    refine J_getI fl_RX6_28 dX6_weightOfSet_14 hf ?_
    refine J_icmp_ge 46 dX6_weightOfSet_17 (by decide) (fun hc => ?_) (fun hc => ?_)
    · have h := h.1 hc
      refine J_iload_n 3 dX6_weightOfSet_46 rfl rfl ?_
      exact J_reti rfl dX6_weightOfSet_47 h
    · have h := h.2 hc
      refine J_iload_n 1 dX6_weightOfSet_20 rfl rfl ?_
      refine J_iload 4 dX6_weightOfSet_21 rfl ?_
      refine J_ishr dX6_weightOfSet_23 ?_
      refine J_iconst 1 dX6_weightOfSet_24 (by decide) ?_
      refine J_iand dX6_weightOfSet_25 ?_
      refine J_iconst 1 dX6_weightOfSet_26 (by decide) ?_
      refine J_icmp_ne 40 dX6_weightOfSet_27 (by decide) (fun hc => ?_) (fun hc => ?_)
      · have h := h.1 hc
        exact J_lv [0, 1, 2, 3, 4] rfl (K_X6_weightOfSet_40   a0 a1 a2 (fun x3 x4 st h => ih x3 x4 st h) x3 x4 st h)
      · have h := h.2 hc
        refine J_iload_n 3 dX6_weightOfSet_30 rfl rfl ?_
        refine J_aload_n 0 dX6_weightOfSet_31 rfl rfl ?_
        refine J_iload 4 dX6_weightOfSet_32 rfl ?_
        refine J_iload_n 2 dX6_weightOfSet_34 rfl rfl ?_
        obtain ⟨ho, h⟩ := h
        refine J_cvi (As := [_, _]) md_X6_weightOf k_524 (rc_obj cl_6 ho) rfl rfl ⟨Nat.le_of_ble_eq_true rfl, Nat.le_of_ble_eq_true rfl⟩ ⟨Nat.le_of_ble_eq_true rfl, Nat.le_of_ble_eq_true rfl⟩ (Nat.le_of_ble_eq_true rfl) dX6_weightOfSet_35 (ct_X6_weightOf  h) (fun z_3 st_4 h => ?_)
        refine J_iadd dX6_weightOfSet_38 ?_
        refine J_istore_n _ dX6_weightOfSet_39 rfl (by decide) rfl ?_
        exact J_lv [1, 2, 3, 0, 4] rfl (K_X6_weightOfSet_40   a0 a1 a2 (fun x3 x4 st h => ih x3 x4 st h) (x3 + z_3) x4 st_4 h)
set_option maxRecDepth 100000 in
set_option maxHeartbeats 4000000 in
theorem ct_X6_weightOfSet {l : Launch} {E : En}  {a0 : Nat} {a1 : Int32} {a2 : Int32} {st : St} {post : Int32 → St → Prop} (h : P_X6_weightOfSet  a0 a1 a2 st post) : CtI l E (CFc E) 2 0 0 yX6_weightOfSet cX6_weightOfSet 5 (some .int) [.ref a0, .int a1, .int a2] st post := by
  refine ctI_of (by decide) (Nat.le_of_ble_eq_true rfl) ?_
  show Jg l E (CFc E) (Rm 2 0 0) cX6_weightOfSet 5 RX6 (some .int) (fun _ => True) (QI E post 0 0) 0 0 0 [(0, .ref a0), (1, .int a1), (2, .int a2)] [] st
  unfold P_X6_weightOfSet at h
  refine J_iconst 0 dX6_weightOfSet_0 (by decide) ?_
  refine J_istore_n _ dX6_weightOfSet_1 rfl (by decide) rfl ?_
  refine J_iconst 0 dX6_weightOfSet_2 (by decide) ?_
  refine J_istore _ dX6_weightOfSet_3 (by decide) rfl ?_
  obtain ⟨n8, h⟩ := h
  exact J_lv [2, 3, 4, 1, 0] rfl (K_X6_weightOfSet_5   a0 a1 a2  n8 0 0 st h)
/-! X6_pulls -/
def P_X6_pulls_24  (a0 : Nat) (a1 : Int32) (a2 : Int32) (a3 : Int32)  (post : Int32 → St → Prop) (s0 : Int32) (st : St) : Prop := (s0 = 0 ∨ s0 = 1) ∧ post s0 st
def P_X6_pulls  (a0 : Nat) (a1 : Int32) (a2 : Int32) (a3 : Int32) (st : St) (post : Int32 → St → Prop) : Prop := oC a0 6 ∧ P_X6_weightOfSet  a0 a1 a3 st (fun z_1 st_2 => oC a0 6 ∧ P_X6_weightOfSet  a0 (a2 &&& (a1 ^^^ (-1))) a3 st_2 (fun z_3 st_4 => ((z_1 ≤ z_3 → P_X6_pulls_24  a0 a1 a2 a3  post 0 st_4) ∧ (¬ z_1 ≤ z_3 → P_X6_pulls_24  a0 a1 a2 a3  post 1 st_4))))
set_option maxRecDepth 100000 in
set_option maxHeartbeats 4000000 in
theorem K_X6_pulls_24 {l : Launch} {E : En}   (a0 : Nat) (a1 : Int32) (a2 : Int32) (a3 : Int32)  {post : Int32 → St → Prop}   (s0 : Int32) (st : St) (h : P_X6_pulls_24  a0 a1 a2 a3  post s0 st) : Jg l E (CFc E) (Rm 3 0 0) cX6_pulls 4 RX6 (some .boolean) (fun _ => True) (QI E post 0 0) 0 0 24 [(0, .ref a0), (1, .int a1), (2, .int a2), (3, .int a3)] [.int s0] st := by
  unfold P_X6_pulls_24 at h
  exact J_retz rfl h.1 dX6_pulls_24 h.2
set_option maxRecDepth 100000 in
set_option maxHeartbeats 4000000 in
theorem ct_X6_pulls {l : Launch} {E : En}  {a0 : Nat} {a1 : Int32} {a2 : Int32} {a3 : Int32} {st : St} {post : Int32 → St → Prop} (h : P_X6_pulls  a0 a1 a2 a3 st post) : CtI l E (CFc E) 3 0 0 yX6_pulls cX6_pulls 4 (some .boolean) [.ref a0, .int a1, .int a2, .int a3] st post := by
  refine ctI_of (by decide) (Nat.le_of_ble_eq_true rfl) ?_
  show Jg l E (CFc E) (Rm 3 0 0) cX6_pulls 4 RX6 (some .boolean) (fun _ => True) (QI E post 0 0) 0 0 0 [(0, .ref a0), (1, .int a1), (2, .int a2), (3, .int a3)] [] st
  unfold P_X6_pulls at h
  refine J_aload_n 0 dX6_pulls_0 rfl rfl ?_
  refine J_iload_n 1 dX6_pulls_1 rfl rfl ?_
  refine J_iload_n 3 dX6_pulls_2 rfl rfl ?_
  obtain ⟨ho, h⟩ := h
  refine J_cvi (As := [_, _]) md_X6_weightOfSet k_530 (rc_obj cl_6 ho) rfl rfl ⟨Nat.le_of_ble_eq_true rfl, Nat.le_of_ble_eq_true rfl⟩ ⟨Nat.le_of_ble_eq_true rfl, Nat.le_of_ble_eq_true rfl⟩ (Nat.le_of_ble_eq_true rfl) dX6_pulls_3 (ct_X6_weightOfSet  h) (fun z_1 st_2 h => ?_)
  refine J_aload_n 0 dX6_pulls_6 rfl rfl ?_
  refine J_iload_n 2 dX6_pulls_7 rfl rfl ?_
  refine J_iload_n 1 dX6_pulls_8 rfl rfl ?_
  refine J_iconst (-1) dX6_pulls_9 (by decide) ?_
  refine J_ixor dX6_pulls_10 ?_
  refine J_iand dX6_pulls_11 ?_
  refine J_iload_n 3 dX6_pulls_12 rfl rfl ?_
  obtain ⟨ho, h⟩ := h
  refine J_cvi (As := [_, _]) md_X6_weightOfSet k_530 (rc_obj cl_6 ho) rfl rfl ⟨Nat.le_of_ble_eq_true rfl, Nat.le_of_ble_eq_true rfl⟩ ⟨Nat.le_of_ble_eq_true rfl, Nat.le_of_ble_eq_true rfl⟩ (Nat.le_of_ble_eq_true rfl) dX6_pulls_13 (ct_X6_weightOfSet  h) (fun z_3 st_4 h => ?_)
  refine J_icmp_le 23 dX6_pulls_16 (by decide) (fun hc => ?_) (fun hc => ?_)
  · have h := h.1 hc
    refine J_iconst 0 dX6_pulls_23 (by decide) ?_
    exact J_lv [0, 1, 2, 3] rfl (K_X6_pulls_24   a0 a1 a2 a3  0 st_4 h)
  · have h := h.2 hc
    refine J_iconst 1 dX6_pulls_19 (by decide) ?_
    refine J_goto 24 dX6_pulls_20 (by decide) ?_
    exact J_lv [0, 1, 2, 3] rfl (K_X6_pulls_24   a0 a1 a2 a3  1 st_4 h)
/-! X6_isFree -/
def P_X6_isFree_23  (a0 : Nat) (a1 : Int32) (a2 : Int32) (a3 : Int32)  (post : Int32 → St → Prop) (s0 : Int32) (st : St) : Prop := (s0 = 0 ∨ s0 = 1) ∧ post s0 st
def P_X6_isFree_22  (a0 : Nat) (a1 : Int32) (a2 : Int32) (a3 : Int32)  (post : Int32 → St → Prop)  (st : St) : Prop := P_X6_isFree_23  a0 a1 a2 a3  post 0 st
def P_X6_isFree  (a0 : Nat) (a1 : Int32) (a2 : Int32) (a3 : Int32) (st : St) (post : Int32 → St → Prop) : Prop := ((¬ (((a2 : Int32) >>> ((a1 : Int32) &&& 31)) &&& 1) = 0 → P_X6_isFree_22  a0 a1 a2 a3  post st) ∧ ((((a2 : Int32) >>> ((a1 : Int32) &&& 31)) &&& 1) = 0 → oC a0 6 ∧ P_X6_weightOf  a0 a1 a3 st (fun z_1 st_2 => ((z_1 = (-1) → P_X6_isFree_22  a0 a1 a2 a3  post st_2) ∧ (¬ z_1 = (-1) → P_X6_isFree_23  a0 a1 a2 a3  post 1 st_2)))))
set_option maxRecDepth 100000 in
set_option maxHeartbeats 4000000 in
theorem K_X6_isFree_23 {l : Launch} {E : En}   (a0 : Nat) (a1 : Int32) (a2 : Int32) (a3 : Int32)  {post : Int32 → St → Prop}   (s0 : Int32) (st : St) (h : P_X6_isFree_23  a0 a1 a2 a3  post s0 st) : Jg l E (CFc E) (Rm 2 0 0) cX6_isFree 4 RX6 (some .boolean) (fun _ => True) (QI E post 0 0) 0 0 23 [(0, .ref a0), (1, .int a1), (2, .int a2), (3, .int a3)] [.int s0] st := by
  unfold P_X6_isFree_23 at h
  exact J_retz rfl h.1 dX6_isFree_23 h.2
set_option maxRecDepth 100000 in
set_option maxHeartbeats 4000000 in
theorem K_X6_isFree_22 {l : Launch} {E : En}   (a0 : Nat) (a1 : Int32) (a2 : Int32) (a3 : Int32)  {post : Int32 → St → Prop}    (st : St) (h : P_X6_isFree_22  a0 a1 a2 a3  post  st) : Jg l E (CFc E) (Rm 2 0 0) cX6_isFree 4 RX6 (some .boolean) (fun _ => True) (QI E post 0 0) 0 0 22 [(0, .ref a0), (1, .int a1), (2, .int a2), (3, .int a3)] [] st := by
  unfold P_X6_isFree_22 at h
  refine J_iconst 0 dX6_isFree_22 (by decide) ?_
  exact J_lv [0, 1, 2, 3] rfl (K_X6_isFree_23   a0 a1 a2 a3  0 st h)
set_option maxRecDepth 100000 in
set_option maxHeartbeats 4000000 in
theorem ct_X6_isFree {l : Launch} {E : En}  {a0 : Nat} {a1 : Int32} {a2 : Int32} {a3 : Int32} {st : St} {post : Int32 → St → Prop} (h : P_X6_isFree  a0 a1 a2 a3 st post) : CtI l E (CFc E) 2 0 0 yX6_isFree cX6_isFree 4 (some .boolean) [.ref a0, .int a1, .int a2, .int a3] st post := by
  refine ctI_of (by decide) (Nat.le_of_ble_eq_true rfl) ?_
  show Jg l E (CFc E) (Rm 2 0 0) cX6_isFree 4 RX6 (some .boolean) (fun _ => True) (QI E post 0 0) 0 0 0 [(0, .ref a0), (1, .int a1), (2, .int a2), (3, .int a3)] [] st
  unfold P_X6_isFree at h
  refine J_iload_n 2 dX6_isFree_0 rfl rfl ?_
  refine J_iload_n 1 dX6_isFree_1 rfl rfl ?_
  refine J_ishr dX6_isFree_2 ?_
  refine J_iconst 1 dX6_isFree_3 (by decide) ?_
  refine J_iand dX6_isFree_4 ?_
  refine J_if_ne 22 dX6_isFree_5 (by decide) (fun hc => ?_) (fun hc => ?_)
  · have h := h.1 hc
    exact J_lv [0, 1, 2, 3] rfl (K_X6_isFree_22   a0 a1 a2 a3  st h)
  · have h := h.2 hc
    refine J_aload_n 0 dX6_isFree_8 rfl rfl ?_
    refine J_iload_n 1 dX6_isFree_9 rfl rfl ?_
    refine J_iload_n 3 dX6_isFree_10 rfl rfl ?_
    obtain ⟨ho, h⟩ := h
    refine J_cvi (As := [_, _]) md_X6_weightOf k_524 (rc_obj cl_6 ho) rfl rfl ⟨Nat.le_of_ble_eq_true rfl, Nat.le_of_ble_eq_true rfl⟩ ⟨Nat.le_of_ble_eq_true rfl, Nat.le_of_ble_eq_true rfl⟩ (Nat.le_of_ble_eq_true rfl) dX6_isFree_11 (ct_X6_weightOf  h) (fun z_1 st_2 h => ?_)
    refine J_iconst (-1) dX6_isFree_14 (by decide) ?_
    refine J_icmp_eq 22 dX6_isFree_15 (by decide) (fun hc => ?_) (fun hc => ?_)
    · have h := h.1 hc
      exact J_lv [0, 1, 2, 3] rfl (K_X6_isFree_22   a0 a1 a2 a3  st_2 h)
    · have h := h.2 hc
      refine J_iconst 1 dX6_isFree_18 (by decide) ?_
      refine J_goto 23 dX6_isFree_19 (by decide) ?_
      exact J_lv [0, 1, 2, 3] rfl (K_X6_isFree_23   a0 a1 a2 a3  1 st_2 h)
/-! X6_firstThatFits -/
def P_X6_firstThatFits_55  (a0 : Nat) (a1 : Int32) (a2 : Int32) (a3 : Int32) (k3 : Int32 → St → Prop) (post : Int32 → St → Prop) (x4 : Int32) (st : St) : Prop := k3 (x4 + 1) st
def P_X6_firstThatFits_3  (a0 : Nat) (a1 : Int32) (a2 : Int32) (a3 : Int32)  (post : Int32 → St → Prop) : Nat → Int32 → St → Prop
  | 0, _, _ => False
  | n9 + 1, x4, st => ∃ r_1, rv st a0 6 0 = some r_1 ∧ ∃ r_2, rv st r_1 2 0 = some r_2 ∧ fk r_2 3 0 = some 0 ∧ (((gI st r_2 0) ≤ x4 → post (-1) st) ∧ (¬ (gI st r_2 0) ≤ x4 → oC a0 6 ∧ P_X6_isFree  a0 x4 a2 a1 st (fun z_3 st_4 => ((z_3 = 0 → P_X6_firstThatFits_55  a0 a1 a2 a3 (fun x4 st => P_X6_firstThatFits_3  a0 a1 a2 a3  post n9 x4 st) post x4 st_4) ∧ (¬ z_3 = 0 → oC a0 6 ∧ P_X6_weightOf  a0 x4 a1 st_4 (fun z_5 st_6 => ∃ r_7, rv st_6 a0 6 2 = some r_7 ∧ vp_in (a2 ||| ((1 : Int32) <<< ((x4 : Int32) &&& 31))) (al 0 r_7) ∧ ((¬ (z_5 + (gA st_6 r_7 (a2 ||| ((1 : Int32) <<< ((x4 : Int32) &&& 31)) : Int32).toNatClampNeg)) = a3 → P_X6_firstThatFits_55  a0 a1 a2 a3 (fun x4 st => P_X6_firstThatFits_3  a0 a1 a2 a3  post n9 x4 st) post x4 st_6) ∧ ((z_5 + (gA st_6 r_7 (a2 ||| ((1 : Int32) <<< ((x4 : Int32) &&& 31)) : Int32).toNatClampNeg)) = a3 → post x4 st_6))))))))
def P_X6_firstThatFits  (a0 : Nat) (a1 : Int32) (a2 : Int32) (a3 : Int32) (st : St) (post : Int32 → St → Prop) : Prop := ∃ n8, P_X6_firstThatFits_3  a0 a1 a2 a3  post n8 0 st
set_option maxRecDepth 100000 in
set_option maxHeartbeats 4000000 in
theorem K_X6_firstThatFits_55 {l : Launch} {E : En}   (a0 : Nat) (a1 : Int32) (a2 : Int32) (a3 : Int32) {k3 : Int32 → St → Prop} {post : Int32 → St → Prop}  (hk3 : ∀ (x4 : Int32) (st : St), k3 x4 st → Jg l E (CFc E) (Rm 3 0 0) cX6_firstThatFits 5 RX6 (some .int) (fun _ => True) (QI E post 0 0) 0 0 3 [(0, .ref a0), (1, .int a1), (2, .int a2), (3, .int a3), (4, .int x4)] [] st) (x4 : Int32) (st : St) (h : P_X6_firstThatFits_55  a0 a1 a2 a3 k3 post x4 st) : Jg l E (CFc E) (Rm 3 0 0) cX6_firstThatFits 5 RX6 (some .int) (fun _ => True) (QI E post 0 0) 0 0 55 [(0, .ref a0), (1, .int a1), (2, .int a2), (3, .int a3), (4, .int x4)] [] st := by
  unfold P_X6_firstThatFits_55 at h
  refine J_iinc 4 (x4 + 1) _ dX6_firstThatFits_55 rfl (by rfl) (by decide) rfl ?_
  refine J_goto 3 dX6_firstThatFits_58 (by decide) ?_
  exact J_lv [1, 2, 3, 4, 0] rfl (hk3 (x4 + 1) st h)
set_option maxRecDepth 100000 in
set_option maxHeartbeats 4000000 in
theorem K_X6_firstThatFits_3 {l : Launch} {E : En}   (a0 : Nat) (a1 : Int32) (a2 : Int32) (a3 : Int32)  {post : Int32 → St → Prop}   : ∀ (n9 : Nat) (x4 : Int32) (st : St), P_X6_firstThatFits_3  a0 a1 a2 a3  post n9 x4 st → Jg l E (CFc E) (Rm 3 0 0) cX6_firstThatFits 5 RX6 (some .int) (fun _ => True) (QI E post 0 0) 0 0 3 [(0, .ref a0), (1, .int a1), (2, .int a2), (3, .int a3), (4, .int x4)] [] st := by
  intro n9
  induction n9 with
  | zero => intro x4 st h; exact h.elim
  | succ n9 ih =>
    intro x4 st h
    unfold P_X6_firstThatFits_3 at h
    refine J_iload 4 dX6_firstThatFits_3 rfl ?_
    refine J_aload_n 0 dX6_firstThatFits_5 rfl rfl ?_
    obtain ⟨r_1, hf, h⟩ := h
    refine J_getR fl_RX6_18 dX6_firstThatFits_6 hf ?_
    obtain ⟨r_2, hf, h⟩ := h
    refine J_getR fl_RX6_22 dX6_firstThatFits_9 hf ?_
    obtain ⟨hf, h⟩ := h
    refine J_getI fl_RX6_28 dX6_firstThatFits_12 hf ?_
    refine J_icmp_ge 61 dX6_firstThatFits_15 (by decide) (fun hc => ?_) (fun hc => ?_)
    · have h := h.1 hc
      refine J_iconst (-1) dX6_firstThatFits_61 (by decide) ?_
      exact J_reti rfl dX6_firstThatFits_62 h
    · have h := h.2 hc
      refine J_aload_n 0 dX6_firstThatFits_18 rfl rfl ?_
      refine J_iload 4 dX6_firstThatFits_19 rfl ?_
      refine J_iload_n 2 dX6_firstThatFits_21 rfl rfl ?_
      refine J_iload_n 1 dX6_firstThatFits_22 rfl rfl ?_
      obtain ⟨ho, h⟩ := h
      refine J_cvi (As := [_, _, _]) md_X6_isFree k_545 (rc_obj cl_6 ho) rfl rfl ⟨Nat.le_of_ble_eq_true rfl, Nat.le_of_ble_eq_true rfl⟩ ⟨Nat.le_of_ble_eq_true rfl, Nat.le_of_ble_eq_true rfl⟩ (Nat.le_of_ble_eq_true rfl) dX6_firstThatFits_23 (ct_X6_isFree  h) (fun z_3 st_4 h => ?_)
      refine J_if_eq 55 dX6_firstThatFits_26 (by decide) (fun hc => ?_) (fun hc => ?_)
      · have h := h.1 hc
        exact J_lv [0, 1, 2, 3, 4] rfl (K_X6_firstThatFits_55   a0 a1 a2 a3 (fun x4 st h => ih x4 st h) x4 st_4 h)
      · have h := h.2 hc
        refine J_aload_n 0 dX6_firstThatFits_29 rfl rfl ?_
        refine J_iload 4 dX6_firstThatFits_30 rfl ?_
        refine J_iload_n 1 dX6_firstThatFits_32 rfl rfl ?_
        obtain ⟨ho, h⟩ := h
        refine J_cvi (As := [_, _]) md_X6_weightOf k_524 (rc_obj cl_6 ho) rfl rfl ⟨Nat.le_of_ble_eq_true rfl, Nat.le_of_ble_eq_true rfl⟩ ⟨Nat.le_of_ble_eq_true rfl, Nat.le_of_ble_eq_true rfl⟩ (Nat.le_of_ble_eq_true rfl) dX6_firstThatFits_33 (ct_X6_weightOf  h) (fun z_5 st_6 h => ?_)
        refine J_aload_n 0 dX6_firstThatFits_36 rfl rfl ?_
        obtain ⟨r_7, hf, h⟩ := h
        refine J_getR fl_RX6_15 dX6_firstThatFits_37 hf ?_
        refine J_iload_n 2 dX6_firstThatFits_40 rfl rfl ?_
        refine J_iconst 1 dX6_firstThatFits_41 (by decide) ?_
        refine J_iload 4 dX6_firstThatFits_42 rfl ?_
        refine J_ishl dX6_firstThatFits_44 ?_
        refine J_ior dX6_firstThatFits_45 ?_
        obtain ⟨hi, h⟩ := h
        refine J_iald dX6_firstThatFits_46 hi ?_
        refine J_iadd dX6_firstThatFits_47 ?_
        refine J_iload_n 3 dX6_firstThatFits_48 rfl rfl ?_
        refine J_icmp_ne 55 dX6_firstThatFits_49 (by decide) (fun hc => ?_) (fun hc => ?_)
        · have h := h.1 hc
          exact J_lv [0, 1, 2, 3, 4] rfl (K_X6_firstThatFits_55   a0 a1 a2 a3 (fun x4 st h => ih x4 st h) x4 st_6 h)
        · have h := h.2 hc
          refine J_iload 4 dX6_firstThatFits_52 rfl ?_
          exact J_reti rfl dX6_firstThatFits_54 h
set_option maxRecDepth 100000 in
set_option maxHeartbeats 4000000 in
theorem ct_X6_firstThatFits {l : Launch} {E : En}  {a0 : Nat} {a1 : Int32} {a2 : Int32} {a3 : Int32} {st : St} {post : Int32 → St → Prop} (h : P_X6_firstThatFits  a0 a1 a2 a3 st post) : CtI l E (CFc E) 3 0 0 yX6_firstThatFits cX6_firstThatFits 5 (some .int) [.ref a0, .int a1, .int a2, .int a3] st post := by
  refine ctI_of (by decide) (Nat.le_of_ble_eq_true rfl) ?_
  show Jg l E (CFc E) (Rm 3 0 0) cX6_firstThatFits 5 RX6 (some .int) (fun _ => True) (QI E post 0 0) 0 0 0 [(0, .ref a0), (1, .int a1), (2, .int a2), (3, .int a3)] [] st
  unfold P_X6_firstThatFits at h
  refine J_iconst 0 dX6_firstThatFits_0 (by decide) ?_
  refine J_istore _ dX6_firstThatFits_1 (by decide) rfl ?_
  obtain ⟨n8, h⟩ := h
  exact J_lv [1, 2, 3, 4, 0] rfl (K_X6_firstThatFits_3   a0 a1 a2 a3  n8 0 st h)
/-! X6_mostWith -/
def P_X6_mostWith_60  (a0 : Nat) (a1 : Int32) (a2 : Int32) (k10 : Int32 → Int32 → St → Prop) (post : Int32 → St → Prop) (x3 : Int32) (x4 : Int32) (st : St) : Prop := k10 x3 (x4 + 1) st
def P_X6_mostWith_10  (a0 : Nat) (a1 : Int32) (a2 : Int32)  (post : Int32 → St → Prop) : Nat → Int32 → Int32 → St → Prop
  | 0, _, _, _ => False
  | n9 + 1, x3, x4, st => ∃ r_1, rv st a0 6 0 = some r_1 ∧ ∃ r_2, rv st r_1 2 0 = some r_2 ∧ fk r_2 3 0 = some 0 ∧ (((gI st r_2 0) ≤ x4 → post x3 st) ∧ (¬ (gI st r_2 0) ≤ x4 → oC a0 6 ∧ P_X6_isFree  a0 x4 a1 a2 st (fun z_3 st_4 => ((z_3 = 0 → P_X6_mostWith_60  a0 a1 a2 (fun x3 x4 st => P_X6_mostWith_10  a0 a1 a2  post n9 x3 x4 st) post x3 x4 st_4) ∧ (¬ z_3 = 0 → oC a0 6 ∧ P_X6_weightOf  a0 x4 a2 st_4 (fun z_5 st_6 => ∃ r_7, rv st_6 a0 6 2 = some r_7 ∧ vp_in (a1 ||| ((1 : Int32) <<< ((x4 : Int32) &&& 31))) (al 0 r_7) ∧ P_X6_mostWith_60  a0 a1 a2 (fun x3 x4 st => P_X6_mostWith_10  a0 a1 a2  post n9 x3 x4 st) post (if (x3 : Int32) < (z_5 + (gA st_6 r_7 (a1 ||| ((1 : Int32) <<< ((x4 : Int32) &&& 31)) : Int32).toNatClampNeg)) then (z_5 + (gA st_6 r_7 (a1 ||| ((1 : Int32) <<< ((x4 : Int32) &&& 31)) : Int32).toNatClampNeg)) else x3) x4 st_6))))))
def P_X6_mostWith  (a0 : Nat) (a1 : Int32) (a2 : Int32) (st : St) (post : Int32 → St → Prop) : Prop := ∃ r_1, rv st a0 6 2 = some r_1 ∧ vp_in a1 (al 0 r_1) ∧ ∃ n8, P_X6_mostWith_10  a0 a1 a2  post n8 (gA st r_1 (a1 : Int32).toNatClampNeg) 0 st
set_option maxRecDepth 100000 in
set_option maxHeartbeats 4000000 in
theorem K_X6_mostWith_60 {l : Launch} {E : En}   (a0 : Nat) (a1 : Int32) (a2 : Int32) {k10 : Int32 → Int32 → St → Prop} {post : Int32 → St → Prop}  (hk10 : ∀ (x3 : Int32) (x4 : Int32) (st : St), k10 x3 x4 st → Jg l E (CFc E) (Rm 3 0 0) cX6_mostWith 5 RX6 (some .int) (fun _ => True) (QI E post 0 0) 0 0 10 [(0, .ref a0), (1, .int a1), (2, .int a2), (3, .int x3), (4, .int x4)] [] st) (x3 : Int32) (x4 : Int32) (st : St) (h : P_X6_mostWith_60  a0 a1 a2 k10 post x3 x4 st) : Jg l E (CFc E) (Rm 3 0 0) cX6_mostWith 5 RX6 (some .int) (fun _ => True) (QI E post 0 0) 0 0 60 [(0, .ref a0), (1, .int a1), (2, .int a2), (3, .int x3), (4, .int x4)] [] st := by
  unfold P_X6_mostWith_60 at h
  refine J_iinc 4 (x4 + 1) _ dX6_mostWith_60 rfl (by rfl) (by decide) rfl ?_
  refine J_goto 10 dX6_mostWith_63 (by decide) ?_
  exact J_lv [1, 2, 3, 4, 0] rfl (hk10 x3 (x4 + 1) st h)
set_option maxRecDepth 100000 in
set_option maxHeartbeats 4000000 in
theorem K_X6_mostWith_10 {l : Launch} {E : En}   (a0 : Nat) (a1 : Int32) (a2 : Int32)  {post : Int32 → St → Prop}   : ∀ (n9 : Nat) (x3 : Int32) (x4 : Int32) (st : St), P_X6_mostWith_10  a0 a1 a2  post n9 x3 x4 st → Jg l E (CFc E) (Rm 3 0 0) cX6_mostWith 5 RX6 (some .int) (fun _ => True) (QI E post 0 0) 0 0 10 [(0, .ref a0), (1, .int a1), (2, .int a2), (3, .int x3), (4, .int x4)] [] st := by
  intro n9
  induction n9 with
  | zero => intro x3 x4 st h; exact h.elim
  | succ n9 ih =>
    intro x3 x4 st h
    unfold P_X6_mostWith_10 at h
    refine J_iload 4 dX6_mostWith_10 rfl ?_
    refine J_aload_n 0 dX6_mostWith_12 rfl rfl ?_
    obtain ⟨r_1, hf, h⟩ := h
    refine J_getR fl_RX6_18 dX6_mostWith_13 hf ?_
    obtain ⟨r_2, hf, h⟩ := h
    refine J_getR fl_RX6_22 dX6_mostWith_16 hf ?_
    obtain ⟨hf, h⟩ := h
    refine J_getI fl_RX6_28 dX6_mostWith_19 hf ?_
    refine J_icmp_ge 66 dX6_mostWith_22 (by decide) (fun hc => ?_) (fun hc => ?_)
    · have h := h.1 hc
      refine J_iload_n 3 dX6_mostWith_66 rfl rfl ?_
      exact J_reti rfl dX6_mostWith_67 h
    · have h := h.2 hc
      refine J_aload_n 0 dX6_mostWith_25 rfl rfl ?_
      refine J_iload 4 dX6_mostWith_26 rfl ?_
      refine J_iload_n 1 dX6_mostWith_28 rfl rfl ?_
      refine J_iload_n 2 dX6_mostWith_29 rfl rfl ?_
      obtain ⟨ho, h⟩ := h
      refine J_cvi (As := [_, _, _]) md_X6_isFree k_545 (rc_obj cl_6 ho) rfl rfl ⟨Nat.le_of_ble_eq_true rfl, Nat.le_of_ble_eq_true rfl⟩ ⟨Nat.le_of_ble_eq_true rfl, Nat.le_of_ble_eq_true rfl⟩ (Nat.le_of_ble_eq_true rfl) dX6_mostWith_30 (ct_X6_isFree  h) (fun z_3 st_4 h => ?_)
      refine J_if_eq 60 dX6_mostWith_33 (by decide) (fun hc => ?_) (fun hc => ?_)
      · have h := h.1 hc
        exact J_lv [0, 1, 2, 3, 4] rfl (K_X6_mostWith_60   a0 a1 a2 (fun x3 x4 st h => ih x3 x4 st h) x3 x4 st_4 h)
      · have h := h.2 hc
        refine J_iload_n 3 dX6_mostWith_36 rfl rfl ?_
        refine J_aload_n 0 dX6_mostWith_37 rfl rfl ?_
        refine J_iload 4 dX6_mostWith_38 rfl ?_
        refine J_iload_n 2 dX6_mostWith_40 rfl rfl ?_
        obtain ⟨ho, h⟩ := h
        refine J_cvi (As := [_, _]) md_X6_weightOf k_524 (rc_obj cl_6 ho) rfl rfl ⟨Nat.le_of_ble_eq_true rfl, Nat.le_of_ble_eq_true rfl⟩ ⟨Nat.le_of_ble_eq_true rfl, Nat.le_of_ble_eq_true rfl⟩ (Nat.le_of_ble_eq_true rfl) dX6_mostWith_41 (ct_X6_weightOf  h) (fun z_5 st_6 h => ?_)
        refine J_aload_n 0 dX6_mostWith_44 rfl rfl ?_
        obtain ⟨r_7, hf, h⟩ := h
        refine J_getR fl_RX6_15 dX6_mostWith_45 hf ?_
        refine J_iload_n 1 dX6_mostWith_48 rfl rfl ?_
        refine J_iconst 1 dX6_mostWith_49 (by decide) ?_
        refine J_iload 4 dX6_mostWith_50 rfl ?_
        refine J_ishl dX6_mostWith_52 ?_
        refine J_ior dX6_mostWith_53 ?_
        obtain ⟨hi, h⟩ := h
        refine J_iald dX6_mostWith_54 hi ?_
        refine J_iadd dX6_mostWith_55 ?_
        refine J_mmax k_544 k_157 k_158 k_159 ⟨Nat.le_of_ble_eq_true rfl, Nat.le_of_ble_eq_true rfl, Nat.le_of_ble_eq_true rfl, Nat.le_of_ble_eq_true rfl⟩ dX6_mostWith_56 ?_
        refine J_istore_n _ dX6_mostWith_59 rfl (by decide) rfl ?_
        exact J_lv [1, 2, 3, 0, 4] rfl (K_X6_mostWith_60   a0 a1 a2 (fun x3 x4 st h => ih x3 x4 st h) (if (x3 : Int32) < (z_5 + (gA st_6 r_7 (a1 ||| ((1 : Int32) <<< ((x4 : Int32) &&& 31)) : Int32).toNatClampNeg)) then (z_5 + (gA st_6 r_7 (a1 ||| ((1 : Int32) <<< ((x4 : Int32) &&& 31)) : Int32).toNatClampNeg)) else x3) x4 st_6 h)
set_option maxRecDepth 100000 in
set_option maxHeartbeats 4000000 in
theorem ct_X6_mostWith {l : Launch} {E : En}  {a0 : Nat} {a1 : Int32} {a2 : Int32} {st : St} {post : Int32 → St → Prop} (h : P_X6_mostWith  a0 a1 a2 st post) : CtI l E (CFc E) 3 0 0 yX6_mostWith cX6_mostWith 5 (some .int) [.ref a0, .int a1, .int a2] st post := by
  refine ctI_of (by decide) (Nat.le_of_ble_eq_true rfl) ?_
  show Jg l E (CFc E) (Rm 3 0 0) cX6_mostWith 5 RX6 (some .int) (fun _ => True) (QI E post 0 0) 0 0 0 [(0, .ref a0), (1, .int a1), (2, .int a2)] [] st
  unfold P_X6_mostWith at h
  refine J_aload_n 0 dX6_mostWith_0 rfl rfl ?_
  obtain ⟨r_1, hf, h⟩ := h
  refine J_getR fl_RX6_15 dX6_mostWith_1 hf ?_
  refine J_iload_n 1 dX6_mostWith_4 rfl rfl ?_
  obtain ⟨hi, h⟩ := h
  refine J_iald dX6_mostWith_5 hi ?_
  refine J_istore_n _ dX6_mostWith_6 rfl (by decide) rfl ?_
  refine J_iconst 0 dX6_mostWith_7 (by decide) ?_
  refine J_istore _ dX6_mostWith_8 (by decide) rfl ?_
  obtain ⟨n8, h⟩ := h
  exact J_lv [2, 3, 4, 1, 0] rfl (K_X6_mostWith_10   a0 a1 a2  n8 (gA st r_1 (a1 : Int32).toNatClampNeg) 0 st h)
/-! X6_weighFor -/
def P_X6_weighFor_2  (a0 : Nat) (a1 : Int32)  (post : St → Prop) : Nat → Int32 → St → Prop
  | 0, _, _ => False
  | n9 + 1, x2, st => ∃ r_1, rv st a0 6 0 = some r_1 ∧ ∃ r_2, rv st r_1 2 0 = some r_2 ∧ fk r_2 3 0 = some 0 ∧ (((gI st r_2 0) ≤ x2 → post st) ∧ (¬ (gI st r_2 0) ≤ x2 → ∃ r_3, rv st a0 6 1 = some r_3 ∧ ∃ r_4, rv st a0 6 0 = some r_4 ∧ oC r_4 2 ∧ P_X2_weigh  r_4 x2 a1 st (fun z_5 st_6 => vp_in ((x2 * 6) + a1) (al 0 r_3) ∧ P_X6_weighFor_2  a0 a1  post n9 (x2 + 1) (sA st_6 r_3 ((x2 * 6) + a1 : Int32).toNatClampNeg z_5))))
def P_X6_weighFor  (a0 : Nat) (a1 : Int32) (st : St) (post : St → Prop) : Prop := ∃ n8, P_X6_weighFor_2  a0 a1  post n8 0 st
set_option maxRecDepth 100000 in
set_option maxHeartbeats 4000000 in
theorem K_X6_weighFor_2 {l : Launch} {E : En}   (a0 : Nat) (a1 : Int32)  {post : St → Prop}   : ∀ (n9 : Nat) (x2 : Int32) (st : St), P_X6_weighFor_2  a0 a1  post n9 x2 st → Jg l E (CFc E) (Rm 4 0 0) cX6_weighFor 3 RX6 none (fun _ => True) (QV E post 0 0) 0 0 2 [(0, .ref a0), (1, .int a1), (2, .int x2)] [] st := by
  intro n9
  induction n9 with
  | zero => intro x2 st h; exact h.elim
  | succ n9 ih =>
    intro x2 st h
    unfold P_X6_weighFor_2 at h
    refine J_iload_n 2 dX6_weighFor_2 rfl rfl ?_
    refine J_aload_n 0 dX6_weighFor_3 rfl rfl ?_
    obtain ⟨r_1, hf, h⟩ := h
    refine J_getR fl_RX6_18 dX6_weighFor_4 hf ?_
    obtain ⟨r_2, hf, h⟩ := h
    refine J_getR fl_RX6_22 dX6_weighFor_7 hf ?_
    obtain ⟨hf, h⟩ := h
    refine J_getI fl_RX6_28 dX6_weighFor_10 hf ?_
    refine J_icmp_ge 42 dX6_weighFor_13 (by decide) (fun hc => ?_) (fun hc => ?_)
    · have h := h.1 hc
      exact J_retv rfl dX6_weighFor_42 h
    · have h := h.2 hc
      refine J_aload_n 0 dX6_weighFor_16 rfl rfl ?_
      obtain ⟨r_3, hf, h⟩ := h
      refine J_getR fl_RX6_9 dX6_weighFor_17 hf ?_
      refine J_iload_n 2 dX6_weighFor_20 rfl rfl ?_
      refine J_bipush 6 dX6_weighFor_21 (by decide) ?_
      refine J_imul dX6_weighFor_23 ?_
      refine J_iload_n 1 dX6_weighFor_24 rfl rfl ?_
      refine J_iadd dX6_weighFor_25 ?_
      refine J_aload_n 0 dX6_weighFor_26 rfl rfl ?_
      obtain ⟨r_4, hf, h⟩ := h
      refine J_getR fl_RX6_18 dX6_weighFor_27 hf ?_
      refine J_iload_n 2 dX6_weighFor_30 rfl rfl ?_
      refine J_iload_n 1 dX6_weighFor_31 rfl rfl ?_
      obtain ⟨ho, h⟩ := h
      refine J_cvi (As := [_, _]) md_X2_weigh k_517 (rc_obj cl_2 ho) rfl rfl ⟨Nat.le_of_ble_eq_true rfl, Nat.le_of_ble_eq_true rfl⟩ ⟨Nat.le_of_ble_eq_true rfl, Nat.le_of_ble_eq_true rfl⟩ (Nat.le_of_ble_eq_true rfl) dX6_weighFor_32 (ct_X2_weigh  h) (fun z_5 st_6 h => ?_)
      obtain ⟨hi, h⟩ := h
      refine J_iast dX6_weighFor_35 hi ?_
      refine J_iinc 2 (x2 + 1) _ dX6_weighFor_36 rfl (by rfl) (by decide) rfl ?_
      refine J_goto 2 dX6_weighFor_39 (by decide) ?_
      exact J_lv [1, 2, 0] rfl (ih (x2 + 1) (sA st_6 r_3 ((x2 * 6) + a1 : Int32).toNatClampNeg z_5) h)
set_option maxRecDepth 100000 in
set_option maxHeartbeats 4000000 in
theorem ct_X6_weighFor {l : Launch} {E : En}  {a0 : Nat} {a1 : Int32} {st : St} {post : St → Prop} (h : P_X6_weighFor  a0 a1 st post) : CtV l E (CFc E) 4 0 0 yX6_weighFor cX6_weighFor 3 none [.ref a0, .int a1] st post := by
  refine ctV_of (by decide) (Nat.le_of_ble_eq_true rfl) ?_
  show Jg l E (CFc E) (Rm 4 0 0) cX6_weighFor 3 RX6 none (fun _ => True) (QV E post 0 0) 0 0 0 [(0, .ref a0), (1, .int a1)] [] st
  unfold P_X6_weighFor at h
  refine J_iconst 0 dX6_weighFor_0 (by decide) ?_
  refine J_istore_n _ dX6_weighFor_1 rfl (by decide) rfl ?_
  obtain ⟨n8, h⟩ := h
  exact J_lv [1, 2, 0] rfl (K_X6_weighFor_2   a0 a1  n8 0 st h)
/-! X6_rankOf -/
def P_X6_rankOf_71  (a0 : Nat) (a1 : Int32) (a2 : Int32) (k25 : Int32 → Int32 → Int32 → St → Prop) (post : Int32 → St → Prop) (x3 : Int32) (x4 : Int32) (x5 : Int32) (st : St) : Prop := k25 x3 x4 (x5 + 1) st
def P_X6_rankOf_68  (a0 : Nat) (a1 : Int32) (a2 : Int32) (k25 : Int32 → Int32 → Int32 → St → Prop) (post : Int32 → St → Prop) (x3 : Int32) (x4 : Int32) (x5 : Int32) (st : St) : Prop := P_X6_rankOf_71  a0 a1 a2 k25 post x3 (x4 + 1) x5 st
def P_X6_rankOf_25  (a0 : Nat) (a1 : Int32) (a2 : Int32)  (post : Int32 → St → Prop) : Nat → Int32 → Int32 → Int32 → St → Prop
  | 0, _, _, _, _ => False
  | n9 + 1, x3, x4, x5, st => ∃ r_1, rv st a0 6 0 = some r_1 ∧ ∃ r_2, rv st r_1 2 0 = some r_2 ∧ fk r_2 3 0 = some 0 ∧ (((gI st r_2 0) ≤ x5 → post x4 st) ∧ (¬ (gI st r_2 0) ≤ x5 → oC a0 6 ∧ P_X6_weightOf  a0 x5 a2 st (fun z_3 st_4 => ((x3 < z_3 → P_X6_rankOf_68  a0 a1 a2 (fun x3 x4 x5 st => P_X6_rankOf_25  a0 a1 a2  post n9 x3 x4 x5 st) post x3 x4 x5 st_4) ∧ (¬ x3 < z_3 → oC a0 6 ∧ P_X6_weightOf  a0 x5 a2 st_4 (fun z_5 st_6 => ((¬ z_5 = x3 → P_X6_rankOf_71  a0 a1 a2 (fun x3 x4 x5 st => P_X6_rankOf_25  a0 a1 a2  post n9 x3 x4 x5 st) post x3 x4 x5 st_6) ∧ (z_5 = x3 → ((a1 ≤ x5 → P_X6_rankOf_71  a0 a1 a2 (fun x3 x4 x5 st => P_X6_rankOf_25  a0 a1 a2  post n9 x3 x4 x5 st) post x3 x4 x5 st_6) ∧ (¬ a1 ≤ x5 → P_X6_rankOf_68  a0 a1 a2 (fun x3 x4 x5 st => P_X6_rankOf_25  a0 a1 a2  post n9 x3 x4 x5 st) post x3 x4 x5 st_6))))))))))
def P_X6_rankOf  (a0 : Nat) (a1 : Int32) (a2 : Int32) (st : St) (post : Int32 → St → Prop) : Prop := oC a0 6 ∧ P_X6_weighFor  a0 a2 st (fun st_2 => oC a0 6 ∧ P_X6_weightOf  a0 a1 a2 st_2 (fun z_3 st_4 => ((¬ z_3 = (-1) → ∃ n8, P_X6_rankOf_25  a0 a1 a2  post n8 z_3 0 0 st_4) ∧ (z_3 = (-1) → post (-1) st_4))))
set_option maxRecDepth 100000 in
set_option maxHeartbeats 4000000 in
theorem K_X6_rankOf_71 {l : Launch} {E : En}   (a0 : Nat) (a1 : Int32) (a2 : Int32) {k25 : Int32 → Int32 → Int32 → St → Prop} {post : Int32 → St → Prop}  (hk25 : ∀ (x3 : Int32) (x4 : Int32) (x5 : Int32) (st : St), k25 x3 x4 x5 st → Jg l E (CFc E) (Rm 5 0 0) cX6_rankOf 6 RX6 (some .int) (fun _ => True) (QI E post 0 0) 0 0 25 [(0, .ref a0), (1, .int a1), (2, .int a2), (3, .int x3), (4, .int x4), (5, .int x5)] [] st) (x3 : Int32) (x4 : Int32) (x5 : Int32) (st : St) (h : P_X6_rankOf_71  a0 a1 a2 k25 post x3 x4 x5 st) : Jg l E (CFc E) (Rm 5 0 0) cX6_rankOf 6 RX6 (some .int) (fun _ => True) (QI E post 0 0) 0 0 71 [(0, .ref a0), (1, .int a1), (2, .int a2), (3, .int x3), (4, .int x4), (5, .int x5)] [] st := by
  unfold P_X6_rankOf_71 at h
  refine J_iinc 5 (x5 + 1) _ dX6_rankOf_71 rfl (by rfl) (by decide) rfl ?_
  refine J_goto 25 dX6_rankOf_74 (by decide) ?_
  exact J_lv [1, 2, 3, 4, 5, 0] rfl (hk25 x3 x4 (x5 + 1) st h)
set_option maxRecDepth 100000 in
set_option maxHeartbeats 4000000 in
theorem K_X6_rankOf_68 {l : Launch} {E : En}   (a0 : Nat) (a1 : Int32) (a2 : Int32) {k25 : Int32 → Int32 → Int32 → St → Prop} {post : Int32 → St → Prop}  (hk25 : ∀ (x3 : Int32) (x4 : Int32) (x5 : Int32) (st : St), k25 x3 x4 x5 st → Jg l E (CFc E) (Rm 5 0 0) cX6_rankOf 6 RX6 (some .int) (fun _ => True) (QI E post 0 0) 0 0 25 [(0, .ref a0), (1, .int a1), (2, .int a2), (3, .int x3), (4, .int x4), (5, .int x5)] [] st) (x3 : Int32) (x4 : Int32) (x5 : Int32) (st : St) (h : P_X6_rankOf_68  a0 a1 a2 k25 post x3 x4 x5 st) : Jg l E (CFc E) (Rm 5 0 0) cX6_rankOf 6 RX6 (some .int) (fun _ => True) (QI E post 0 0) 0 0 68 [(0, .ref a0), (1, .int a1), (2, .int a2), (3, .int x3), (4, .int x4), (5, .int x5)] [] st := by
  unfold P_X6_rankOf_68 at h
  refine J_iinc 4 (x4 + 1) _ dX6_rankOf_68 rfl (by rfl) (by decide) rfl ?_
  exact J_lv [1, 2, 3, 4, 0, 5] rfl (K_X6_rankOf_71   a0 a1 a2 hk25 x3 (x4 + 1) x5 st h)
set_option maxRecDepth 100000 in
set_option maxHeartbeats 4000000 in
theorem K_X6_rankOf_25 {l : Launch} {E : En}   (a0 : Nat) (a1 : Int32) (a2 : Int32)  {post : Int32 → St → Prop}   : ∀ (n9 : Nat) (x3 : Int32) (x4 : Int32) (x5 : Int32) (st : St), P_X6_rankOf_25  a0 a1 a2  post n9 x3 x4 x5 st → Jg l E (CFc E) (Rm 5 0 0) cX6_rankOf 6 RX6 (some .int) (fun _ => True) (QI E post 0 0) 0 0 25 [(0, .ref a0), (1, .int a1), (2, .int a2), (3, .int x3), (4, .int x4), (5, .int x5)] [] st := by
  intro n9
  induction n9 with
  | zero => intro x3 x4 x5 st h; exact h.elim
  | succ n9 ih =>
    intro x3 x4 x5 st h
    unfold P_X6_rankOf_25 at h
    refine J_iload 5 dX6_rankOf_25 rfl ?_
    refine J_aload_n 0 dX6_rankOf_27 rfl rfl ?_
    obtain ⟨r_1, hf, h⟩ := h
    refine J_getR fl_RX6_18 dX6_rankOf_28 hf ?_
    obtain ⟨r_2, hf, h⟩ := h
    refine J_getR fl_RX6_22 dX6_rankOf_31 hf ?_
    obtain ⟨hf, h⟩ := h
    refine J_getI fl_RX6_28 dX6_rankOf_34 hf ?_
    refine J_icmp_ge 77 dX6_rankOf_37 (by decide) (fun hc => ?_) (fun hc => ?_)
    · have h := h.1 hc
      refine J_iload 4 dX6_rankOf_77 rfl ?_
      exact J_reti rfl dX6_rankOf_79 h
    · have h := h.2 hc
      refine J_aload_n 0 dX6_rankOf_40 rfl rfl ?_
      refine J_iload 5 dX6_rankOf_41 rfl ?_
      refine J_iload_n 2 dX6_rankOf_43 rfl rfl ?_
      obtain ⟨ho, h⟩ := h
      refine J_cvi (As := [_, _]) md_X6_weightOf k_524 (rc_obj cl_6 ho) rfl rfl ⟨Nat.le_of_ble_eq_true rfl, Nat.le_of_ble_eq_true rfl⟩ ⟨Nat.le_of_ble_eq_true rfl, Nat.le_of_ble_eq_true rfl⟩ (Nat.le_of_ble_eq_true rfl) dX6_rankOf_44 (ct_X6_weightOf  h) (fun z_3 st_4 h => ?_)
      refine J_iload_n 3 dX6_rankOf_47 rfl rfl ?_
      refine J_icmp_gt 68 dX6_rankOf_48 (by decide) (fun hc => ?_) (fun hc => ?_)
      · have h := h.1 hc
        exact J_lv [0, 1, 2, 3, 4, 5] rfl (K_X6_rankOf_68   a0 a1 a2 (fun x3 x4 x5 st h => ih x3 x4 x5 st h) x3 x4 x5 st_4 h)
      · have h := h.2 hc
        refine J_aload_n 0 dX6_rankOf_51 rfl rfl ?_
        refine J_iload 5 dX6_rankOf_52 rfl ?_
        refine J_iload_n 2 dX6_rankOf_54 rfl rfl ?_
        obtain ⟨ho, h⟩ := h
        refine J_cvi (As := [_, _]) md_X6_weightOf k_524 (rc_obj cl_6 ho) rfl rfl ⟨Nat.le_of_ble_eq_true rfl, Nat.le_of_ble_eq_true rfl⟩ ⟨Nat.le_of_ble_eq_true rfl, Nat.le_of_ble_eq_true rfl⟩ (Nat.le_of_ble_eq_true rfl) dX6_rankOf_55 (ct_X6_weightOf  h) (fun z_5 st_6 h => ?_)
        refine J_iload_n 3 dX6_rankOf_58 rfl rfl ?_
        refine J_icmp_ne 71 dX6_rankOf_59 (by decide) (fun hc => ?_) (fun hc => ?_)
        · have h := h.1 hc
          exact J_lv [0, 1, 2, 3, 4, 5] rfl (K_X6_rankOf_71   a0 a1 a2 (fun x3 x4 x5 st h => ih x3 x4 x5 st h) x3 x4 x5 st_6 h)
        · have h := h.2 hc
          refine J_iload 5 dX6_rankOf_62 rfl ?_
          refine J_iload_n 1 dX6_rankOf_64 rfl rfl ?_
          refine J_icmp_ge 71 dX6_rankOf_65 (by decide) (fun hc => ?_) (fun hc => ?_)
          · have h := h.1 hc
            exact J_lv [0, 1, 2, 3, 4, 5] rfl (K_X6_rankOf_71   a0 a1 a2 (fun x3 x4 x5 st h => ih x3 x4 x5 st h) x3 x4 x5 st_6 h)
          · have h := h.2 hc
            exact J_lv [0, 1, 2, 3, 4, 5] rfl (K_X6_rankOf_68   a0 a1 a2 (fun x3 x4 x5 st h => ih x3 x4 x5 st h) x3 x4 x5 st_6 h)
set_option maxRecDepth 100000 in
set_option maxHeartbeats 4000000 in
theorem ct_X6_rankOf {l : Launch} {E : En}  {a0 : Nat} {a1 : Int32} {a2 : Int32} {st : St} {post : Int32 → St → Prop} (h : P_X6_rankOf  a0 a1 a2 st post) : CtI l E (CFc E) 5 0 0 yX6_rankOf cX6_rankOf 6 (some .int) [.ref a0, .int a1, .int a2] st post := by
  refine ctI_of (by decide) (Nat.le_of_ble_eq_true rfl) ?_
  show Jg l E (CFc E) (Rm 5 0 0) cX6_rankOf 6 RX6 (some .int) (fun _ => True) (QI E post 0 0) 0 0 0 [(0, .ref a0), (1, .int a1), (2, .int a2)] [] st
  unfold P_X6_rankOf at h
  refine J_aload_n 0 dX6_rankOf_0 rfl rfl ?_
  refine J_iload_n 2 dX6_rankOf_1 rfl rfl ?_
  obtain ⟨ho, h⟩ := h
  refine J_cvv (As := [_]) md_X6_weighFor k_520 (rc_obj cl_6 ho) rfl rfl ⟨Nat.le_of_ble_eq_true rfl, Nat.le_of_ble_eq_true rfl⟩ ⟨Nat.le_of_ble_eq_true rfl, Nat.le_of_ble_eq_true rfl⟩ (Nat.le_of_ble_eq_true rfl) dX6_rankOf_2 (ct_X6_weighFor  h) (fun st_2 h => ?_)
  refine J_aload_n 0 dX6_rankOf_5 rfl rfl ?_
  refine J_iload_n 1 dX6_rankOf_6 rfl rfl ?_
  refine J_iload_n 2 dX6_rankOf_7 rfl rfl ?_
  obtain ⟨ho, h⟩ := h
  refine J_cvi (As := [_, _]) md_X6_weightOf k_524 (rc_obj cl_6 ho) rfl rfl ⟨Nat.le_of_ble_eq_true rfl, Nat.le_of_ble_eq_true rfl⟩ ⟨Nat.le_of_ble_eq_true rfl, Nat.le_of_ble_eq_true rfl⟩ (Nat.le_of_ble_eq_true rfl) dX6_rankOf_8 (ct_X6_weightOf  h) (fun z_3 st_4 h => ?_)
  refine J_istore_n _ dX6_rankOf_11 rfl (by decide) rfl ?_
  refine J_iload_n 0 dX6_rankOf_12 rfl rfl ?_
  refine J_iconst (-1) dX6_rankOf_13 (by decide) ?_
  refine J_icmp_ne 19 dX6_rankOf_14 (by decide) (fun hc => ?_) (fun hc => ?_)
  · have h := h.1 hc
    refine J_iconst 0 dX6_rankOf_19 (by decide) ?_
    refine J_istore _ dX6_rankOf_20 (by decide) rfl ?_
    refine J_iconst 0 dX6_rankOf_22 (by decide) ?_
    refine J_istore _ dX6_rankOf_23 (by decide) rfl ?_
    obtain ⟨n8, h⟩ := h
    exact J_lv [3, 4, 5, 2, 1, 0] rfl (K_X6_rankOf_25   a0 a1 a2  n8 z_3 0 0 st_4 h)
  · have h := h.2 hc
    refine J_iconst (-1) dX6_rankOf_17 (by decide) ?_
    exact J_reti rfl dX6_rankOf_18 h
/-! X6_fewestThatPull -/
def P_X6_fewestThatPull_70  (a0 : Nat) (a1 : Int32) (k23 : Int32 → Int32 → Int32 → Int32 → St → Prop) (post : Int32 → St → Prop) (x2 : Int32) (x3 : Int32) (x4 : Int32) (x5 : Int32) (st : St) : Prop := k23 x2 x3 x4 (x5 + 1) st
def P_X6_fewestThatPull_23  (a0 : Nat) (a1 : Int32)  (post : Int32 → St → Prop) : Nat → Int32 → Int32 → Int32 → Int32 → St → Prop
  | 0, _, _, _, _, _ => False
  | n9 + 1, x2, x3, x4, x5, st => ((x2 < x5 → post x3 st) ∧ (¬ x2 < x5 → P_J6_bitCount_0f7a4  x5 st (fun z_1 st_2 => ((¬ (x5 &&& (x2 ^^^ (-1))) = 0 → P_X6_fewestThatPull_70  a0 a1 (fun x2 x3 x4 x5 st => P_X6_fewestThatPull_23  a0 a1  post n9 x2 x3 x4 x5 st) post x2 x3 x4 x5 st_2) ∧ ((x5 &&& (x2 ^^^ (-1))) = 0 → ((x4 ≤ z_1 → P_X6_fewestThatPull_70  a0 a1 (fun x2 x3 x4 x5 st => P_X6_fewestThatPull_23  a0 a1  post n9 x2 x3 x4 x5 st) post x2 x3 x4 x5 st_2) ∧ (¬ x4 ≤ z_1 → oC a0 6 ∧ P_X6_pulls  a0 x5 x2 a1 st_2 (fun z_3 st_4 => ((z_3 = 0 → P_X6_fewestThatPull_70  a0 a1 (fun x2 x3 x4 x5 st => P_X6_fewestThatPull_23  a0 a1  post n9 x2 x3 x4 x5 st) post x2 x3 x4 x5 st_4) ∧ (¬ z_3 = 0 → P_X6_fewestThatPull_70  a0 a1 (fun x2 x3 x4 x5 st => P_X6_fewestThatPull_23  a0 a1  post n9 x2 x3 x4 x5 st) post x2 x5 z_1 x5 st_4))))))))))
def P_X6_fewestThatPull  (a0 : Nat) (a1 : Int32) (st : St) (post : Int32 → St → Prop) : Prop := oC a0 6 ∧ P_X6_weighFor  a0 a1 st (fun st_2 => ∃ r_3, rv st_2 a0 6 0 = some r_3 ∧ oC r_3 2 ∧ P_X2_peopleTiedTo  r_3 a1 st_2 (fun z_4 st_5 => ∃ n8, P_X6_fewestThatPull_23  a0 a1  post n8 z_4 (-1) 10 1 st_5))
set_option maxRecDepth 100000 in
set_option maxHeartbeats 4000000 in
theorem K_X6_fewestThatPull_70 {l : Launch} {E : En}   (a0 : Nat) (a1 : Int32) {k23 : Int32 → Int32 → Int32 → Int32 → St → Prop} {post : Int32 → St → Prop}  (hk23 : ∀ (x2 : Int32) (x3 : Int32) (x4 : Int32) (x5 : Int32) (st : St), k23 x2 x3 x4 x5 st → Jg l E (CFc E) (Rm 5 0 0) cX6_fewestThatPull 7 RX6 (some .int) (fun _ => True) (QI E post 0 0) 0 0 23 [(0, .ref a0), (1, .int a1), (2, .int x2), (3, .int x3), (4, .int x4), (5, .int x5)] [] st) (x2 : Int32) (x3 : Int32) (x4 : Int32) (x5 : Int32) (st : St) (h : P_X6_fewestThatPull_70  a0 a1 k23 post x2 x3 x4 x5 st) : Jg l E (CFc E) (Rm 5 0 0) cX6_fewestThatPull 7 RX6 (some .int) (fun _ => True) (QI E post 0 0) 0 0 70 [(0, .ref a0), (1, .int a1), (2, .int x2), (3, .int x3), (4, .int x4), (5, .int x5)] [] st := by
  unfold P_X6_fewestThatPull_70 at h
  refine J_iinc 5 (x5 + 1) _ dX6_fewestThatPull_70 rfl (by rfl) (by decide) rfl ?_
  refine J_goto 23 dX6_fewestThatPull_73 (by decide) ?_
  exact J_lv [1, 2, 3, 4, 5, 0] rfl (hk23 x2 x3 x4 (x5 + 1) st h)
set_option maxRecDepth 100000 in
set_option maxHeartbeats 4000000 in
theorem K_X6_fewestThatPull_23 {l : Launch} {E : En}   (a0 : Nat) (a1 : Int32)  {post : Int32 → St → Prop}   : ∀ (n9 : Nat) (x2 : Int32) (x3 : Int32) (x4 : Int32) (x5 : Int32) (st : St), P_X6_fewestThatPull_23  a0 a1  post n9 x2 x3 x4 x5 st → Jg l E (CFc E) (Rm 5 0 0) cX6_fewestThatPull 7 RX6 (some .int) (fun _ => True) (QI E post 0 0) 0 0 23 [(0, .ref a0), (1, .int a1), (2, .int x2), (3, .int x3), (4, .int x4), (5, .int x5)] [] st := by
  intro n9
  induction n9 with
  | zero => intro x2 x3 x4 x5 st h; exact h.elim
  | succ n9 ih =>
    intro x2 x3 x4 x5 st h
    unfold P_X6_fewestThatPull_23 at h
    refine J_iload 5 dX6_fewestThatPull_23 rfl ?_
    refine J_iload_n 2 dX6_fewestThatPull_25 rfl rfl ?_
    refine J_icmp_gt 76 dX6_fewestThatPull_26 (by decide) (fun hc => ?_) (fun hc => ?_)
    · have h := h.1 hc
      refine J_iload_n 3 dX6_fewestThatPull_76 rfl rfl ?_
      exact J_reti rfl dX6_fewestThatPull_77 h
    · have h := h.2 hc
      refine J_iload 5 dX6_fewestThatPull_29 rfl ?_
      refine J_csi (As := [_]) md_J6_bitCount_0f7a4 k_534 rfl rfl ⟨Nat.le_of_ble_eq_true rfl, Nat.le_of_ble_eq_true rfl⟩ ⟨Nat.le_of_ble_eq_true rfl, Nat.le_of_ble_eq_true rfl⟩ (Nat.le_of_ble_eq_true rfl) dX6_fewestThatPull_31 (ct_J6_bitCount_0f7a4  h) (fun z_1 st_2 h => ?_)
      refine J_istore _ dX6_fewestThatPull_34 (by decide) rfl ?_
      refine J_iload 6 dX6_fewestThatPull_36 rfl ?_
      refine J_iload_n 3 dX6_fewestThatPull_38 rfl rfl ?_
      refine J_iconst (-1) dX6_fewestThatPull_39 (by decide) ?_
      refine J_ixor dX6_fewestThatPull_40 ?_
      refine J_iand dX6_fewestThatPull_41 ?_
      refine J_if_ne 70 dX6_fewestThatPull_42 (by decide) (fun hc => ?_) (fun hc => ?_)
      · have h := h.1 hc
        exact J_lv [1, 2, 3, 4, 5, 6] rfl (K_X6_fewestThatPull_70   a0 a1 (fun x2 x3 x4 x5 st h => ih x2 x3 x4 x5 st h) x2 x3 x4 x5 st_2 h)
      · have h := h.2 hc
        refine J_iload 0 dX6_fewestThatPull_45 rfl ?_
        refine J_iload 5 dX6_fewestThatPull_47 rfl ?_
        refine J_icmp_ge 70 dX6_fewestThatPull_49 (by decide) (fun hc => ?_) (fun hc => ?_)
        · have h := h.1 hc
          exact J_lv [1, 2, 3, 4, 5, 6] rfl (K_X6_fewestThatPull_70   a0 a1 (fun x2 x3 x4 x5 st h => ih x2 x3 x4 x5 st h) x2 x3 x4 x5 st_2 h)
        · have h := h.2 hc
          refine J_aload_n 1 dX6_fewestThatPull_52 rfl rfl ?_
          refine J_iload 6 dX6_fewestThatPull_53 rfl ?_
          refine J_iload_n 3 dX6_fewestThatPull_55 rfl rfl ?_
          refine J_iload_n 2 dX6_fewestThatPull_56 rfl rfl ?_
          obtain ⟨ho, h⟩ := h
          refine J_cvi (As := [_, _, _]) md_X6_pulls k_535 (rc_obj cl_6 ho) rfl rfl ⟨Nat.le_of_ble_eq_true rfl, Nat.le_of_ble_eq_true rfl⟩ ⟨Nat.le_of_ble_eq_true rfl, Nat.le_of_ble_eq_true rfl⟩ (Nat.le_of_ble_eq_true rfl) dX6_fewestThatPull_57 (ct_X6_pulls  h) (fun z_3 st_4 h => ?_)
          refine J_if_eq 70 dX6_fewestThatPull_60 (by decide) (fun hc => ?_) (fun hc => ?_)
          · have h := h.1 hc
            exact J_lv [1, 2, 3, 4, 5, 6] rfl (K_X6_fewestThatPull_70   a0 a1 (fun x2 x3 x4 x5 st h => ih x2 x3 x4 x5 st h) x2 x3 x4 x5 st_4 h)
          · have h := h.2 hc
            refine J_iload 0 dX6_fewestThatPull_63 rfl ?_
            refine J_istore _ dX6_fewestThatPull_65 (by decide) rfl ?_
            refine J_iload 6 dX6_fewestThatPull_67 rfl ?_
            refine J_istore_n _ dX6_fewestThatPull_69 rfl (by decide) rfl ?_
            exact J_lv [3, 4, 5, 0, 1, 6] rfl (K_X6_fewestThatPull_70   a0 a1 (fun x2 x3 x4 x5 st h => ih x2 x3 x4 x5 st h) x2 x5 z_1 x5 st_4 h)
set_option maxRecDepth 100000 in
set_option maxHeartbeats 4000000 in
theorem ct_X6_fewestThatPull {l : Launch} {E : En}  {a0 : Nat} {a1 : Int32} {st : St} {post : Int32 → St → Prop} (h : P_X6_fewestThatPull  a0 a1 st post) : CtI l E (CFc E) 5 0 0 yX6_fewestThatPull cX6_fewestThatPull 7 (some .int) [.ref a0, .int a1] st post := by
  refine ctI_of (by decide) (Nat.le_of_ble_eq_true rfl) ?_
  show Jg l E (CFc E) (Rm 5 0 0) cX6_fewestThatPull 7 RX6 (some .int) (fun _ => True) (QI E post 0 0) 0 0 0 [(0, .ref a0), (1, .int a1)] [] st
  unfold P_X6_fewestThatPull at h
  refine J_aload_n 0 dX6_fewestThatPull_0 rfl rfl ?_
  refine J_iload_n 1 dX6_fewestThatPull_1 rfl rfl ?_
  obtain ⟨ho, h⟩ := h
  refine J_cvv (As := [_]) md_X6_weighFor k_520 (rc_obj cl_6 ho) rfl rfl ⟨Nat.le_of_ble_eq_true rfl, Nat.le_of_ble_eq_true rfl⟩ ⟨Nat.le_of_ble_eq_true rfl, Nat.le_of_ble_eq_true rfl⟩ (Nat.le_of_ble_eq_true rfl) dX6_fewestThatPull_2 (ct_X6_weighFor  h) (fun st_2 h => ?_)
  refine J_aload_n 0 dX6_fewestThatPull_5 rfl rfl ?_
  obtain ⟨r_3, hf, h⟩ := h
  refine J_getR fl_RX6_18 dX6_fewestThatPull_6 hf ?_
  refine J_iload_n 1 dX6_fewestThatPull_9 rfl rfl ?_
  obtain ⟨ho, h⟩ := h
  refine J_cvi (As := [_]) md_X2_peopleTiedTo k_533 (rc_obj cl_2 ho) rfl rfl ⟨Nat.le_of_ble_eq_true rfl, Nat.le_of_ble_eq_true rfl⟩ ⟨Nat.le_of_ble_eq_true rfl, Nat.le_of_ble_eq_true rfl⟩ (Nat.le_of_ble_eq_true rfl) dX6_fewestThatPull_10 (ct_X2_peopleTiedTo  h) (fun z_4 st_5 h => ?_)
  refine J_istore_n _ dX6_fewestThatPull_13 rfl (by decide) rfl ?_
  refine J_iconst (-1) dX6_fewestThatPull_14 (by decide) ?_
  refine J_istore_n _ dX6_fewestThatPull_15 rfl (by decide) rfl ?_
  refine J_bipush 10 dX6_fewestThatPull_16 (by decide) ?_
  refine J_istore _ dX6_fewestThatPull_18 (by decide) rfl ?_
  refine J_iconst 1 dX6_fewestThatPull_20 (by decide) ?_
  refine J_istore _ dX6_fewestThatPull_21 (by decide) rfl ?_
  obtain ⟨n8, h⟩ := h
  exact J_lv [4, 5, 3, 2, 1, 0] rfl (K_X6_fewestThatPull_23   a0 a1  n8 z_4 (-1) 10 1 st_5 h)
/-! X6_setsDecidedBy -/
def P_X6_setsDecidedBy_90  (a0 : Nat) (a1 : Int32) (a2 : Int32) (k25 : Int32 → Int32 → Int32 → Int32 → St → Prop) (post : Int32 → St → Prop) (x3 : Int32) (x4 : Int32) (x5 : Int32) (x6 : Int32) (st : St) : Prop := k25 x3 x4 x5 (x6 + 1) st
def P_X6_setsDecidedBy_53  (a0 : Nat) (a1 : Int32) (a2 : Int32) (k25 : Int32 → Int32 → Int32 → Int32 → St → Prop) (post : Int32 → St → Prop) (x3 : Int32) (x4 : Int32) (x5 : Int32) (x6 : Int32) (s0 : Int32) (st : St) : Prop := ((s0 = 0 → P_X6_setsDecidedBy_90  a0 a1 a2 k25 post x3 x4 x5 x6 st) ∧ (¬ s0 = 0 → oC a0 6 ∧ P_X6_pulls  a0 x6 x3 a2 st (fun z_1 st_2 => ((z_1 = 0 → P_X6_setsDecidedBy_90  a0 a1 a2 k25 post x3 x4 x5 x6 st_2) ∧ (¬ z_1 = 0 → oC a0 6 ∧ P_X6_pulls  a0 (x6 &&& (x4 ^^^ (-1))) x3 a2 st_2 (fun z_3 st_4 => ((¬ z_3 = 0 → P_X6_setsDecidedBy_90  a0 a1 a2 k25 post x3 x4 x5 x6 st_4) ∧ (z_3 = 0 → P_X6_setsDecidedBy_90  a0 a1 a2 k25 post x3 x4 (x5 + 1) x6 st_4))))))))
def P_X6_setsDecidedBy_52  (a0 : Nat) (a1 : Int32) (a2 : Int32) (k25 : Int32 → Int32 → Int32 → Int32 → St → Prop) (post : Int32 → St → Prop) (x3 : Int32) (x4 : Int32) (x5 : Int32) (x6 : Int32) (st : St) : Prop := P_X6_setsDecidedBy_53  a0 a1 a2 k25 post x3 x4 x5 x6 0 st
def P_X6_setsDecidedBy_25  (a0 : Nat) (a1 : Int32) (a2 : Int32)  (post : Int32 → St → Prop) : Nat → Int32 → Int32 → Int32 → Int32 → St → Prop
  | 0, _, _, _, _, _ => False
  | n9 + 1, x3, x4, x5, x6, st => ((x3 < x6 → post x5 st) ∧ (¬ x3 < x6 → ((¬ (x6 &&& (x3 ^^^ (-1))) = 0 → P_X6_setsDecidedBy_52  a0 a1 a2 (fun x3 x4 x5 x6 st => P_X6_setsDecidedBy_25  a0 a1 a2  post n9 x3 x4 x5 x6 st) post x3 x4 x5 x6 st) ∧ ((x6 &&& (x3 ^^^ (-1))) = 0 → (((x6 &&& x4) = 0 → P_X6_setsDecidedBy_52  a0 a1 a2 (fun x3 x4 x5 x6 st => P_X6_setsDecidedBy_25  a0 a1 a2  post n9 x3 x4 x5 x6 st) post x3 x4 x5 x6 st) ∧ (¬ (x6 &&& x4) = 0 → P_X6_setsDecidedBy_53  a0 a1 a2 (fun x3 x4 x5 x6 st => P_X6_setsDecidedBy_25  a0 a1 a2  post n9 x3 x4 x5 x6 st) post x3 x4 x5 x6 1 st))))))
def P_X6_setsDecidedBy  (a0 : Nat) (a1 : Int32) (a2 : Int32) (st : St) (post : Int32 → St → Prop) : Prop := oC a0 6 ∧ P_X6_weighFor  a0 a2 st (fun st_2 => ∃ r_3, rv st_2 a0 6 0 = some r_3 ∧ oC r_3 2 ∧ P_X2_peopleTiedTo  r_3 a2 st_2 (fun z_4 st_5 => ∃ n8, P_X6_setsDecidedBy_25  a0 a1 a2  post n8 z_4 ((1 : Int32) <<< ((a1 : Int32) &&& 31)) 0 1 st_5))
set_option maxRecDepth 100000 in
set_option maxHeartbeats 4000000 in
theorem K_X6_setsDecidedBy_90 {l : Launch} {E : En}   (a0 : Nat) (a1 : Int32) (a2 : Int32) {k25 : Int32 → Int32 → Int32 → Int32 → St → Prop} {post : Int32 → St → Prop}  (hk25 : ∀ (x3 : Int32) (x4 : Int32) (x5 : Int32) (x6 : Int32) (st : St), k25 x3 x4 x5 x6 st → Jg l E (CFc E) (Rm 5 0 0) cX6_setsDecidedBy 8 RX6 (some .int) (fun _ => True) (QI E post 0 0) 0 0 25 [(0, .ref a0), (1, .int a1), (2, .int a2), (3, .int x3), (4, .int x4), (5, .int x5), (6, .int x6)] [] st) (x3 : Int32) (x4 : Int32) (x5 : Int32) (x6 : Int32) (st : St) (h : P_X6_setsDecidedBy_90  a0 a1 a2 k25 post x3 x4 x5 x6 st) : Jg l E (CFc E) (Rm 5 0 0) cX6_setsDecidedBy 8 RX6 (some .int) (fun _ => True) (QI E post 0 0) 0 0 90 [(0, .ref a0), (1, .int a1), (2, .int a2), (3, .int x3), (4, .int x4), (5, .int x5), (6, .int x6)] [] st := by
  unfold P_X6_setsDecidedBy_90 at h
  refine J_iinc 6 (x6 + 1) _ dX6_setsDecidedBy_90 rfl (by rfl) (by decide) rfl ?_
  refine J_goto 25 dX6_setsDecidedBy_93 (by decide) ?_
  exact J_lv [1, 2, 3, 4, 5, 6, 0] rfl (hk25 x3 x4 x5 (x6 + 1) st h)
set_option maxRecDepth 100000 in
set_option maxHeartbeats 4000000 in
theorem K_X6_setsDecidedBy_53 {l : Launch} {E : En}   (a0 : Nat) (a1 : Int32) (a2 : Int32) {k25 : Int32 → Int32 → Int32 → Int32 → St → Prop} {post : Int32 → St → Prop}  (hk25 : ∀ (x3 : Int32) (x4 : Int32) (x5 : Int32) (x6 : Int32) (st : St), k25 x3 x4 x5 x6 st → Jg l E (CFc E) (Rm 5 0 0) cX6_setsDecidedBy 8 RX6 (some .int) (fun _ => True) (QI E post 0 0) 0 0 25 [(0, .ref a0), (1, .int a1), (2, .int a2), (3, .int x3), (4, .int x4), (5, .int x5), (6, .int x6)] [] st) (x3 : Int32) (x4 : Int32) (x5 : Int32) (x6 : Int32) (s0 : Int32) (st : St) (h : P_X6_setsDecidedBy_53  a0 a1 a2 k25 post x3 x4 x5 x6 s0 st) : Jg l E (CFc E) (Rm 5 0 0) cX6_setsDecidedBy 8 RX6 (some .int) (fun _ => True) (QI E post 0 0) 0 0 53 [(0, .ref a0), (1, .int a1), (2, .int a2), (3, .int x3), (4, .int x4), (5, .int x5), (6, .int x6)] [.int s0] st := by
  unfold P_X6_setsDecidedBy_53 at h
  refine J_istore _ dX6_setsDecidedBy_53 (by decide) rfl ?_
  refine J_iload 0 dX6_setsDecidedBy_55 rfl ?_
  refine J_if_eq 90 dX6_setsDecidedBy_57 (by decide) (fun hc => ?_) (fun hc => ?_)
  · have h := h.1 hc
    exact J_lv [1, 2, 3, 4, 5, 6, 7] rfl (K_X6_setsDecidedBy_90   a0 a1 a2 hk25 x3 x4 x5 x6 st h)
  · have h := h.2 hc
    refine J_aload_n 1 dX6_setsDecidedBy_60 rfl rfl ?_
    refine J_iload 7 dX6_setsDecidedBy_61 rfl ?_
    refine J_iload_n 4 dX6_setsDecidedBy_63 rfl rfl ?_
    refine J_iload_n 3 dX6_setsDecidedBy_64 rfl rfl ?_
    obtain ⟨ho, h⟩ := h
    refine J_cvi (As := [_, _, _]) md_X6_pulls k_535 (rc_obj cl_6 ho) rfl rfl ⟨Nat.le_of_ble_eq_true rfl, Nat.le_of_ble_eq_true rfl⟩ ⟨Nat.le_of_ble_eq_true rfl, Nat.le_of_ble_eq_true rfl⟩ (Nat.le_of_ble_eq_true rfl) dX6_setsDecidedBy_65 (ct_X6_pulls  h) (fun z_1 st_2 h => ?_)
    refine J_if_eq 90 dX6_setsDecidedBy_68 (by decide) (fun hc => ?_) (fun hc => ?_)
    · have h := h.1 hc
      exact J_lv [1, 2, 3, 4, 5, 6, 7] rfl (K_X6_setsDecidedBy_90   a0 a1 a2 hk25 x3 x4 x5 x6 st_2 h)
    · have h := h.2 hc
      refine J_aload_n 1 dX6_setsDecidedBy_71 rfl rfl ?_
      refine J_iload 7 dX6_setsDecidedBy_72 rfl ?_
      refine J_iload 5 dX6_setsDecidedBy_74 rfl ?_
      refine J_iconst (-1) dX6_setsDecidedBy_76 (by decide) ?_
      refine J_ixor dX6_setsDecidedBy_77 ?_
      refine J_iand dX6_setsDecidedBy_78 ?_
      refine J_iload_n 4 dX6_setsDecidedBy_79 rfl rfl ?_
      refine J_iload_n 3 dX6_setsDecidedBy_80 rfl rfl ?_
      obtain ⟨ho, h⟩ := h
      refine J_cvi (As := [_, _, _]) md_X6_pulls k_535 (rc_obj cl_6 ho) rfl rfl ⟨Nat.le_of_ble_eq_true rfl, Nat.le_of_ble_eq_true rfl⟩ ⟨Nat.le_of_ble_eq_true rfl, Nat.le_of_ble_eq_true rfl⟩ (Nat.le_of_ble_eq_true rfl) dX6_setsDecidedBy_81 (ct_X6_pulls  h) (fun z_3 st_4 h => ?_)
      refine J_if_ne 90 dX6_setsDecidedBy_84 (by decide) (fun hc => ?_) (fun hc => ?_)
      · have h := h.1 hc
        exact J_lv [1, 2, 3, 4, 5, 6, 7] rfl (K_X6_setsDecidedBy_90   a0 a1 a2 hk25 x3 x4 x5 x6 st_4 h)
      · have h := h.2 hc
        refine J_iinc 6 (x5 + 1) _ dX6_setsDecidedBy_87 rfl (by rfl) (by decide) rfl ?_
        exact J_lv [2, 3, 4, 5, 6, 0, 7] rfl (K_X6_setsDecidedBy_90   a0 a1 a2 hk25 x3 x4 (x5 + 1) x6 st_4 h)
set_option maxRecDepth 100000 in
set_option maxHeartbeats 4000000 in
theorem K_X6_setsDecidedBy_52 {l : Launch} {E : En}   (a0 : Nat) (a1 : Int32) (a2 : Int32) {k25 : Int32 → Int32 → Int32 → Int32 → St → Prop} {post : Int32 → St → Prop}  (hk25 : ∀ (x3 : Int32) (x4 : Int32) (x5 : Int32) (x6 : Int32) (st : St), k25 x3 x4 x5 x6 st → Jg l E (CFc E) (Rm 5 0 0) cX6_setsDecidedBy 8 RX6 (some .int) (fun _ => True) (QI E post 0 0) 0 0 25 [(0, .ref a0), (1, .int a1), (2, .int a2), (3, .int x3), (4, .int x4), (5, .int x5), (6, .int x6)] [] st) (x3 : Int32) (x4 : Int32) (x5 : Int32) (x6 : Int32) (st : St) (h : P_X6_setsDecidedBy_52  a0 a1 a2 k25 post x3 x4 x5 x6 st) : Jg l E (CFc E) (Rm 5 0 0) cX6_setsDecidedBy 8 RX6 (some .int) (fun _ => True) (QI E post 0 0) 0 0 52 [(0, .ref a0), (1, .int a1), (2, .int a2), (3, .int x3), (4, .int x4), (5, .int x5), (6, .int x6)] [] st := by
  unfold P_X6_setsDecidedBy_52 at h
  refine J_iconst 0 dX6_setsDecidedBy_52 (by decide) ?_
  exact J_lv [0, 1, 2, 3, 4, 5, 6] rfl (K_X6_setsDecidedBy_53   a0 a1 a2 hk25 x3 x4 x5 x6 0 st h)
set_option maxRecDepth 100000 in
set_option maxHeartbeats 4000000 in
theorem K_X6_setsDecidedBy_25 {l : Launch} {E : En}   (a0 : Nat) (a1 : Int32) (a2 : Int32)  {post : Int32 → St → Prop}   : ∀ (n9 : Nat) (x3 : Int32) (x4 : Int32) (x5 : Int32) (x6 : Int32) (st : St), P_X6_setsDecidedBy_25  a0 a1 a2  post n9 x3 x4 x5 x6 st → Jg l E (CFc E) (Rm 5 0 0) cX6_setsDecidedBy 8 RX6 (some .int) (fun _ => True) (QI E post 0 0) 0 0 25 [(0, .ref a0), (1, .int a1), (2, .int a2), (3, .int x3), (4, .int x4), (5, .int x5), (6, .int x6)] [] st := by
  intro n9
  induction n9 with
  | zero => intro x3 x4 x5 x6 st h; exact h.elim
  | succ n9 ih =>
    intro x3 x4 x5 x6 st h
    unfold P_X6_setsDecidedBy_25 at h
    refine J_iload 6 dX6_setsDecidedBy_25 rfl ?_
    refine J_iload_n 3 dX6_setsDecidedBy_27 rfl rfl ?_
    refine J_icmp_gt 96 dX6_setsDecidedBy_28 (by decide) (fun hc => ?_) (fun hc => ?_)
    · have h := h.1 hc
      refine J_iload 5 dX6_setsDecidedBy_96 rfl ?_
      exact J_reti rfl dX6_setsDecidedBy_98 h
    · have h := h.2 hc
      refine J_iload 6 dX6_setsDecidedBy_31 rfl ?_
      refine J_iload_n 3 dX6_setsDecidedBy_33 rfl rfl ?_
      refine J_iconst (-1) dX6_setsDecidedBy_34 (by decide) ?_
      refine J_ixor dX6_setsDecidedBy_35 ?_
      refine J_iand dX6_setsDecidedBy_36 ?_
      refine J_if_ne 52 dX6_setsDecidedBy_37 (by decide) (fun hc => ?_) (fun hc => ?_)
      · have h := h.1 hc
        exact J_lv [0, 1, 2, 3, 4, 5, 6] rfl (K_X6_setsDecidedBy_52   a0 a1 a2 (fun x3 x4 x5 x6 st h => ih x3 x4 x5 x6 st h) x3 x4 x5 x6 st h)
      · have h := h.2 hc
        refine J_iload 6 dX6_setsDecidedBy_40 rfl ?_
        refine J_iload 4 dX6_setsDecidedBy_42 rfl ?_
        refine J_iand dX6_setsDecidedBy_44 ?_
        refine J_if_eq 52 dX6_setsDecidedBy_45 (by decide) (fun hc => ?_) (fun hc => ?_)
        · have h := h.1 hc
          exact J_lv [0, 1, 2, 3, 4, 5, 6] rfl (K_X6_setsDecidedBy_52   a0 a1 a2 (fun x3 x4 x5 x6 st h => ih x3 x4 x5 x6 st h) x3 x4 x5 x6 st h)
        · have h := h.2 hc
          refine J_iconst 1 dX6_setsDecidedBy_48 (by decide) ?_
          refine J_goto 53 dX6_setsDecidedBy_49 (by decide) ?_
          exact J_lv [0, 1, 2, 3, 4, 5, 6] rfl (K_X6_setsDecidedBy_53   a0 a1 a2 (fun x3 x4 x5 x6 st h => ih x3 x4 x5 x6 st h) x3 x4 x5 x6 1 st h)
set_option maxRecDepth 100000 in
set_option maxHeartbeats 4000000 in
theorem ct_X6_setsDecidedBy {l : Launch} {E : En}  {a0 : Nat} {a1 : Int32} {a2 : Int32} {st : St} {post : Int32 → St → Prop} (h : P_X6_setsDecidedBy  a0 a1 a2 st post) : CtI l E (CFc E) 5 0 0 yX6_setsDecidedBy cX6_setsDecidedBy 8 (some .int) [.ref a0, .int a1, .int a2] st post := by
  refine ctI_of (by decide) (Nat.le_of_ble_eq_true rfl) ?_
  show Jg l E (CFc E) (Rm 5 0 0) cX6_setsDecidedBy 8 RX6 (some .int) (fun _ => True) (QI E post 0 0) 0 0 0 [(0, .ref a0), (1, .int a1), (2, .int a2)] [] st
  unfold P_X6_setsDecidedBy at h
  refine J_aload_n 0 dX6_setsDecidedBy_0 rfl rfl ?_
  refine J_iload_n 2 dX6_setsDecidedBy_1 rfl rfl ?_
  obtain ⟨ho, h⟩ := h
  refine J_cvv (As := [_]) md_X6_weighFor k_520 (rc_obj cl_6 ho) rfl rfl ⟨Nat.le_of_ble_eq_true rfl, Nat.le_of_ble_eq_true rfl⟩ ⟨Nat.le_of_ble_eq_true rfl, Nat.le_of_ble_eq_true rfl⟩ (Nat.le_of_ble_eq_true rfl) dX6_setsDecidedBy_2 (ct_X6_weighFor  h) (fun st_2 h => ?_)
  refine J_aload_n 0 dX6_setsDecidedBy_5 rfl rfl ?_
  obtain ⟨r_3, hf, h⟩ := h
  refine J_getR fl_RX6_18 dX6_setsDecidedBy_6 hf ?_
  refine J_iload_n 2 dX6_setsDecidedBy_9 rfl rfl ?_
  obtain ⟨ho, h⟩ := h
  refine J_cvi (As := [_]) md_X2_peopleTiedTo k_533 (rc_obj cl_2 ho) rfl rfl ⟨Nat.le_of_ble_eq_true rfl, Nat.le_of_ble_eq_true rfl⟩ ⟨Nat.le_of_ble_eq_true rfl, Nat.le_of_ble_eq_true rfl⟩ (Nat.le_of_ble_eq_true rfl) dX6_setsDecidedBy_10 (ct_X2_peopleTiedTo  h) (fun z_4 st_5 h => ?_)
  refine J_istore_n _ dX6_setsDecidedBy_13 rfl (by decide) rfl ?_
  refine J_iconst 1 dX6_setsDecidedBy_14 (by decide) ?_
  refine J_iload_n 2 dX6_setsDecidedBy_15 rfl rfl ?_
  refine J_ishl dX6_setsDecidedBy_16 ?_
  refine J_istore _ dX6_setsDecidedBy_17 (by decide) rfl ?_
  refine J_iconst 0 dX6_setsDecidedBy_19 (by decide) ?_
  refine J_istore _ dX6_setsDecidedBy_20 (by decide) rfl ?_
  refine J_iconst 1 dX6_setsDecidedBy_22 (by decide) ?_
  refine J_istore _ dX6_setsDecidedBy_23 (by decide) rfl ?_
  obtain ⟨n8, h⟩ := h
  exact J_lv [4, 5, 6, 3, 2, 1, 0] rfl (K_X6_setsDecidedBy_25   a0 a1 a2  n8 z_4 ((1 : Int32) <<< ((a1 : Int32) &&& 31)) 0 1 st_5 h)
/-! X6_weighForAll -/
def P_X6_weighForAll_2  (a0 : Nat)  (post : St → Prop) : Nat → Int32 → St → Prop
  | 0, _, _ => False
  | n9 + 1, x1, st => ∃ r_1, rv st a0 6 0 = some r_1 ∧ ∃ r_2, rv st r_1 2 0 = some r_2 ∧ fk r_2 3 1 = some 0 ∧ (((gI st r_2 1) ≤ x1 → post st) ∧ (¬ (gI st r_2 1) ≤ x1 → oC a0 6 ∧ P_X6_weighFor  a0 x1 st (fun st_4 => P_X6_weighForAll_2  a0  post n9 (x1 + 1) st_4)))
def P_X6_weighForAll  (a0 : Nat) (st : St) (post : St → Prop) : Prop := ∃ n8, P_X6_weighForAll_2  a0  post n8 0 st
set_option maxRecDepth 100000 in
set_option maxHeartbeats 4000000 in
theorem K_X6_weighForAll_2 {l : Launch} {E : En}   (a0 : Nat)  {post : St → Prop}   : ∀ (n9 : Nat) (x1 : Int32) (st : St), P_X6_weighForAll_2  a0  post n9 x1 st → Jg l E (CFc E) (Rm 5 0 0) cX6_weighForAll 2 RX6 none (fun _ => True) (QV E post 0 0) 0 0 2 [(0, .ref a0), (1, .int x1)] [] st := by
  intro n9
  induction n9 with
  | zero => intro x1 st h; exact h.elim
  | succ n9 ih =>
    intro x1 st h
    unfold P_X6_weighForAll_2 at h
    refine J_iload_n 1 dX6_weighForAll_2 rfl rfl ?_
    refine J_aload_n 0 dX6_weighForAll_3 rfl rfl ?_
    obtain ⟨r_1, hf, h⟩ := h
    refine J_getR fl_RX6_18 dX6_weighForAll_4 hf ?_
    obtain ⟨r_2, hf, h⟩ := h
    refine J_getR fl_RX6_22 dX6_weighForAll_7 hf ?_
    obtain ⟨hf, h⟩ := h
    refine J_getI fl_RX6_61 dX6_weighForAll_10 hf ?_
    refine J_icmp_ge 27 dX6_weighForAll_13 (by decide) (fun hc => ?_) (fun hc => ?_)
    · have h := h.1 hc
      exact J_retv rfl dX6_weighForAll_27 h
    · have h := h.2 hc
      refine J_aload_n 0 dX6_weighForAll_16 rfl rfl ?_
      refine J_iload_n 1 dX6_weighForAll_17 rfl rfl ?_
      obtain ⟨ho, h⟩ := h
      refine J_cvv (As := [_]) md_X6_weighFor k_520 (rc_obj cl_6 ho) rfl rfl ⟨Nat.le_of_ble_eq_true rfl, Nat.le_of_ble_eq_true rfl⟩ ⟨Nat.le_of_ble_eq_true rfl, Nat.le_of_ble_eq_true rfl⟩ (Nat.le_of_ble_eq_true rfl) dX6_weighForAll_18 (ct_X6_weighFor  h) (fun st_4 h => ?_)
      refine J_iinc 1 (x1 + 1) _ dX6_weighForAll_21 rfl (by rfl) (by decide) rfl ?_
      refine J_goto 2 dX6_weighForAll_24 (by decide) ?_
      exact J_lv [1, 0] rfl (ih (x1 + 1) st_4 h)
set_option maxRecDepth 100000 in
set_option maxHeartbeats 4000000 in
theorem ct_X6_weighForAll {l : Launch} {E : En}  {a0 : Nat} {st : St} {post : St → Prop} (h : P_X6_weighForAll  a0 st post) : CtV l E (CFc E) 5 0 0 yX6_weighForAll cX6_weighForAll 2 none [.ref a0] st post := by
  refine ctV_of (by decide) (Nat.le_of_ble_eq_true rfl) ?_
  show Jg l E (CFc E) (Rm 5 0 0) cX6_weighForAll 2 RX6 none (fun _ => True) (QV E post 0 0) 0 0 0 [(0, .ref a0)] [] st
  unfold P_X6_weighForAll at h
  refine J_iconst 0 dX6_weighForAll_0 (by decide) ?_
  refine J_istore_n _ dX6_weighForAll_1 rfl (by decide) rfl ?_
  obtain ⟨n8, h⟩ := h
  exact J_lv [1, 0] rfl (K_X6_weighForAll_2   a0  n8 0 st h)
/-! X6_fillFrom -/
def P_X6_fillFrom_91  (a0 : Nat) (a1 : Int32) (k46 : Int32 → Int32 → St → Prop) (post : St → Prop) (x2 : Int32) (x3 : Int32) (st : St) : Prop := k46 x2 (x3 + (-1)) st
def P_X6_fillFrom_54  (a0 : Nat) (a1 : Int32) (k46 : Int32 → Int32 → St → Prop) (post : St → Prop) : Nat → Int32 → Int32 → Int32 → St → Prop
  | 0, _, _, _, _ => False
  | n9 + 1, x2, x3, x4, st => ((x2 ≤ x4 → P_X6_fillFrom_91  a0 a1 k46 post x2 x3 st) ∧ (¬ x2 ≤ x4 → ∃ r_1, rv st a0 6 0 = some r_1 ∧ oC r_1 2 ∧ P_X2_isHome  r_1 x3 st (fun z_2 st_3 => ((z_2 = 0 → P_X6_fillFrom_91  a0 a1 k46 post x2 x3 st_3) ∧ (¬ z_2 = 0 → ∃ r_4, rv st_3 a0 6 2 = some r_4 ∧ oC a0 6 ∧ P_X6_mostWith  a0 x4 x3 st_3 (fun z_5 st_6 => vp_in x4 (al 0 r_4) ∧ P_X6_fillFrom_54  a0 a1 k46 post n9 x2 x3 (x4 + 1) (sA st_6 r_4 (x4 : Int32).toNatClampNeg z_5)))))))
def P_X6_fillFrom_46  (a0 : Nat) (a1 : Int32)  (post : St → Prop) : Nat → Int32 → Int32 → St → Prop
  | 0, _, _, _ => False
  | n9 + 1, x2, x3, st => ((x3 < a1 → post st) ∧ (¬ x3 < a1 → ∃ n8, P_X6_fillFrom_54  a0 a1 (fun x2 x3 st => P_X6_fillFrom_46  a0 a1  post n9 x2 x3 st) post n8 x2 x3 0 st))
def P_X6_fillFrom_15  (a0 : Nat) (a1 : Int32)  (post : St → Prop) : Nat → Int32 → Int32 → St → Prop
  | 0, _, _, _ => False
  | n9 + 1, x2, x3, st => ((x2 ≤ x3 → ∃ r_1, rv st a0 6 0 = some r_1 ∧ ∃ r_2, rv st r_1 2 0 = some r_2 ∧ fk r_2 3 1 = some 0 ∧ ∃ n8, P_X6_fillFrom_46  a0 a1  post n8 x2 ((gI st r_2 1) - 1) st) ∧ (¬ x2 ≤ x3 → ∃ r_3, rv st a0 6 2 = some r_3 ∧ vp_in x3 (al 0 r_3) ∧ P_X6_fillFrom_15  a0 a1  post n9 x2 (x3 + 1) (sA st r_3 (x3 : Int32).toNatClampNeg 0)))
def P_X6_fillFrom  (a0 : Nat) (a1 : Int32) (st : St) (post : St → Prop) : Prop := ∃ r_1, rv st a0 6 0 = some r_1 ∧ ∃ r_2, rv st r_1 2 0 = some r_2 ∧ fk r_2 3 0 = some 0 ∧ ∃ n8, P_X6_fillFrom_15  a0 a1  post n8 ((1 : Int32) <<< ((gI st r_2 0 : Int32) &&& 31)) 0 st
set_option maxRecDepth 100000 in
set_option maxHeartbeats 4000000 in
theorem K_X6_fillFrom_91 {l : Launch} {E : En}   (a0 : Nat) (a1 : Int32) {k46 : Int32 → Int32 → St → Prop} {post : St → Prop}  (hk46 : ∀ (x2 : Int32) (x3 : Int32) (st : St), k46 x2 x3 st → Jg l E (CFc E) (Rm 4 0 0) cX6_fillFrom 5 RX6 none (fun _ => True) (QV E post 0 0) 0 0 46 [(0, .ref a0), (1, .int a1), (2, .int x2), (3, .int x3)] [] st) (x2 : Int32) (x3 : Int32) (st : St) (h : P_X6_fillFrom_91  a0 a1 k46 post x2 x3 st) : Jg l E (CFc E) (Rm 4 0 0) cX6_fillFrom 5 RX6 none (fun _ => True) (QV E post 0 0) 0 0 91 [(0, .ref a0), (1, .int a1), (2, .int x2), (3, .int x3)] [] st := by
  unfold P_X6_fillFrom_91 at h
  refine J_iinc 3 (x3 + (-1)) _ dX6_fillFrom_91 rfl (by rfl) (by decide) rfl ?_
  refine J_goto 46 dX6_fillFrom_94 (by decide) ?_
  exact J_lv [1, 2, 3, 0] rfl (hk46 x2 (x3 + (-1)) st h)
set_option maxRecDepth 100000 in
set_option maxHeartbeats 4000000 in
theorem K_X6_fillFrom_54 {l : Launch} {E : En}   (a0 : Nat) (a1 : Int32) {k46 : Int32 → Int32 → St → Prop} {post : St → Prop}  (hk46 : ∀ (x2 : Int32) (x3 : Int32) (st : St), k46 x2 x3 st → Jg l E (CFc E) (Rm 4 0 0) cX6_fillFrom 5 RX6 none (fun _ => True) (QV E post 0 0) 0 0 46 [(0, .ref a0), (1, .int a1), (2, .int x2), (3, .int x3)] [] st) : ∀ (n9 : Nat) (x2 : Int32) (x3 : Int32) (x4 : Int32) (st : St), P_X6_fillFrom_54  a0 a1 k46 post n9 x2 x3 x4 st → Jg l E (CFc E) (Rm 4 0 0) cX6_fillFrom 5 RX6 none (fun _ => True) (QV E post 0 0) 0 0 54 [(0, .ref a0), (1, .int a1), (2, .int x2), (3, .int x3), (4, .int x4)] [] st := by
  intro n9
  induction n9 with
  | zero => intro x2 x3 x4 st h; exact h.elim
  | succ n9 ih =>
    intro x2 x3 x4 st h
    unfold P_X6_fillFrom_54 at h
    refine J_iload 4 dX6_fillFrom_54 rfl ?_
    refine J_iload_n 2 dX6_fillFrom_56 rfl rfl ?_
    refine J_icmp_ge 91 dX6_fillFrom_57 (by decide) (fun hc => ?_) (fun hc => ?_)
    · have h := h.1 hc
      exact J_lv [0, 1, 2, 3] rfl (K_X6_fillFrom_91   a0 a1 hk46 x2 x3 st h)
    · have h := h.2 hc
      refine J_aload_n 0 dX6_fillFrom_60 rfl rfl ?_
      obtain ⟨r_1, hf, h⟩ := h
      refine J_getR fl_RX6_18 dX6_fillFrom_61 hf ?_
      refine J_iload_n 3 dX6_fillFrom_64 rfl rfl ?_
      obtain ⟨ho, h⟩ := h
      refine J_cvi (As := [_]) md_X2_isHome k_548 (rc_obj cl_2 ho) rfl rfl ⟨Nat.le_of_ble_eq_true rfl, Nat.le_of_ble_eq_true rfl⟩ ⟨Nat.le_of_ble_eq_true rfl, Nat.le_of_ble_eq_true rfl⟩ (Nat.le_of_ble_eq_true rfl) dX6_fillFrom_65 (ct_X2_isHome  h) (fun z_2 st_3 h => ?_)
      refine J_if_eq 91 dX6_fillFrom_68 (by decide) (fun hc => ?_) (fun hc => ?_)
      · have h := h.1 hc
        exact J_lv [0, 1, 2, 3] rfl (K_X6_fillFrom_91   a0 a1 hk46 x2 x3 st_3 h)
      · have h := h.2 hc
        refine J_aload_n 0 dX6_fillFrom_71 rfl rfl ?_
        obtain ⟨r_4, hf, h⟩ := h
        refine J_getR fl_RX6_15 dX6_fillFrom_72 hf ?_
        refine J_iload 4 dX6_fillFrom_75 rfl ?_
        refine J_aload_n 0 dX6_fillFrom_77 rfl rfl ?_
        refine J_iload 4 dX6_fillFrom_78 rfl ?_
        refine J_iload_n 3 dX6_fillFrom_80 rfl rfl ?_
        obtain ⟨ho, h⟩ := h
        refine J_cvi (As := [_, _]) md_X6_mostWith k_549 (rc_obj cl_6 ho) rfl rfl ⟨Nat.le_of_ble_eq_true rfl, Nat.le_of_ble_eq_true rfl⟩ ⟨Nat.le_of_ble_eq_true rfl, Nat.le_of_ble_eq_true rfl⟩ (Nat.le_of_ble_eq_true rfl) dX6_fillFrom_81 (ct_X6_mostWith  h) (fun z_5 st_6 h => ?_)
        obtain ⟨hi, h⟩ := h
        refine J_iast dX6_fillFrom_84 hi ?_
        refine J_iinc 4 (x4 + 1) _ dX6_fillFrom_85 rfl (by rfl) (by decide) rfl ?_
        refine J_goto 54 dX6_fillFrom_88 (by decide) ?_
        exact J_lv [1, 2, 3, 4, 0] rfl (ih x2 x3 (x4 + 1) (sA st_6 r_4 (x4 : Int32).toNatClampNeg z_5) h)
set_option maxRecDepth 100000 in
set_option maxHeartbeats 4000000 in
theorem K_X6_fillFrom_46 {l : Launch} {E : En}   (a0 : Nat) (a1 : Int32)  {post : St → Prop}   : ∀ (n9 : Nat) (x2 : Int32) (x3 : Int32) (st : St), P_X6_fillFrom_46  a0 a1  post n9 x2 x3 st → Jg l E (CFc E) (Rm 4 0 0) cX6_fillFrom 5 RX6 none (fun _ => True) (QV E post 0 0) 0 0 46 [(0, .ref a0), (1, .int a1), (2, .int x2), (3, .int x3)] [] st := by
  intro n9
  induction n9 with
  | zero => intro x2 x3 st h; exact h.elim
  | succ n9 ih =>
    intro x2 x3 st h
    unfold P_X6_fillFrom_46 at h
    refine J_iload_n 3 dX6_fillFrom_46 rfl rfl ?_
    refine J_iload_n 1 dX6_fillFrom_47 rfl rfl ?_
    refine J_icmp_lt 97 dX6_fillFrom_48 (by decide) (fun hc => ?_) (fun hc => ?_)
    · have h := h.1 hc
      exact J_retv rfl dX6_fillFrom_97 h
    · have h := h.2 hc
      refine J_iconst 0 dX6_fillFrom_51 (by decide) ?_
      refine J_istore _ dX6_fillFrom_52 (by decide) rfl ?_
      obtain ⟨n8, h⟩ := h
      exact J_lv [1, 2, 3, 4, 0] rfl (K_X6_fillFrom_54   a0 a1 (fun x2 x3 st h => ih x2 x3 st h) n8 x2 x3 0 st h)
set_option maxRecDepth 100000 in
set_option maxHeartbeats 4000000 in
theorem K_X6_fillFrom_15 {l : Launch} {E : En}   (a0 : Nat) (a1 : Int32)  {post : St → Prop}   : ∀ (n9 : Nat) (x2 : Int32) (x3 : Int32) (st : St), P_X6_fillFrom_15  a0 a1  post n9 x2 x3 st → Jg l E (CFc E) (Rm 4 0 0) cX6_fillFrom 5 RX6 none (fun _ => True) (QV E post 0 0) 0 0 15 [(0, .ref a0), (1, .int a1), (2, .int x2), (3, .int x3)] [] st := by
  intro n9
  induction n9 with
  | zero => intro x2 x3 st h; exact h.elim
  | succ n9 ih =>
    intro x2 x3 st h
    unfold P_X6_fillFrom_15 at h
    refine J_iload_n 3 dX6_fillFrom_15 rfl rfl ?_
    refine J_iload_n 2 dX6_fillFrom_16 rfl rfl ?_
    refine J_icmp_ge 33 dX6_fillFrom_17 (by decide) (fun hc => ?_) (fun hc => ?_)
    · have h := h.1 hc
      refine J_aload_n 0 dX6_fillFrom_33 rfl rfl ?_
      obtain ⟨r_1, hf, h⟩ := h
      refine J_getR fl_RX6_18 dX6_fillFrom_34 hf ?_
      obtain ⟨r_2, hf, h⟩ := h
      refine J_getR fl_RX6_22 dX6_fillFrom_37 hf ?_
      obtain ⟨hf, h⟩ := h
      refine J_getI fl_RX6_61 dX6_fillFrom_40 hf ?_
      refine J_iconst 1 dX6_fillFrom_43 (by decide) ?_
      refine J_isub dX6_fillFrom_44 ?_
      refine J_istore_n _ dX6_fillFrom_45 rfl (by decide) rfl ?_
      obtain ⟨n8, h⟩ := h
      exact J_lv [1, 2, 3, 0] rfl (K_X6_fillFrom_46   a0 a1  n8 x2 ((gI st r_2 1) - 1) st h)
    · have h := h.2 hc
      refine J_aload_n 0 dX6_fillFrom_20 rfl rfl ?_
      obtain ⟨r_3, hf, h⟩ := h
      refine J_getR fl_RX6_15 dX6_fillFrom_21 hf ?_
      refine J_iload_n 3 dX6_fillFrom_24 rfl rfl ?_
      refine J_iconst 0 dX6_fillFrom_25 (by decide) ?_
      obtain ⟨hi, h⟩ := h
      refine J_iast dX6_fillFrom_26 hi ?_
      refine J_iinc 3 (x3 + 1) _ dX6_fillFrom_27 rfl (by rfl) (by decide) rfl ?_
      refine J_goto 15 dX6_fillFrom_30 (by decide) ?_
      exact J_lv [1, 2, 3, 0] rfl (ih x2 (x3 + 1) (sA st r_3 (x3 : Int32).toNatClampNeg 0) h)
set_option maxRecDepth 100000 in
set_option maxHeartbeats 4000000 in
theorem ct_X6_fillFrom {l : Launch} {E : En}  {a0 : Nat} {a1 : Int32} {st : St} {post : St → Prop} (h : P_X6_fillFrom  a0 a1 st post) : CtV l E (CFc E) 4 0 0 yX6_fillFrom cX6_fillFrom 5 none [.ref a0, .int a1] st post := by
  refine ctV_of (by decide) (Nat.le_of_ble_eq_true rfl) ?_
  show Jg l E (CFc E) (Rm 4 0 0) cX6_fillFrom 5 RX6 none (fun _ => True) (QV E post 0 0) 0 0 0 [(0, .ref a0), (1, .int a1)] [] st
  unfold P_X6_fillFrom at h
  refine J_iconst 1 dX6_fillFrom_0 (by decide) ?_
  refine J_aload_n 0 dX6_fillFrom_1 rfl rfl ?_
  obtain ⟨r_1, hf, h⟩ := h
  refine J_getR fl_RX6_18 dX6_fillFrom_2 hf ?_
  obtain ⟨r_2, hf, h⟩ := h
  refine J_getR fl_RX6_22 dX6_fillFrom_5 hf ?_
  obtain ⟨hf, h⟩ := h
  refine J_getI fl_RX6_28 dX6_fillFrom_8 hf ?_
  refine J_ishl dX6_fillFrom_11 ?_
  refine J_istore_n _ dX6_fillFrom_12 rfl (by decide) rfl ?_
  refine J_iconst 0 dX6_fillFrom_13 (by decide) ?_
  refine J_istore_n _ dX6_fillFrom_14 rfl (by decide) rfl ?_
  obtain ⟨n8, h⟩ := h
  exact J_lv [2, 3, 1, 0] rfl (K_X6_fillFrom_15   a0 a1  n8 ((1 : Int32) <<< ((gI st r_2 0 : Int32) &&& 31)) 0 st h)
/-! X6_mostTogether -/
def P_X6_mostTogether  (a0 : Nat) (st : St) (post : Int32 → St → Prop) : Prop := oC a0 6 ∧ P_X6_weighForAll  a0 st (fun st_2 => oC a0 6 ∧ P_X6_fillFrom  a0 0 st_2 (fun st_4 => ∃ r_5, rv st_4 a0 6 2 = some r_5 ∧ vp_in 0 (al 0 r_5) ∧ post (gA st_4 r_5 (0 : Int32).toNatClampNeg) st_4))
set_option maxRecDepth 100000 in
set_option maxHeartbeats 4000000 in
theorem ct_X6_mostTogether {l : Launch} {E : En}  {a0 : Nat} {st : St} {post : Int32 → St → Prop} (h : P_X6_mostTogether  a0 st post) : CtI l E (CFc E) 6 0 0 yX6_mostTogether cX6_mostTogether 1 (some .int) [.ref a0] st post := by
  refine ctI_of (by decide) (Nat.le_of_ble_eq_true rfl) ?_
  show Jg l E (CFc E) (Rm 6 0 0) cX6_mostTogether 1 RX6 (some .int) (fun _ => True) (QI E post 0 0) 0 0 0 [(0, .ref a0)] [] st
  unfold P_X6_mostTogether at h
  refine J_aload_n 0 dX6_mostTogether_0 rfl rfl ?_
  obtain ⟨ho, h⟩ := h
  refine J_cvv (As := []) md_X6_weighForAll k_553 (rc_obj cl_6 ho) rfl rfl ⟨Nat.le_of_ble_eq_true rfl, Nat.le_of_ble_eq_true rfl⟩ ⟨Nat.le_of_ble_eq_true rfl, Nat.le_of_ble_eq_true rfl⟩ (Nat.le_of_ble_eq_true rfl) dX6_mostTogether_1 (ct_X6_weighForAll  h) (fun st_2 h => ?_)
  refine J_aload_n 0 dX6_mostTogether_4 rfl rfl ?_
  refine J_iconst 0 dX6_mostTogether_5 (by decide) ?_
  obtain ⟨ho, h⟩ := h
  refine J_cvv (As := [_]) md_X6_fillFrom k_556 (rc_obj cl_6 ho) rfl rfl ⟨Nat.le_of_ble_eq_true rfl, Nat.le_of_ble_eq_true rfl⟩ ⟨Nat.le_of_ble_eq_true rfl, Nat.le_of_ble_eq_true rfl⟩ (Nat.le_of_ble_eq_true rfl) dX6_mostTogether_6 (ct_X6_fillFrom  h) (fun st_4 h => ?_)
  refine J_aload_n 0 dX6_mostTogether_9 rfl rfl ?_
  obtain ⟨r_5, hf, h⟩ := h
  refine J_getR fl_RX6_15 dX6_mostTogether_10 hf ?_
  refine J_iconst 0 dX6_mostTogether_13 (by decide) ?_
  obtain ⟨hi, h⟩ := h
  refine J_iald dX6_mostTogether_14 hi ?_
  exact J_reti rfl dX6_mostTogether_15 h
/-! X6_chosenFor -/
def P_X6_chosenFor_77  (a0 : Nat) (a1 : Int32) (k13 : Int32 → Int32 → Int32 → Int32 → St → Prop) (post : Int32 → St → Prop) (x2 : Int32) (x3 : Int32) (x4 : Int32) (x5 : Int32) (st : St) : Prop := k13 x2 x3 x4 (x5 + 1) st
def P_X6_chosenFor_51  (a0 : Nat) (a1 : Int32) (k13 : Int32 → Int32 → Int32 → Int32 → St → Prop) (post : Int32 → St → Prop) (x2 : Int32) (x3 : Int32) (x5 : Int32) (s0 : Int32) (st : St) : Prop := ((s0 = (-1) → P_X6_chosenFor_77  a0 a1 k13 post x2 x3 s0 x5 st) ∧ (¬ s0 = (-1) → oC a0 6 ∧ P_X6_weightOf  a0 s0 x5 st (fun z_1 st_2 => P_X6_chosenFor_77  a0 a1 k13 post (x2 - z_1) (x3 ||| ((1 : Int32) <<< ((s0 : Int32) &&& 31))) s0 x5 st_2)))
def P_X6_chosenFor_13  (a0 : Nat) (a1 : Int32)  (post : Int32 → St → Prop) : Nat → Int32 → Int32 → Int32 → Int32 → St → Prop
  | 0, _, _, _, _, _ => False
  | n9 + 1, x2, x3, x4, x5, st => ((a1 < x5 → post x4 st) ∧ (¬ a1 < x5 → oC a0 6 ∧ P_X6_fillFrom  a0 (x5 + 1) st (fun st_2 => ∃ r_3, rv st_2 a0 6 0 = some r_3 ∧ oC r_3 2 ∧ P_X2_isHome  r_3 x5 st_2 (fun z_4 st_5 => ((z_4 = 0 → P_X6_chosenFor_51  a0 a1 (fun x2 x3 x4 x5 st => P_X6_chosenFor_13  a0 a1  post n9 x2 x3 x4 x5 st) post x2 x3 x5 (-1) st_5) ∧ (¬ z_4 = 0 → oC a0 6 ∧ P_X6_firstThatFits  a0 x5 x3 x2 st_5 (fun z_6 st_7 => P_X6_chosenFor_51  a0 a1 (fun x2 x3 x4 x5 st => P_X6_chosenFor_13  a0 a1  post n9 x2 x3 x4 x5 st) post x2 x3 x5 z_6 st_7)))))))
def P_X6_chosenFor  (a0 : Nat) (a1 : Int32) (st : St) (post : Int32 → St → Prop) : Prop := oC a0 6 ∧ P_X6_mostTogether  a0 st (fun z_1 st_2 => ∃ n8, P_X6_chosenFor_13  a0 a1  post n8 z_1 0 (-1) 0 st_2)
set_option maxRecDepth 100000 in
set_option maxHeartbeats 4000000 in
theorem K_X6_chosenFor_77 {l : Launch} {E : En}   (a0 : Nat) (a1 : Int32) {k13 : Int32 → Int32 → Int32 → Int32 → St → Prop} {post : Int32 → St → Prop}  (hk13 : ∀ (x2 : Int32) (x3 : Int32) (x4 : Int32) (x5 : Int32) (st : St), k13 x2 x3 x4 x5 st → Jg l E (CFc E) (Rm 7 0 0) cX6_chosenFor 6 RX6 (some .int) (fun _ => True) (QI E post 0 0) 0 0 13 [(0, .ref a0), (1, .int a1), (2, .int x2), (3, .int x3), (4, .int x4), (5, .int x5)] [] st) (x2 : Int32) (x3 : Int32) (x4 : Int32) (x5 : Int32) (st : St) (h : P_X6_chosenFor_77  a0 a1 k13 post x2 x3 x4 x5 st) : Jg l E (CFc E) (Rm 7 0 0) cX6_chosenFor 6 RX6 (some .int) (fun _ => True) (QI E post 0 0) 0 0 77 [(0, .ref a0), (1, .int a1), (2, .int x2), (3, .int x3), (4, .int x4), (5, .int x5)] [] st := by
  unfold P_X6_chosenFor_77 at h
  refine J_iinc 5 (x5 + 1) _ dX6_chosenFor_77 rfl (by rfl) (by decide) rfl ?_
  refine J_goto 13 dX6_chosenFor_80 (by decide) ?_
  exact J_lv [1, 2, 3, 4, 5, 0] rfl (hk13 x2 x3 x4 (x5 + 1) st h)
set_option maxRecDepth 100000 in
set_option maxHeartbeats 4000000 in
theorem K_X6_chosenFor_51 {l : Launch} {E : En}   (a0 : Nat) (a1 : Int32) {k13 : Int32 → Int32 → Int32 → Int32 → St → Prop} {post : Int32 → St → Prop}  (hk13 : ∀ (x2 : Int32) (x3 : Int32) (x4 : Int32) (x5 : Int32) (st : St), k13 x2 x3 x4 x5 st → Jg l E (CFc E) (Rm 7 0 0) cX6_chosenFor 6 RX6 (some .int) (fun _ => True) (QI E post 0 0) 0 0 13 [(0, .ref a0), (1, .int a1), (2, .int x2), (3, .int x3), (4, .int x4), (5, .int x5)] [] st) (x2 : Int32) (x3 : Int32) (x5 : Int32) (s0 : Int32) (st : St) (h : P_X6_chosenFor_51  a0 a1 k13 post x2 x3 x5 s0 st) : Jg l E (CFc E) (Rm 7 0 0) cX6_chosenFor 6 RX6 (some .int) (fun _ => True) (QI E post 0 0) 0 0 51 [(0, .ref a0), (1, .int a1), (2, .int x2), (3, .int x3), (5, .int x5)] [.int s0] st := by
  unfold P_X6_chosenFor_51 at h
  refine J_istore _ dX6_chosenFor_51 (by decide) rfl ?_
  refine J_iload 0 dX6_chosenFor_53 rfl ?_
  refine J_iconst (-1) dX6_chosenFor_55 (by decide) ?_
  refine J_icmp_eq 77 dX6_chosenFor_56 (by decide) (fun hc => ?_) (fun hc => ?_)
  · have h := h.1 hc
    exact J_lv [1, 2, 3, 4, 0, 5] rfl (K_X6_chosenFor_77   a0 a1 hk13 x2 x3 s0 x5 st h)
  · have h := h.2 hc
    refine J_iload_n 4 dX6_chosenFor_59 rfl rfl ?_
    refine J_iconst 1 dX6_chosenFor_60 (by decide) ?_
    refine J_iload 0 dX6_chosenFor_61 rfl ?_
    refine J_ishl dX6_chosenFor_63 ?_
    refine J_ior dX6_chosenFor_64 ?_
    refine J_istore_n _ dX6_chosenFor_65 rfl (by decide) rfl ?_
    refine J_iload_n 4 dX6_chosenFor_66 rfl rfl ?_
    refine J_aload_n 2 dX6_chosenFor_67 rfl rfl ?_
    refine J_iload 1 dX6_chosenFor_68 rfl ?_
    refine J_iload 5 dX6_chosenFor_70 rfl ?_
    obtain ⟨ho, h⟩ := h
    refine J_cvi (As := [_, _]) md_X6_weightOf k_524 (rc_obj cl_6 ho) rfl rfl ⟨Nat.le_of_ble_eq_true rfl, Nat.le_of_ble_eq_true rfl⟩ ⟨Nat.le_of_ble_eq_true rfl, Nat.le_of_ble_eq_true rfl⟩ (Nat.le_of_ble_eq_true rfl) dX6_chosenFor_72 (ct_X6_weightOf  h) (fun z_1 st_2 h => ?_)
    refine J_isub dX6_chosenFor_75 ?_
    refine J_istore_n _ dX6_chosenFor_76 rfl (by decide) rfl ?_
    exact J_lv [3, 4, 0, 1, 2, 5] rfl (K_X6_chosenFor_77   a0 a1 hk13 (x2 - z_1) (x3 ||| ((1 : Int32) <<< ((s0 : Int32) &&& 31))) s0 x5 st_2 h)
set_option maxRecDepth 100000 in
set_option maxHeartbeats 4000000 in
theorem K_X6_chosenFor_13 {l : Launch} {E : En}   (a0 : Nat) (a1 : Int32)  {post : Int32 → St → Prop}   : ∀ (n9 : Nat) (x2 : Int32) (x3 : Int32) (x4 : Int32) (x5 : Int32) (st : St), P_X6_chosenFor_13  a0 a1  post n9 x2 x3 x4 x5 st → Jg l E (CFc E) (Rm 7 0 0) cX6_chosenFor 6 RX6 (some .int) (fun _ => True) (QI E post 0 0) 0 0 13 [(0, .ref a0), (1, .int a1), (2, .int x2), (3, .int x3), (4, .int x4), (5, .int x5)] [] st := by
  intro n9
  induction n9 with
  | zero => intro x2 x3 x4 x5 st h; exact h.elim
  | succ n9 ih =>
    intro x2 x3 x4 x5 st h
    unfold P_X6_chosenFor_13 at h
    refine J_iload 5 dX6_chosenFor_13 rfl ?_
    refine J_iload_n 1 dX6_chosenFor_15 rfl rfl ?_
    refine J_icmp_gt 83 dX6_chosenFor_16 (by decide) (fun hc => ?_) (fun hc => ?_)
    · have h := h.1 hc
      refine J_iload 4 dX6_chosenFor_83 rfl ?_
      exact J_reti rfl dX6_chosenFor_85 h
    · have h := h.2 hc
      refine J_aload_n 0 dX6_chosenFor_19 rfl rfl ?_
      refine J_iload 5 dX6_chosenFor_20 rfl ?_
      refine J_iconst 1 dX6_chosenFor_22 (by decide) ?_
      refine J_iadd dX6_chosenFor_23 ?_
      obtain ⟨ho, h⟩ := h
      refine J_cvv (As := [_]) md_X6_fillFrom k_556 (rc_obj cl_6 ho) rfl rfl ⟨Nat.le_of_ble_eq_true rfl, Nat.le_of_ble_eq_true rfl⟩ ⟨Nat.le_of_ble_eq_true rfl, Nat.le_of_ble_eq_true rfl⟩ (Nat.le_of_ble_eq_true rfl) dX6_chosenFor_24 (ct_X6_fillFrom  h) (fun st_2 h => ?_)
      refine J_aload_n 0 dX6_chosenFor_27 rfl rfl ?_
      obtain ⟨r_3, hf, h⟩ := h
      refine J_getR fl_RX6_18 dX6_chosenFor_28 hf ?_
      refine J_iload 5 dX6_chosenFor_31 rfl ?_
      obtain ⟨ho, h⟩ := h
      refine J_cvi (As := [_]) md_X2_isHome k_548 (rc_obj cl_2 ho) rfl rfl ⟨Nat.le_of_ble_eq_true rfl, Nat.le_of_ble_eq_true rfl⟩ ⟨Nat.le_of_ble_eq_true rfl, Nat.le_of_ble_eq_true rfl⟩ (Nat.le_of_ble_eq_true rfl) dX6_chosenFor_33 (ct_X2_isHome  h) (fun z_4 st_5 h => ?_)
      refine J_if_eq 50 dX6_chosenFor_36 (by decide) (fun hc => ?_) (fun hc => ?_)
      · have h := h.1 hc
        refine J_iconst (-1) dX6_chosenFor_50 (by decide) ?_
        exact J_lv [0, 1, 2, 3, 5] rfl (K_X6_chosenFor_51   a0 a1 (fun x2 x3 x4 x5 st h => ih x2 x3 x4 x5 st h) x2 x3 x5 (-1) st_5 h)
      · have h := h.2 hc
        refine J_aload_n 0 dX6_chosenFor_39 rfl rfl ?_
        refine J_iload 5 dX6_chosenFor_40 rfl ?_
        refine J_iload_n 3 dX6_chosenFor_42 rfl rfl ?_
        refine J_iload_n 2 dX6_chosenFor_43 rfl rfl ?_
        obtain ⟨ho, h⟩ := h
        refine J_cvi (As := [_, _, _]) md_X6_firstThatFits k_564 (rc_obj cl_6 ho) rfl rfl ⟨Nat.le_of_ble_eq_true rfl, Nat.le_of_ble_eq_true rfl⟩ ⟨Nat.le_of_ble_eq_true rfl, Nat.le_of_ble_eq_true rfl⟩ (Nat.le_of_ble_eq_true rfl) dX6_chosenFor_44 (ct_X6_firstThatFits  h) (fun z_6 st_7 h => ?_)
        refine J_goto 51 dX6_chosenFor_47 (by decide) ?_
        exact J_lv [0, 1, 2, 3, 5] rfl (K_X6_chosenFor_51   a0 a1 (fun x2 x3 x4 x5 st h => ih x2 x3 x4 x5 st h) x2 x3 x5 z_6 st_7 h)
set_option maxRecDepth 100000 in
set_option maxHeartbeats 4000000 in
theorem ct_X6_chosenFor {l : Launch} {E : En}  {a0 : Nat} {a1 : Int32} {st : St} {post : Int32 → St → Prop} (h : P_X6_chosenFor  a0 a1 st post) : CtI l E (CFc E) 7 0 0 yX6_chosenFor cX6_chosenFor 6 (some .int) [.ref a0, .int a1] st post := by
  refine ctI_of (by decide) (Nat.le_of_ble_eq_true rfl) ?_
  show Jg l E (CFc E) (Rm 7 0 0) cX6_chosenFor 6 RX6 (some .int) (fun _ => True) (QI E post 0 0) 0 0 0 [(0, .ref a0), (1, .int a1)] [] st
  unfold P_X6_chosenFor at h
  refine J_aload_n 0 dX6_chosenFor_0 rfl rfl ?_
  obtain ⟨ho, h⟩ := h
  refine J_cvi (As := []) md_X6_mostTogether k_561 (rc_obj cl_6 ho) rfl rfl ⟨Nat.le_of_ble_eq_true rfl, Nat.le_of_ble_eq_true rfl⟩ ⟨Nat.le_of_ble_eq_true rfl, Nat.le_of_ble_eq_true rfl⟩ (Nat.le_of_ble_eq_true rfl) dX6_chosenFor_1 (ct_X6_mostTogether  h) (fun z_1 st_2 h => ?_)
  refine J_istore_n _ dX6_chosenFor_4 rfl (by decide) rfl ?_
  refine J_iconst 0 dX6_chosenFor_5 (by decide) ?_
  refine J_istore_n _ dX6_chosenFor_6 rfl (by decide) rfl ?_
  refine J_iconst (-1) dX6_chosenFor_7 (by decide) ?_
  refine J_istore _ dX6_chosenFor_8 (by decide) rfl ?_
  refine J_iconst 0 dX6_chosenFor_10 (by decide) ?_
  refine J_istore _ dX6_chosenFor_11 (by decide) rfl ?_
  obtain ⟨n8, h⟩ := h
  exact J_lv [4, 5, 3, 2, 1, 0] rfl (K_X6_chosenFor_13   a0 a1  n8 z_1 0 (-1) 0 st_2 h)
