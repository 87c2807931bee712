/-! X12_thrown -/
def P_X12_thrown  (a0 : Nat) (st : St) (post : Int32 → St → Prop) : Prop := fk a0 12 4 = some 0 ∧ post (gI st a0 4) st
set_option maxRecDepth 100000 in
set_option maxHeartbeats 4000000 in
theorem ct_X12_thrown {l : Launch} {E : En}  {a0 : Nat} {st : St} {post : Int32 → St → Prop} (h : P_X12_thrown  a0 st post) : CtI l E (CFc E) 1 0 0 yX12_thrown cX12_thrown 1 (some .int) [.ref a0] st post := by
  refine ctI_of (by decide) (Nat.le_of_ble_eq_true rfl) ?_
  show Jg l E (CFc E) (Rm 1 0 0) cX12_thrown 1 RX12 (some .int) (fun _ => True) (QI E post 0 0) 0 0 0 [(0, .ref a0)] [] st
  unfold P_X12_thrown at h
  refine J_aload_n 0 dX12_thrown_0 rfl rfl ?_
  obtain ⟨hf, h⟩ := h
  refine J_getI fl_RX12_184 dX12_thrown_1 hf ?_
  exact J_reti rfl dX12_thrown_4 h
/-! X12_fail -/
def P_X12_fail  (a0 : Nat) (a1 : Int32) (st : St) (post : Int32 → St → Prop) : Prop := fk a0 12 4 = some 0 ∧ post 0 (sI st a0 4 a1)
set_option maxRecDepth 100000 in
set_option maxHeartbeats 4000000 in
theorem ct_X12_fail {l : Launch} {E : En}  {a0 : Nat} {a1 : Int32} {st : St} {post : Int32 → St → Prop} (h : P_X12_fail  a0 a1 st post) : CtI l E (CFc E) 1 0 0 yX12_fail cX12_fail 2 (some .int) [.ref a0, .int a1] st post := by
  refine ctI_of (by decide) (Nat.le_of_ble_eq_true rfl) ?_
  show Jg l E (CFc E) (Rm 1 0 0) cX12_fail 2 RX12 (some .int) (fun _ => True) (QI E post 0 0) 0 0 0 [(0, .ref a0), (1, .int a1)] [] st
  unfold P_X12_fail at h
  refine J_aload_n 0 dX12_fail_0 rfl rfl ?_
  refine J_iload_n 1 dX12_fail_1 rfl rfl ?_
  obtain ⟨hf, h⟩ := h
  refine J_putI fp_RX12_184 dX12_fail_2 rfl hf ?_
  refine J_iconst 0 dX12_fail_5 (by decide) ?_
  exact J_reti rfl dX12_fail_6 h
/-! X12_isIn -/
def P_X12_isIn_18  (a0 : Int64) (a2 : Int64) (a4 : Int64)  (post : Int32 → St → Prop) (s0 : Int32) (st : St) : Prop := (s0 = 0 ∨ s0 = 1) ∧ post s0 st
def P_X12_isIn_17  (a0 : Int64) (a2 : Int64) (a4 : Int64)  (post : Int32 → St → Prop)  (st : St) : Prop := P_X12_isIn_18  a0 a2 a4  post 0 st
def P_X12_isIn  (a0 : Int64) (a2 : Int64) (a4 : Int64) (st : St) (post : Int32 → St → Prop) : Prop := (((lg_cmp a0 a2) < 0 → P_X12_isIn_17  a0 a2 a4  post st) ∧ (¬ (lg_cmp a0 a2) < 0 → ((0 < (lg_cmp a0 a4) → P_X12_isIn_17  a0 a2 a4  post st) ∧ (¬ 0 < (lg_cmp a0 a4) → P_X12_isIn_18  a0 a2 a4  post 1 st))))
set_option maxRecDepth 100000 in
set_option maxHeartbeats 4000000 in
theorem K_X12_isIn_18 {l : Launch} {E : En}   (a0 : Int64) (a2 : Int64) (a4 : Int64)  {post : Int32 → St → Prop}   (s0 : Int32) (st : St) (h : P_X12_isIn_18  a0 a2 a4  post s0 st) : Jg l E (CFc E) (Rm 1 0 0) cX12_isIn 6 RX12 (some .boolean) (fun _ => True) (QI E post 0 0) 0 0 18 [(0, .long a0), (2, .long a2), (4, .long a4)] [.int s0] st := by
  unfold P_X12_isIn_18 at h
  exact J_retz rfl h.1 dX12_isIn_18 h.2
set_option maxRecDepth 100000 in
set_option maxHeartbeats 4000000 in
theorem K_X12_isIn_17 {l : Launch} {E : En}   (a0 : Int64) (a2 : Int64) (a4 : Int64)  {post : Int32 → St → Prop}    (st : St) (h : P_X12_isIn_17  a0 a2 a4  post  st) : Jg l E (CFc E) (Rm 1 0 0) cX12_isIn 6 RX12 (some .boolean) (fun _ => True) (QI E post 0 0) 0 0 17 [(0, .long a0), (2, .long a2), (4, .long a4)] [] st := by
  unfold P_X12_isIn_17 at h
  refine J_iconst 0 dX12_isIn_17 (by decide) ?_
  exact J_lv [0, 1, 2] rfl (K_X12_isIn_18   a0 a2 a4  0 st h)
set_option maxRecDepth 100000 in
set_option maxHeartbeats 4000000 in
theorem ct_X12_isIn {l : Launch} {E : En}  {a0 : Int64} {a2 : Int64} {a4 : Int64} {st : St} {post : Int32 → St → Prop} (h : P_X12_isIn  a0 a2 a4 st post) : CtI l E (CFc E) 1 0 0 yX12_isIn cX12_isIn 6 (some .boolean) [.long a0, .long a2, .long a4] st post := by
  refine ctI_of (by decide) (Nat.le_of_ble_eq_true rfl) ?_
  show Jg l E (CFc E) (Rm 1 0 0) cX12_isIn 6 RX12 (some .boolean) (fun _ => True) (QI E post 0 0) 0 0 0 [(0, .long a0), (2, .long a2), (4, .long a4)] [] st
  unfold P_X12_isIn at h
  refine J_lload_n 0 dX12_isIn_0 rfl rfl ?_
  refine J_lload_n 1 dX12_isIn_1 rfl rfl ?_
  refine J_lcmp dX12_isIn_2 ?_
  refine J_if_lt 17 dX12_isIn_3 (by decide) (fun hc => ?_) (fun hc => ?_)
  · have h := h.1 hc
    exact J_lv [0, 1, 2] rfl (K_X12_isIn_17   a0 a2 a4  st h)
  · have h := h.2 hc
    refine J_lload_n 0 dX12_isIn_6 rfl rfl ?_
    refine J_lload 2 dX12_isIn_7 rfl ?_
    refine J_lcmp dX12_isIn_9 ?_
    refine J_if_gt 17 dX12_isIn_10 (by decide) (fun hc => ?_) (fun hc => ?_)
    · have h := h.1 hc
      exact J_lv [0, 1, 2] rfl (K_X12_isIn_17   a0 a2 a4  st h)
    · have h := h.2 hc
      refine J_iconst 1 dX12_isIn_13 (by decide) ?_
      refine J_goto 18 dX12_isIn_14 (by decide) ?_
      exact J_lv [0, 1, 2] rfl (K_X12_isIn_18   a0 a2 a4  1 st h)
/-! X12_isOf -/
def P_X12_isOf_14  (a0 : Int32) (a1 : Int32)  (post : Int32 → St → Prop) (s0 : Int32) (st : St) : Prop := (s0 = 0 ∨ s0 = 1) ∧ post s0 st
def P_X12_isOf  (a0 : Int32) (a1 : Int32) (st : St) (post : Int32 → St → Prop) : Prop := ((¬ (((a0 : Int32) >>> ((a1 : Int32) &&& 31)) &&& 1) = 1 → P_X12_isOf_14  a0 a1  post 0 st) ∧ ((((a0 : Int32) >>> ((a1 : Int32) &&& 31)) &&& 1) = 1 → P_X12_isOf_14  a0 a1  post 1 st))
set_option maxRecDepth 100000 in
set_option maxHeartbeats 4000000 in
theorem K_X12_isOf_14 {l : Launch} {E : En}   (a0 : Int32) (a1 : Int32)  {post : Int32 → St → Prop}   (s0 : Int32) (st : St) (h : P_X12_isOf_14  a0 a1  post s0 st) : Jg l E (CFc E) (Rm 1 0 0) cX12_isOf 2 RX12 (some .boolean) (fun _ => True) (QI E post 0 0) 0 0 14 [(0, .int a0), (1, .int a1)] [.int s0] st := by
  unfold P_X12_isOf_14 at h
  exact J_retz rfl h.1 dX12_isOf_14 h.2
set_option maxRecDepth 100000 in
set_option maxHeartbeats 4000000 in
theorem ct_X12_isOf {l : Launch} {E : En}  {a0 : Int32} {a1 : Int32} {st : St} {post : Int32 → St → Prop} (h : P_X12_isOf  a0 a1 st post) : CtI l E (CFc E) 1 0 0 yX12_isOf cX12_isOf 2 (some .boolean) [.int a0, .int a1] st post := by
  refine ctI_of (by decide) (Nat.le_of_ble_eq_true rfl) ?_
  show Jg l E (CFc E) (Rm 1 0 0) cX12_isOf 2 RX12 (some .boolean) (fun _ => True) (QI E post 0 0) 0 0 0 [(0, .int a0), (1, .int a1)] [] st
  unfold P_X12_isOf at h
  refine J_iload_n 0 dX12_isOf_0 rfl rfl ?_
  refine J_iload_n 1 dX12_isOf_1 rfl rfl ?_
  refine J_ishr dX12_isOf_2 ?_
  refine J_iconst 1 dX12_isOf_3 (by decide) ?_
  refine J_iand dX12_isOf_4 ?_
  refine J_iconst 1 dX12_isOf_5 (by decide) ?_
  refine J_icmp_ne 13 dX12_isOf_6 (by decide) (fun hc => ?_) (fun hc => ?_)
  · have h := h.1 hc
    refine J_iconst 0 dX12_isOf_13 (by decide) ?_
    exact J_lv [0, 1] rfl (K_X12_isOf_14   a0 a1  0 st h)
  · have h := h.2 hc
    refine J_iconst 1 dX12_isOf_9 (by decide) ?_
    refine J_goto 14 dX12_isOf_10 (by decide) ?_
    exact J_lv [0, 1] rfl (K_X12_isOf_14   a0 a1  1 st h)
/-! X12_bitsOf -/
def P_X12_bitsOf_4  (a0 : Int32)  (post : Int32 → St → Prop) : Nat → Int32 → Int32 → St → Prop
  | 0, _, _, _ => False
  | n9 + 1, x1, x2, st => ((x2 = 0 → post x1 st) ∧ (¬ x2 = 0 → P_X12_bitsOf_4  a0  post n9 (x1 + 1) (x2 &&& (x2 - 1)) st))
def P_X12_bitsOf  (a0 : Int32) (st : St) (post : Int32 → St → Prop) : Prop := ∃ n8, P_X12_bitsOf_4  a0  post n8 0 a0 st
set_option maxRecDepth 100000 in
set_option maxHeartbeats 4000000 in
theorem K_X12_bitsOf_4 {l : Launch} {E : En}   (a0 : Int32)  {post : Int32 → St → Prop}   : ∀ (n9 : Nat) (x1 : Int32) (x2 : Int32) (st : St), P_X12_bitsOf_4  a0  post n9 x1 x2 st → Jg l E (CFc E) (Rm 1 0 0) cX12_bitsOf 3 RX12 (some .int) (fun _ => True) (QI E post 0 0) 0 0 4 [(0, .int a0), (1, .int x1), (2, .int x2)] [] st := by
  intro n9
  induction n9 with
  | zero => intro x1 x2 st h; exact h.elim
  | succ n9 ih =>
    intro x1 x2 st h
    unfold P_X12_bitsOf_4 at h
    refine J_iload_n 2 dX12_bitsOf_4 rfl rfl ?_
    refine J_if_eq 20 dX12_bitsOf_5 (by decide) (fun hc => ?_) (fun hc => ?_)
    · have h := h.1 hc
      refine J_iload_n 1 dX12_bitsOf_20 rfl rfl ?_
      exact J_reti rfl dX12_bitsOf_21 h
    · have h := h.2 hc
      refine J_iinc 1 (x1 + 1) _ dX12_bitsOf_8 rfl (by rfl) (by decide) rfl ?_
      refine J_iload_n 2 dX12_bitsOf_11 rfl rfl ?_
      refine J_iload_n 2 dX12_bitsOf_12 rfl rfl ?_
      refine J_iconst 1 dX12_bitsOf_13 (by decide) ?_
      refine J_isub dX12_bitsOf_14 ?_
      refine J_iand dX12_bitsOf_15 ?_
      refine J_istore_n _ dX12_bitsOf_16 rfl (by decide) rfl ?_
      refine J_goto 4 dX12_bitsOf_17 (by decide) ?_
      exact J_lv [2, 1, 0] rfl (ih (x1 + 1) (x2 &&& (x2 - 1)) st h)
set_option maxRecDepth 100000 in
set_option maxHeartbeats 4000000 in
theorem ct_X12_bitsOf {l : Launch} {E : En}  {a0 : Int32} {st : St} {post : Int32 → St → Prop} (h : P_X12_bitsOf  a0 st post) : CtI l E (CFc E) 1 0 0 yX12_bitsOf cX12_bitsOf 3 (some .int) [.int a0] st post := by
  refine ctI_of (by decide) (Nat.le_of_ble_eq_true rfl) ?_
  show Jg l E (CFc E) (Rm 1 0 0) cX12_bitsOf 3 RX12 (some .int) (fun _ => True) (QI E post 0 0) 0 0 0 [(0, .int a0)] [] st
  unfold P_X12_bitsOf at h
  refine J_iconst 0 dX12_bitsOf_0 (by decide) ?_
  refine J_istore_n _ dX12_bitsOf_1 rfl (by decide) rfl ?_
  refine J_iload_n 1 dX12_bitsOf_2 rfl rfl ?_
  refine J_istore_n _ dX12_bitsOf_3 rfl (by decide) rfl ?_
  obtain ⟨n8, h⟩ := h
  exact J_lv [2, 1, 0] rfl (K_X12_bitsOf_4   a0  n8 0 a0 st h)
/-! X12_isPerson -/
def P_X12_isPerson  (a0 : Nat) (a1 : Int32) (st : St) (post : Int32 → St → Prop) : Prop := ∃ r_1, rv st a0 12 5 = some r_1 ∧ vp_in 0 (al 0 r_1) ∧ P_X12_isIn  ((a1 : Int32).toInt64) 0 (((gA st r_1 (0 : Int32).toNatClampNeg) - 1 : Int32).toInt64) st (fun z_2 st_3 => (z_2 = 0 ∨ z_2 = 1) ∧ post z_2 st_3)
set_option maxRecDepth 100000 in
set_option maxHeartbeats 4000000 in
theorem ct_X12_isPerson {l : Launch} {E : En}  {a0 : Nat} {a1 : Int32} {st : St} {post : Int32 → St → Prop} (h : P_X12_isPerson  a0 a1 st post) : CtI l E (CFc E) 2 0 0 yX12_isPerson cX12_isPerson 2 (some .boolean) [.ref a0, .int a1] st post := by
  refine ctI_of (by decide) (Nat.le_of_ble_eq_true rfl) ?_
  show Jg l E (CFc E) (Rm 2 0 0) cX12_isPerson 2 RX12 (some .boolean) (fun _ => True) (QI E post 0 0) 0 0 0 [(0, .ref a0), (1, .int a1)] [] st
  unfold P_X12_isPerson at h
  refine J_iload_n 1 dX12_isPerson_0 rfl rfl ?_
  refine J_i2l dX12_isPerson_1 ?_
  refine J_lconst 0 dX12_isPerson_2 (by decide) ?_
  refine J_aload_n 0 dX12_isPerson_3 rfl rfl ?_
  obtain ⟨r_1, hf, h⟩ := h
  refine J_getR fl_RX12_48 dX12_isPerson_4 hf ?_
  refine J_iconst 0 dX12_isPerson_7 (by decide) ?_
  obtain ⟨hi, h⟩ := h
  refine J_iald dX12_isPerson_8 hi ?_
  refine J_iconst 1 dX12_isPerson_9 (by decide) ?_
  refine J_isub dX12_isPerson_10 ?_
  refine J_i2l dX12_isPerson_11 ?_
  refine J_csi (As := [_, _, _]) md_X12_isIn k_971 rfl rfl ⟨Nat.le_of_ble_eq_true rfl, Nat.le_of_ble_eq_true rfl⟩ ⟨Nat.le_of_ble_eq_true rfl, Nat.le_of_ble_eq_true rfl⟩ (Nat.le_of_ble_eq_true rfl) dX12_isPerson_12 (ct_X12_isIn  h) (fun z_2 st_3 h => ?_)
  exact J_retz rfl h.1 dX12_isPerson_15 h.2
/-! X12_isBride -/
def P_X12_isBride  (a0 : Nat) (a1 : Int32) (st : St) (post : Int32 → St → Prop) : Prop := ∃ r_1, rv st a0 12 5 = some r_1 ∧ vp_in 1 (al 0 r_1) ∧ P_X12_isIn  ((a1 : Int32).toInt64) 0 (((gA st r_1 (1 : Int32).toNatClampNeg) - 1 : Int32).toInt64) st (fun z_2 st_3 => (z_2 = 0 ∨ z_2 = 1) ∧ post z_2 st_3)
set_option maxRecDepth 100000 in
set_option maxHeartbeats 4000000 in
theorem ct_X12_isBride {l : Launch} {E : En}  {a0 : Nat} {a1 : Int32} {st : St} {post : Int32 → St → Prop} (h : P_X12_isBride  a0 a1 st post) : CtI l E (CFc E) 2 0 0 yX12_isBride cX12_isBride 2 (some .boolean) [.ref a0, .int a1] st post := by
  refine ctI_of (by decide) (Nat.le_of_ble_eq_true rfl) ?_
  show Jg l E (CFc E) (Rm 2 0 0) cX12_isBride 2 RX12 (some .boolean) (fun _ => True) (QI E post 0 0) 0 0 0 [(0, .ref a0), (1, .int a1)] [] st
  unfold P_X12_isBride at h
  refine J_iload_n 1 dX12_isBride_0 rfl rfl ?_
  refine J_i2l dX12_isBride_1 ?_
  refine J_lconst 0 dX12_isBride_2 (by decide) ?_
  refine J_aload_n 0 dX12_isBride_3 rfl rfl ?_
  obtain ⟨r_1, hf, h⟩ := h
  refine J_getR fl_RX12_48 dX12_isBride_4 hf ?_
  refine J_iconst 1 dX12_isBride_7 (by decide) ?_
  obtain ⟨hi, h⟩ := h
  refine J_iald dX12_isBride_8 hi ?_
  refine J_iconst 1 dX12_isBride_9 (by decide) ?_
  refine J_isub dX12_isBride_10 ?_
  refine J_i2l dX12_isBride_11 ?_
  refine J_csi (As := [_, _, _]) md_X12_isIn k_971 rfl rfl ⟨Nat.le_of_ble_eq_true rfl, Nat.le_of_ble_eq_true rfl⟩ ⟨Nat.le_of_ble_eq_true rfl, Nat.le_of_ble_eq_true rfl⟩ (Nat.le_of_ble_eq_true rfl) dX12_isBride_12 (ct_X12_isIn  h) (fun z_2 st_3 h => ?_)
  exact J_retz rfl h.1 dX12_isBride_15 h.2
/-! X12_feed -/
def P_X12_feed_76  (a0 : Nat) (a1 : Int32) (a2 : Int32) (a3 : Int32) (a4 : Int32) (a5 : Int32) (k23 : Int32 → St → Prop) (post : Int32 → St → Prop) (x6 : Int32) (s0 : Int32) (st : St) : Prop := ∃ r_1, rv st a0 12 15 = some r_1 ∧ fk a0 12 16 = some 0 ∧ vp_in (gI st a0 16) (al 0 r_1) ∧ fk a0 12 16 = some 0 ∧ fk a0 12 16 = some 0 ∧ k23 (x6 + 1) (sI (sA st r_1 (gI st a0 16 : Int32).toNatClampNeg (((s0 : Int32) >>> ((24 - (8 * (x6 - x6 / 4 * 4)) : Int32) &&& 31)) &&& 255)) a0 16 ((gI (sA st r_1 (gI st a0 16 : Int32).toNatClampNeg (((s0 : Int32) >>> ((24 - (8 * (x6 - x6 / 4 * 4)) : Int32) &&& 31)) &&& 255)) a0 16) + 1))
def P_X12_feed_23  (a0 : Nat) (a1 : Int32) (a2 : Int32) (a3 : Int32) (a4 : Int32) (a5 : Int32)  (post : Int32 → St → Prop) : Nat → Int32 → St → Prop
  | 0, _, _ => False
  | n9 + 1, x6, st => ((20 ≤ x6 → fk a0 12 16 = some 0 ∧ post (gI st a0 16) st) ∧ (¬ 20 ≤ x6 → ((4 ≤ x6 → ((8 ≤ x6 → ((12 ≤ x6 → ((16 ≤ x6 → P_X12_feed_76  a0 a1 a2 a3 a4 a5 (fun x6 st => P_X12_feed_23  a0 a1 a2 a3 a4 a5  post n9 x6 st) post x6 a5 st) ∧ (¬ 16 ≤ x6 → P_X12_feed_76  a0 a1 a2 a3 a4 a5 (fun x6 st => P_X12_feed_23  a0 a1 a2 a3 a4 a5  post n9 x6 st) post x6 a4 st))) ∧ (¬ 12 ≤ x6 → P_X12_feed_76  a0 a1 a2 a3 a4 a5 (fun x6 st => P_X12_feed_23  a0 a1 a2 a3 a4 a5  post n9 x6 st) post x6 a3 st))) ∧ (¬ 8 ≤ x6 → P_X12_feed_76  a0 a1 a2 a3 a4 a5 (fun x6 st => P_X12_feed_23  a0 a1 a2 a3 a4 a5  post n9 x6 st) post x6 a2 st))) ∧ (¬ 4 ≤ x6 → P_X12_feed_76  a0 a1 a2 a3 a4 a5 (fun x6 st => P_X12_feed_23  a0 a1 a2 a3 a4 a5  post n9 x6 st) post x6 a1 st))))
def P_X12_feed  (a0 : Nat) (a1 : Int32) (a2 : Int32) (a3 : Int32) (a4 : Int32) (a5 : Int32) (st : St) (post : Int32 → St → Prop) : Prop := fk a0 12 4 = some 0 ∧ fk a0 12 16 = some 0 ∧ ((((gI (sI st a0 4 0) a0 16) + 20) ≤ 700 → ∃ n8, P_X12_feed_23  a0 a1 a2 a3 a4 a5  post n8 0 (sI st a0 4 0)) ∧ (¬ ((gI (sI st a0 4 0) a0 16) + 20) ≤ 700 → post (-1) (sI st a0 4 0)))
set_option maxRecDepth 100000 in
set_option maxHeartbeats 4000000 in
theorem K_X12_feed_76 {l : Launch} {E : En}   (a0 : Nat) (a1 : Int32) (a2 : Int32) (a3 : Int32) (a4 : Int32) (a5 : Int32) {k23 : Int32 → St → Prop} {post : Int32 → St → Prop}  (hk23 : ∀ (x6 : Int32) (st : St), k23 x6 st → Jg l E (CFc E) (Rm 1 0 0) cX12_feed 8 RX12 (some .int) (fun _ => True) (QI E post 0 0) 0 0 23 [(0, .ref a0), (1, .int a1), (2, .int a2), (3, .int a3), (4, .int a4), (5, .int a5), (6, .int x6)] [] st) (x6 : Int32) (s0 : Int32) (st : St) (h : P_X12_feed_76  a0 a1 a2 a3 a4 a5 k23 post x6 s0 st) : Jg l E (CFc E) (Rm 1 0 0) cX12_feed 8 RX12 (some .int) (fun _ => True) (QI E post 0 0) 0 0 76 [(0, .ref a0), (1, .int a1), (2, .int a2), (3, .int a3), (4, .int a4), (5, .int a5), (6, .int x6)] [.int s0] st := by
  unfold P_X12_feed_76 at h
  refine J_istore _ dX12_feed_76 (by decide) rfl ?_
  refine J_aload_n 1 dX12_feed_78 rfl rfl ?_
  obtain ⟨r_1, hf, h⟩ := h
  refine J_getR fl_RX12_78 dX12_feed_79 hf ?_
  refine J_aload_n 1 dX12_feed_82 rfl rfl ?_
  obtain ⟨hf, h⟩ := h
  refine J_getI fl_RX12_191 dX12_feed_83 hf ?_
  refine J_iload 0 dX12_feed_86 rfl ?_
  refine J_bipush 24 dX12_feed_88 (by decide) ?_
  refine J_bipush 8 dX12_feed_90 (by decide) ?_
  refine J_iload 7 dX12_feed_92 rfl ?_
  refine J_iconst 4 dX12_feed_94 (by decide) ?_
  refine J_irem dX12_feed_95 (by decide) ?_
  refine J_imul dX12_feed_96 ?_
  refine J_isub dX12_feed_97 ?_
  refine J_ishr dX12_feed_98 ?_
  refine J_sipush 255 dX12_feed_99 (by decide) ?_
  refine J_iand dX12_feed_102 ?_
  obtain ⟨hi, h⟩ := h
  refine J_iast dX12_feed_103 hi ?_
  refine J_aload_n 1 dX12_feed_104 rfl rfl ?_
  refine J_dup dX12_feed_105 rfl ?_
  obtain ⟨hf, h⟩ := h
  refine J_getI fl_RX12_191 dX12_feed_106 hf ?_
  refine J_iconst 1 dX12_feed_109 (by decide) ?_
  refine J_iadd dX12_feed_110 ?_
  obtain ⟨hf, h⟩ := h
  refine J_putI fp_RX12_191 dX12_feed_111 rfl hf ?_
  refine J_iinc 7 (x6 + 1) _ dX12_feed_114 rfl (by rfl) (by decide) rfl ?_
  refine J_goto 23 dX12_feed_117 (by decide) ?_
  exact J_lv [2, 3, 4, 5, 6, 7, 0] rfl (hk23 (x6 + 1) (sI (sA st r_1 (gI st a0 16 : Int32).toNatClampNeg (((s0 : Int32) >>> ((24 - (8 * (x6 - x6 / 4 * 4)) : Int32) &&& 31)) &&& 255)) a0 16 ((gI (sA st r_1 (gI st a0 16 : Int32).toNatClampNeg (((s0 : Int32) >>> ((24 - (8 * (x6 - x6 / 4 * 4)) : Int32) &&& 31)) &&& 255)) a0 16) + 1)) h)
set_option maxRecDepth 100000 in
set_option maxHeartbeats 4000000 in
theorem K_X12_feed_23 {l : Launch} {E : En}   (a0 : Nat) (a1 : Int32) (a2 : Int32) (a3 : Int32) (a4 : Int32) (a5 : Int32)  {post : Int32 → St → Prop}   : ∀ (n9 : Nat) (x6 : Int32) (st : St), P_X12_feed_23  a0 a1 a2 a3 a4 a5  post n9 x6 st → Jg l E (CFc E) (Rm 1 0 0) cX12_feed 8 RX12 (some .int) (fun _ => True) (QI E post 0 0) 0 0 23 [(0, .ref a0), (1, .int a1), (2, .int a2), (3, .int a3), (4, .int a4), (5, .int a5), (6, .int x6)] [] st := by
  intro n9
  induction n9 with
  | zero => intro x6 st h; exact h.elim
  | succ n9 ih =>
    intro x6 st h
    unfold P_X12_feed_23 at h
    refine J_iload 6 dX12_feed_23 rfl ?_
    refine J_bipush 20 dX12_feed_25 (by decide) ?_
    refine J_icmp_ge 120 dX12_feed_27 (by decide) (fun hc => ?_) (fun hc => ?_)
    · have h := h.1 hc
      refine J_aload_n 0 dX12_feed_120 rfl rfl ?_
      obtain ⟨hf, h⟩ := h
      refine J_getI fl_RX12_191 dX12_feed_121 hf ?_
      exact J_reti rfl dX12_feed_124 h
    · have h := h.2 hc
      refine J_iload 6 dX12_feed_30 rfl ?_
      refine J_iconst 4 dX12_feed_32 (by decide) ?_
      refine J_icmp_ge 40 dX12_feed_33 (by decide) (fun hc => ?_) (fun hc => ?_)
      · have h := h.1 hc
        refine J_iload 6 dX12_feed_40 rfl ?_
        refine J_bipush 8 dX12_feed_42 (by decide) ?_
        refine J_icmp_ge 51 dX12_feed_44 (by decide) (fun hc => ?_) (fun hc => ?_)
        · have h := h.1 hc
          refine J_iload 6 dX12_feed_51 rfl ?_
          refine J_bipush 12 dX12_feed_53 (by decide) ?_
          refine J_icmp_ge 62 dX12_feed_55 (by decide) (fun hc => ?_) (fun hc => ?_)
          · have h := h.1 hc
            refine J_iload 6 dX12_feed_62 rfl ?_
            refine J_bipush 16 dX12_feed_64 (by decide) ?_
            refine J_icmp_ge 74 dX12_feed_66 (by decide) (fun hc => ?_) (fun hc => ?_)
            · have h := h.1 hc
              refine J_iload 5 dX12_feed_74 rfl ?_
              exact J_lv [0, 1, 2, 3, 4, 5, 6] rfl (K_X12_feed_76   a0 a1 a2 a3 a4 a5 (fun x6 st h => ih x6 st h) x6 a5 st h)
            · have h := h.2 hc
              refine J_iload 4 dX12_feed_69 rfl ?_
              refine J_goto 76 dX12_feed_71 (by decide) ?_
              exact J_lv [0, 1, 2, 3, 4, 5, 6] rfl (K_X12_feed_76   a0 a1 a2 a3 a4 a5 (fun x6 st h => ih x6 st h) x6 a4 st h)
          · have h := h.2 hc
            refine J_iload_n 3 dX12_feed_58 rfl rfl ?_
            refine J_goto 76 dX12_feed_59 (by decide) ?_
            exact J_lv [0, 1, 2, 3, 4, 5, 6] rfl (K_X12_feed_76   a0 a1 a2 a3 a4 a5 (fun x6 st h => ih x6 st h) x6 a3 st h)
        · have h := h.2 hc
          refine J_iload_n 2 dX12_feed_47 rfl rfl ?_
          refine J_goto 76 dX12_feed_48 (by decide) ?_
          exact J_lv [0, 1, 2, 3, 4, 5, 6] rfl (K_X12_feed_76   a0 a1 a2 a3 a4 a5 (fun x6 st h => ih x6 st h) x6 a2 st h)
      · have h := h.2 hc
        refine J_iload_n 1 dX12_feed_36 rfl rfl ?_
        refine J_goto 76 dX12_feed_37 (by decide) ?_
        exact J_lv [0, 1, 2, 3, 4, 5, 6] rfl (K_X12_feed_76   a0 a1 a2 a3 a4 a5 (fun x6 st h => ih x6 st h) x6 a1 st h)
set_option maxRecDepth 100000 in
set_option maxHeartbeats 4000000 in
theorem ct_X12_feed {l : Launch} {E : En}  {a0 : Nat} {a1 : Int32} {a2 : Int32} {a3 : Int32} {a4 : Int32} {a5 : Int32} {st : St} {post : Int32 → St → Prop} (h : P_X12_feed  a0 a1 a2 a3 a4 a5 st post) : CtI l E (CFc E) 1 0 0 yX12_feed cX12_feed 8 (some .int) [.ref a0, .int a1, .int a2, .int a3, .int a4, .int a5] st post := by
  refine ctI_of (by decide) (Nat.le_of_ble_eq_true rfl) ?_
  show Jg l E (CFc E) (Rm 1 0 0) cX12_feed 8 RX12 (some .int) (fun _ => True) (QI E post 0 0) 0 0 0 [(0, .ref a0), (1, .int a1), (2, .int a2), (3, .int a3), (4, .int a4), (5, .int a5)] [] st
  unfold P_X12_feed at h
  refine J_aload_n 0 dX12_feed_0 rfl rfl ?_
  refine J_iconst 0 dX12_feed_1 (by decide) ?_
  obtain ⟨hf, h⟩ := h
  refine J_putI fp_RX12_184 dX12_feed_2 rfl hf ?_
  refine J_aload_n 0 dX12_feed_5 rfl rfl ?_
  obtain ⟨hf, h⟩ := h
  refine J_getI fl_RX12_191 dX12_feed_6 hf ?_
  refine J_bipush 20 dX12_feed_9 (by decide) ?_
  refine J_iadd dX12_feed_11 ?_
  refine J_sipush 700 dX12_feed_12 (by decide) ?_
  refine J_icmp_le 20 dX12_feed_15 (by decide) (fun hc => ?_) (fun hc => ?_)
  · have h := h.1 hc
    refine J_iconst 0 dX12_feed_20 (by decide) ?_
    refine J_istore _ dX12_feed_21 (by decide) rfl ?_
    obtain ⟨n8, h⟩ := h
    exact J_lv [1, 2, 3, 4, 5, 6, 0] rfl (K_X12_feed_23   a0 a1 a2 a3 a4 a5  n8 0 (sI st a0 4 0) h)
  · have h := h.2 hc
    refine J_iconst (-1) dX12_feed_18 (by decide) ?_
    exact J_reti rfl dX12_feed_19 h
/-! X12_byteAt -/
def P_X12_byteAt_18  (a0 : Nat) (a1 : Int32)  (post : Int32 → St → Prop) (s0 : Int32) (st : St) : Prop := post s0 st
def P_X12_byteAt  (a0 : Nat) (a1 : Int32) (st : St) (post : Int32 → St → Prop) : Prop := fk a0 12 18 = some 0 ∧ (((gI st a0 18) ≤ a1 → P_X12_byteAt_18  a0 a1  post (-1) st) ∧ (¬ (gI st a0 18) ≤ a1 → ∃ r_1, rv st a0 12 15 = some r_1 ∧ vp_in a1 (al 0 r_1) ∧ P_X12_byteAt_18  a0 a1  post (gA st r_1 (a1 : Int32).toNatClampNeg) st))
set_option maxRecDepth 100000 in
set_option maxHeartbeats 4000000 in
theorem K_X12_byteAt_18 {l : Launch} {E : En}   (a0 : Nat) (a1 : Int32)  {post : Int32 → St → Prop}   (s0 : Int32) (st : St) (h : P_X12_byteAt_18  a0 a1  post s0 st) : Jg l E (CFc E) (Rm 1 0 0) cX12_byteAt 2 RX12 (some .int) (fun _ => True) (QI E post 0 0) 0 0 18 [(0, .ref a0), (1, .int a1)] [.int s0] st := by
  unfold P_X12_byteAt_18 at h
  exact J_reti rfl dX12_byteAt_18 h
set_option maxRecDepth 100000 in
set_option maxHeartbeats 4000000 in
theorem ct_X12_byteAt {l : Launch} {E : En}  {a0 : Nat} {a1 : Int32} {st : St} {post : Int32 → St → Prop} (h : P_X12_byteAt  a0 a1 st post) : CtI l E (CFc E) 1 0 0 yX12_byteAt cX12_byteAt 2 (some .int) [.ref a0, .int a1] st post := by
  refine ctI_of (by decide) (Nat.le_of_ble_eq_true rfl) ?_
  show Jg l E (CFc E) (Rm 1 0 0) cX12_byteAt 2 RX12 (some .int) (fun _ => True) (QI E post 0 0) 0 0 0 [(0, .ref a0), (1, .int a1)] [] st
  unfold P_X12_byteAt at h
  refine J_iload_n 1 dX12_byteAt_0 rfl rfl ?_
  refine J_aload_n 0 dX12_byteAt_1 rfl rfl ?_
  obtain ⟨hf, h⟩ := h
  refine J_getI fl_RX12_194 dX12_byteAt_2 hf ?_
  refine J_icmp_ge 17 dX12_byteAt_5 (by decide) (fun hc => ?_) (fun hc => ?_)
  · have h := h.1 hc
    refine J_iconst (-1) dX12_byteAt_17 (by decide) ?_
    exact J_lv [0, 1] rfl (K_X12_byteAt_18   a0 a1  (-1) st h)
  · have h := h.2 hc
    refine J_aload_n 0 dX12_byteAt_8 rfl rfl ?_
    obtain ⟨r_1, hf, h⟩ := h
    refine J_getR fl_RX12_78 dX12_byteAt_9 hf ?_
    refine J_iload_n 1 dX12_byteAt_12 rfl rfl ?_
    obtain ⟨hi, h⟩ := h
    refine J_iald dX12_byteAt_13 hi ?_
    refine J_goto 18 dX12_byteAt_14 (by decide) ?_
    exact J_lv [0, 1] rfl (K_X12_byteAt_18   a0 a1  (gA st r_1 (a1 : Int32).toNatClampNeg) st h)
/-! X12_isLetter -/
def P_X12_isLetter_17  (a0 : Int32)  (post : Int32 → St → Prop) (s0 : Int32) (st : St) : Prop := (s0 = 0 ∨ s0 = 1) ∧ post s0 st
def P_X12_isLetter_16  (a0 : Int32)  (post : Int32 → St → Prop)  (st : St) : Prop := P_X12_isLetter_17  a0  post 0 st
def P_X12_isLetter  (a0 : Int32) (st : St) (post : Int32 → St → Prop) : Prop := ((a0 < 97 → P_X12_isLetter_16  a0  post st) ∧ (¬ a0 < 97 → ((122 < a0 → P_X12_isLetter_16  a0  post st) ∧ (¬ 122 < a0 → P_X12_isLetter_17  a0  post 1 st))))
set_option maxRecDepth 100000 in
set_option maxHeartbeats 4000000 in
theorem K_X12_isLetter_17 {l : Launch} {E : En}   (a0 : Int32)  {post : Int32 → St → Prop}   (s0 : Int32) (st : St) (h : P_X12_isLetter_17  a0  post s0 st) : Jg l E (CFc E) (Rm 1 0 0) cX12_isLetter 1 RX12 (some .boolean) (fun _ => True) (QI E post 0 0) 0 0 17 [(0, .int a0)] [.int s0] st := by
  unfold P_X12_isLetter_17 at h
  exact J_retz rfl h.1 dX12_isLetter_17 h.2
set_option maxRecDepth 100000 in
set_option maxHeartbeats 4000000 in
theorem K_X12_isLetter_16 {l : Launch} {E : En}   (a0 : Int32)  {post : Int32 → St → Prop}    (st : St) (h : P_X12_isLetter_16  a0  post  st) : Jg l E (CFc E) (Rm 1 0 0) cX12_isLetter 1 RX12 (some .boolean) (fun _ => True) (QI E post 0 0) 0 0 16 [(0, .int a0)] [] st := by
  unfold P_X12_isLetter_16 at h
  refine J_iconst 0 dX12_isLetter_16 (by decide) ?_
  exact J_lv [0] rfl (K_X12_isLetter_17   a0  0 st h)
set_option maxRecDepth 100000 in
set_option maxHeartbeats 4000000 in
theorem ct_X12_isLetter {l : Launch} {E : En}  {a0 : Int32} {st : St} {post : Int32 → St → Prop} (h : P_X12_isLetter  a0 st post) : CtI l E (CFc E) 1 0 0 yX12_isLetter cX12_isLetter 1 (some .boolean) [.int a0] st post := by
  refine ctI_of (by decide) (Nat.le_of_ble_eq_true rfl) ?_
  show Jg l E (CFc E) (Rm 1 0 0) cX12_isLetter 1 RX12 (some .boolean) (fun _ => True) (QI E post 0 0) 0 0 0 [(0, .int a0)] [] st
  unfold P_X12_isLetter at h
  refine J_iload_n 0 dX12_isLetter_0 rfl rfl ?_
  refine J_bipush 97 dX12_isLetter_1 (by decide) ?_
  refine J_icmp_lt 16 dX12_isLetter_3 (by decide) (fun hc => ?_) (fun hc => ?_)
  · have h := h.1 hc
    exact J_lv [0] rfl (K_X12_isLetter_16   a0  st h)
  · have h := h.2 hc
    refine J_iload_n 0 dX12_isLetter_6 rfl rfl ?_
    refine J_bipush 122 dX12_isLetter_7 (by decide) ?_
    refine J_icmp_gt 16 dX12_isLetter_9 (by decide) (fun hc => ?_) (fun hc => ?_)
    · have h := h.1 hc
      exact J_lv [0] rfl (K_X12_isLetter_16   a0  st h)
    · have h := h.2 hc
      refine J_iconst 1 dX12_isLetter_12 (by decide) ?_
      refine J_goto 17 dX12_isLetter_13 (by decide) ?_
      exact J_lv [0] rfl (K_X12_isLetter_17   a0  1 st h)
/-! X12_isDigit -/
def P_X12_isDigit_17  (a0 : Int32)  (post : Int32 → St → Prop) (s0 : Int32) (st : St) : Prop := (s0 = 0 ∨ s0 = 1) ∧ post s0 st
def P_X12_isDigit_16  (a0 : Int32)  (post : Int32 → St → Prop)  (st : St) : Prop := P_X12_isDigit_17  a0  post 0 st
def P_X12_isDigit  (a0 : Int32) (st : St) (post : Int32 → St → Prop) : Prop := ((a0 < 48 → P_X12_isDigit_16  a0  post st) ∧ (¬ a0 < 48 → ((57 < a0 → P_X12_isDigit_16  a0  post st) ∧ (¬ 57 < a0 → P_X12_isDigit_17  a0  post 1 st))))
set_option maxRecDepth 100000 in
set_option maxHeartbeats 4000000 in
theorem K_X12_isDigit_17 {l : Launch} {E : En}   (a0 : Int32)  {post : Int32 → St → Prop}   (s0 : Int32) (st : St) (h : P_X12_isDigit_17  a0  post s0 st) : Jg l E (CFc E) (Rm 1 0 0) cX12_isDigit 1 RX12 (some .boolean) (fun _ => True) (QI E post 0 0) 0 0 17 [(0, .int a0)] [.int s0] st := by
  unfold P_X12_isDigit_17 at h
  exact J_retz rfl h.1 dX12_isDigit_17 h.2
set_option maxRecDepth 100000 in
set_option maxHeartbeats 4000000 in
theorem K_X12_isDigit_16 {l : Launch} {E : En}   (a0 : Int32)  {post : Int32 → St → Prop}    (st : St) (h : P_X12_isDigit_16  a0  post  st) : Jg l E (CFc E) (Rm 1 0 0) cX12_isDigit 1 RX12 (some .boolean) (fun _ => True) (QI E post 0 0) 0 0 16 [(0, .int a0)] [] st := by
  unfold P_X12_isDigit_16 at h
  refine J_iconst 0 dX12_isDigit_16 (by decide) ?_
  exact J_lv [0] rfl (K_X12_isDigit_17   a0  0 st h)
set_option maxRecDepth 100000 in
set_option maxHeartbeats 4000000 in
theorem ct_X12_isDigit {l : Launch} {E : En}  {a0 : Int32} {st : St} {post : Int32 → St → Prop} (h : P_X12_isDigit  a0 st post) : CtI l E (CFc E) 1 0 0 yX12_isDigit cX12_isDigit 1 (some .boolean) [.int a0] st post := by
  refine ctI_of (by decide) (Nat.le_of_ble_eq_true rfl) ?_
  show Jg l E (CFc E) (Rm 1 0 0) cX12_isDigit 1 RX12 (some .boolean) (fun _ => True) (QI E post 0 0) 0 0 0 [(0, .int a0)] [] st
  unfold P_X12_isDigit at h
  refine J_iload_n 0 dX12_isDigit_0 rfl rfl ?_
  refine J_bipush 48 dX12_isDigit_1 (by decide) ?_
  refine J_icmp_lt 16 dX12_isDigit_3 (by decide) (fun hc => ?_) (fun hc => ?_)
  · have h := h.1 hc
    exact J_lv [0] rfl (K_X12_isDigit_16   a0  st h)
  · have h := h.2 hc
    refine J_iload_n 0 dX12_isDigit_6 rfl rfl ?_
    refine J_bipush 57 dX12_isDigit_7 (by decide) ?_
    refine J_icmp_gt 16 dX12_isDigit_9 (by decide) (fun hc => ?_) (fun hc => ?_)
    · have h := h.1 hc
      exact J_lv [0] rfl (K_X12_isDigit_16   a0  st h)
    · have h := h.2 hc
      refine J_iconst 1 dX12_isDigit_12 (by decide) ?_
      refine J_goto 17 dX12_isDigit_13 (by decide) ?_
      exact J_lv [0] rfl (K_X12_isDigit_17   a0  1 st h)
/-! X12_isMark -/
def P_X12_isMark_59  (a0 : Int32)  (post : Int32 → St → Prop) (s0 : Int32) (st : St) : Prop := (s0 = 0 ∨ s0 = 1) ∧ post s0 st
def P_X12_isMark_54  (a0 : Int32)  (post : Int32 → St → Prop)  (st : St) : Prop := P_X12_isMark_59  a0  post 1 st
def P_X12_isMark  (a0 : Int32) (st : St) (post : Int32 → St → Prop) : Prop := ((a0 = 59 → P_X12_isMark_54  a0  post st) ∧ (¬ a0 = 59 → ((a0 = 40 → P_X12_isMark_54  a0  post st) ∧ (¬ a0 = 40 → ((a0 = 41 → P_X12_isMark_54  a0  post st) ∧ (¬ a0 = 41 → ((a0 = 43 → P_X12_isMark_54  a0  post st) ∧ (¬ a0 = 43 → ((a0 = 45 → P_X12_isMark_54  a0  post st) ∧ (¬ a0 = 45 → ((a0 = 42 → P_X12_isMark_54  a0  post st) ∧ (¬ a0 = 42 → ((a0 = 47 → P_X12_isMark_54  a0  post st) ∧ (¬ a0 = 47 → ((a0 = 60 → P_X12_isMark_54  a0  post st) ∧ (¬ a0 = 60 → ((¬ a0 = 61 → P_X12_isMark_59  a0  post 0 st) ∧ (a0 = 61 → P_X12_isMark_54  a0  post st))))))))))))))))))
set_option maxRecDepth 100000 in
set_option maxHeartbeats 4000000 in
theorem K_X12_isMark_59 {l : Launch} {E : En}   (a0 : Int32)  {post : Int32 → St → Prop}   (s0 : Int32) (st : St) (h : P_X12_isMark_59  a0  post s0 st) : Jg l E (CFc E) (Rm 1 0 0) cX12_isMark 1 RX12 (some .boolean) (fun _ => True) (QI E post 0 0) 0 0 59 [(0, .int a0)] [.int s0] st := by
  unfold P_X12_isMark_59 at h
  exact J_retz rfl h.1 dX12_isMark_59 h.2
set_option maxRecDepth 100000 in
set_option maxHeartbeats 4000000 in
theorem K_X12_isMark_54 {l : Launch} {E : En}   (a0 : Int32)  {post : Int32 → St → Prop}    (st : St) (h : P_X12_isMark_54  a0  post  st) : Jg l E (CFc E) (Rm 1 0 0) cX12_isMark 1 RX12 (some .boolean) (fun _ => True) (QI E post 0 0) 0 0 54 [(0, .int a0)] [] st := by
  unfold P_X12_isMark_54 at h
  refine J_iconst 1 dX12_isMark_54 (by decide) ?_
  refine J_goto 59 dX12_isMark_55 (by decide) ?_
  exact J_lv [0] rfl (K_X12_isMark_59   a0  1 st h)
set_option maxRecDepth 100000 in
set_option maxHeartbeats 4000000 in
theorem ct_X12_isMark {l : Launch} {E : En}  {a0 : Int32} {st : St} {post : Int32 → St → Prop} (h : P_X12_isMark  a0 st post) : CtI l E (CFc E) 1 0 0 yX12_isMark cX12_isMark 1 (some .boolean) [.int a0] st post := by
  refine ctI_of (by decide) (Nat.le_of_ble_eq_true rfl) ?_
  show Jg l E (CFc E) (Rm 1 0 0) cX12_isMark 1 RX12 (some .boolean) (fun _ => True) (QI E post 0 0) 0 0 0 [(0, .int a0)] [] st
  unfold P_X12_isMark at h
  refine J_iload_n 0 dX12_isMark_0 rfl rfl ?_
  refine J_bipush 59 dX12_isMark_1 (by decide) ?_
  refine J_icmp_eq 54 dX12_isMark_3 (by decide) (fun hc => ?_) (fun hc => ?_)
  · have h := h.1 hc
    exact J_lv [0] rfl (K_X12_isMark_54   a0  st h)
  · have h := h.2 hc
    refine J_iload_n 0 dX12_isMark_6 rfl rfl ?_
    refine J_bipush 40 dX12_isMark_7 (by decide) ?_
    refine J_icmp_eq 54 dX12_isMark_9 (by decide) (fun hc => ?_) (fun hc => ?_)
    · have h := h.1 hc
      exact J_lv [0] rfl (K_X12_isMark_54   a0  st h)
    · have h := h.2 hc
      refine J_iload_n 0 dX12_isMark_12 rfl rfl ?_
      refine J_bipush 41 dX12_isMark_13 (by decide) ?_
      refine J_icmp_eq 54 dX12_isMark_15 (by decide) (fun hc => ?_) (fun hc => ?_)
      · have h := h.1 hc
        exact J_lv [0] rfl (K_X12_isMark_54   a0  st h)
      · have h := h.2 hc
        refine J_iload_n 0 dX12_isMark_18 rfl rfl ?_
        refine J_bipush 43 dX12_isMark_19 (by decide) ?_
        refine J_icmp_eq 54 dX12_isMark_21 (by decide) (fun hc => ?_) (fun hc => ?_)
        · have h := h.1 hc
          exact J_lv [0] rfl (K_X12_isMark_54   a0  st h)
        · have h := h.2 hc
          refine J_iload_n 0 dX12_isMark_24 rfl rfl ?_
          refine J_bipush 45 dX12_isMark_25 (by decide) ?_
          refine J_icmp_eq 54 dX12_isMark_27 (by decide) (fun hc => ?_) (fun hc => ?_)
          · have h := h.1 hc
            exact J_lv [0] rfl (K_X12_isMark_54   a0  st h)
          · have h := h.2 hc
            refine J_iload_n 0 dX12_isMark_30 rfl rfl ?_
            refine J_bipush 42 dX12_isMark_31 (by decide) ?_
            refine J_icmp_eq 54 dX12_isMark_33 (by decide) (fun hc => ?_) (fun hc => ?_)
            · have h := h.1 hc
              exact J_lv [0] rfl (K_X12_isMark_54   a0  st h)
            · have h := h.2 hc
              refine J_iload_n 0 dX12_isMark_36 rfl rfl ?_
              refine J_bipush 47 dX12_isMark_37 (by decide) ?_
              refine J_icmp_eq 54 dX12_isMark_39 (by decide) (fun hc => ?_) (fun hc => ?_)
              · have h := h.1 hc
                exact J_lv [0] rfl (K_X12_isMark_54   a0  st h)
              · have h := h.2 hc
                refine J_iload_n 0 dX12_isMark_42 rfl rfl ?_
                refine J_bipush 60 dX12_isMark_43 (by decide) ?_
                refine J_icmp_eq 54 dX12_isMark_45 (by decide) (fun hc => ?_) (fun hc => ?_)
                · have h := h.1 hc
                  exact J_lv [0] rfl (K_X12_isMark_54   a0  st h)
                · have h := h.2 hc
                  refine J_iload_n 0 dX12_isMark_48 rfl rfl ?_
                  refine J_bipush 61 dX12_isMark_49 (by decide) ?_
                  refine J_icmp_ne 58 dX12_isMark_51 (by decide) (fun hc => ?_) (fun hc => ?_)
                  · have h := h.1 hc
                    refine J_iconst 0 dX12_isMark_58 (by decide) ?_
                    exact J_lv [0] rfl (K_X12_isMark_59   a0  0 st h)
                  · have h := h.2 hc
                    exact J_lv [0] rfl (K_X12_isMark_54   a0  st h)
/-! X12_stepOn -/
def P_X12_stepOn_212  (a0 : Nat)  (post : St → Prop)  (st : St) : Prop := fk a0 12 17 = some 0 ∧ fk a0 12 22 = some 0 ∧ post (sI st a0 22 (gI st a0 17))
def P_X12_stepOn_209  (a0 : Nat)  (post : St → Prop) (s0 : Int32) (s1 : Nat) (st : St) : Prop := fk s1 12 19 = some 0 ∧ P_X12_stepOn_212  a0  post (sI st s1 19 s0)
def P_X12_stepOn_123  (a0 : Nat)  (post : St → Prop) : Nat → St → Prop
  | 0, _ => False
  | n9 + 1, st => fk a0 12 17 = some 0 ∧ oC a0 12 ∧ P_X12_byteAt  a0 (gI st a0 17) st (fun z_1 st_2 => P_X12_isDigit  z_1 st_2 (fun z_3 st_4 => ((z_3 = 0 → fk a0 12 19 = some 0 ∧ P_X12_stepOn_212  a0  post (sI st_4 a0 19 2)) ∧ (¬ z_3 = 0 → fk a0 12 20 = some 0 ∧ fk a0 12 17 = some 0 ∧ oC a0 12 ∧ P_X12_byteAt  a0 (gI st_4 a0 17) st_4 (fun z_5 st_6 => fk a0 12 20 = some 0 ∧ fk a0 12 17 = some 0 ∧ fk a0 12 17 = some 0 ∧ P_X12_stepOn_123  a0  post n9 (sI (sI st_6 a0 20 (if ((((10 * (gI st_4 a0 20)) + z_5) - 48) : Int32) < 100000 then (((10 * (gI st_4 a0 20)) + z_5) - 48) else 100000)) a0 17 ((gI (sI st_6 a0 20 (if ((((10 * (gI st_4 a0 20)) + z_5) - 48) : Int32) < 100000 then (((10 * (gI st_4 a0 20)) + z_5) - 48) else 100000)) a0 17) + 1)))))))
def P_X12_stepOn_76  (a0 : Nat)  (post : St → Prop) : Nat → St → Prop
  | 0, _ => False
  | n9 + 1, st => fk a0 12 17 = some 0 ∧ oC a0 12 ∧ P_X12_byteAt  a0 (gI st a0 17) st (fun z_1 st_2 => P_X12_isLetter  z_1 st_2 (fun z_3 st_4 => ((z_3 = 0 → fk a0 12 19 = some 0 ∧ P_X12_stepOn_212  a0  post (sI st_4 a0 19 1)) ∧ (¬ z_3 = 0 → fk a0 12 17 = some 0 ∧ fk a0 12 17 = some 0 ∧ P_X12_stepOn_76  a0  post n9 (sI st_4 a0 17 ((gI st_4 a0 17) + 1))))))
def P_X12_stepOn_26  (a0 : Nat) (k0 : St → Prop) (post : St → Prop)  (st : St) : Prop := fk a0 12 17 = some 0 ∧ fk a0 12 17 = some 0 ∧ k0 (sI st a0 17 ((gI st a0 17) + 1))
def P_X12_stepOn_0  (a0 : Nat)  (post : St → Prop) : Nat → St → Prop
  | 0, _ => False
  | n9 + 1, st => fk a0 12 17 = some 0 ∧ oC a0 12 ∧ P_X12_byteAt  a0 (gI st a0 17) st (fun z_1 st_2 => ((z_1 = 32 → P_X12_stepOn_26  a0 (fun st => P_X12_stepOn_0  a0  post n9 st) post st_2) ∧ (¬ z_1 = 32 → fk a0 12 17 = some 0 ∧ oC a0 12 ∧ P_X12_byteAt  a0 (gI st_2 a0 17) st_2 (fun z_3 st_4 => ((¬ z_3 = 10 → fk a0 12 17 = some 0 ∧ fk a0 12 21 = some 0 ∧ fk a0 12 17 = some 0 ∧ oC a0 12 ∧ P_X12_byteAt  a0 (gI (sI st_4 a0 21 (gI st_4 a0 17)) a0 17) (sI st_4 a0 21 (gI st_4 a0 17)) (fun z_5 st_6 => ((¬ z_5 = (-1) → P_X12_isLetter  z_5 st_6 (fun z_7 st_8 => ((z_7 = 0 → P_X12_isDigit  z_5 st_8 (fun z_9 st_10 => ((z_9 = 0 → fk a0 12 17 = some 0 ∧ fk a0 12 17 = some 0 ∧ P_X12_isMark  z_5 (sI st_10 a0 17 ((gI st_10 a0 17) + 1)) (fun z_11 st_12 => ((z_11 = 0 → P_X12_stepOn_209  a0  post 4 a0 st_12) ∧ (¬ z_11 = 0 → P_X12_stepOn_209  a0  post 3 a0 st_12)))) ∧ (¬ z_9 = 0 → fk a0 12 20 = some 0 ∧ ∃ n8, P_X12_stepOn_123  a0  post n8 (sI st_10 a0 20 0))))) ∧ (¬ z_7 = 0 → ∃ n8, P_X12_stepOn_76  a0  post n8 st_8)))) ∧ (z_5 = (-1) → fk a0 12 19 = some 0 ∧ P_X12_stepOn_212  a0  post (sI st_6 a0 19 0))))) ∧ (z_3 = 10 → P_X12_stepOn_26  a0 (fun st => P_X12_stepOn_0  a0  post n9 st) post st_4))))))
def P_X12_stepOn  (a0 : Nat) (st : St) (post : St → Prop) : Prop := ∃ n8, P_X12_stepOn_0  a0  post n8 st
set_option maxRecDepth 100000 in
set_option maxHeartbeats 4000000 in
theorem K_X12_stepOn_212 {l : Launch} {E : En}   (a0 : Nat)  {post : St → Prop}    (st : St) (h : P_X12_stepOn_212  a0  post  st) : Jg l E (CFc E) (Rm 2 0 0) cX12_stepOn 2 RX12 none (fun _ => True) (QV E post 0 0) 0 0 212 [(0, .ref a0)] [] st := by
  unfold P_X12_stepOn_212 at h
  refine J_aload_n 0 dX12_stepOn_212 rfl rfl ?_
  refine J_aload_n 0 dX12_stepOn_213 rfl rfl ?_
  obtain ⟨hf, h⟩ := h
  refine J_getI fl_RX12_197 dX12_stepOn_214 hf ?_
  obtain ⟨hf, h⟩ := h
  refine J_putI fp_RX12_230 dX12_stepOn_217 rfl hf ?_
  exact J_retv rfl dX12_stepOn_220 h
set_option maxRecDepth 100000 in
set_option maxHeartbeats 4000000 in
theorem K_X12_stepOn_209 {l : Launch} {E : En}   (a0 : Nat)  {post : St → Prop}   (s0 : Int32) (s1 : Nat) (st : St) (h : P_X12_stepOn_209  a0  post s0 s1 st) : Jg l E (CFc E) (Rm 2 0 0) cX12_stepOn 2 RX12 none (fun _ => True) (QV E post 0 0) 0 0 209 [(0, .ref a0)] [.int s0, .ref s1] st := by
  unfold P_X12_stepOn_209 at h
  obtain ⟨hf, h⟩ := h
  refine J_putI fp_RX12_207 dX12_stepOn_209 rfl hf ?_
  exact J_lv [0] rfl (K_X12_stepOn_212   a0  (sI st s1 19 s0) h)
set_option maxRecDepth 100000 in
set_option maxHeartbeats 4000000 in
theorem K_X12_stepOn_123 {l : Launch} {E : En}   (a0 : Nat)  {post : St → Prop}   : ∀ (n9 : Nat)  (st : St), P_X12_stepOn_123  a0  post n9  st → Jg l E (CFc E) (Rm 2 0 0) cX12_stepOn 2 RX12 none (fun _ => True) (QV E post 0 0) 0 0 123 [(0, .ref a0)] [] st := by
  intro n9
  induction n9 with
  | zero => intro  st h; exact h.elim
  | succ n9 ih =>
    intro  st h
    unfold P_X12_stepOn_123 at h
    refine J_aload_n 0 dX12_stepOn_123 rfl rfl ?_
    refine J_aload_n 0 dX12_stepOn_124 rfl rfl ?_
    obtain ⟨hf, h⟩ := h
    refine J_getI fl_RX12_197 dX12_stepOn_125 hf ?_
    obtain ⟨ho, h⟩ := h
    refine J_cvi (As := [_]) md_X12_byteAt k_989 (rc_obj cl_12 ho) rfl rfl ⟨Nat.le_of_ble_eq_true rfl, Nat.le_of_ble_eq_true rfl⟩ ⟨Nat.le_of_ble_eq_true rfl, Nat.le_of_ble_eq_true rfl⟩ (Nat.le_of_ble_eq_true rfl) dX12_stepOn_128 (ct_X12_byteAt  h) (fun z_1 st_2 h => ?_)
    refine J_csi (As := [_]) md_X12_isDigit k_994 rfl rfl ⟨Nat.le_of_ble_eq_true rfl, Nat.le_of_ble_eq_true rfl⟩ ⟨Nat.le_of_ble_eq_true rfl, Nat.le_of_ble_eq_true rfl⟩ (Nat.le_of_ble_eq_true rfl) dX12_stepOn_131 (ct_X12_isDigit  h) (fun z_3 st_4 h => ?_)
    refine J_if_eq 178 dX12_stepOn_134 (by decide) (fun hc => ?_) (fun hc => ?_)
    · have h := h.1 hc
      refine J_aload_n 0 dX12_stepOn_178 rfl rfl ?_
      refine J_iconst 2 dX12_stepOn_179 (by decide) ?_
      obtain ⟨hf, h⟩ := h
      refine J_putI fp_RX12_207 dX12_stepOn_180 rfl hf ?_
      refine J_goto 212 dX12_stepOn_183 (by decide) ?_
      exact J_lv [0] rfl (K_X12_stepOn_212   a0  (sI st_4 a0 19 2) h)
    · have h := h.2 hc
      refine J_aload_n 0 dX12_stepOn_137 rfl rfl ?_
      refine J_ldc k_986 dX12_stepOn_138 ?_
      refine J_bipush 10 dX12_stepOn_140 (by decide) ?_
      refine J_aload_n 0 dX12_stepOn_142 rfl rfl ?_
      obtain ⟨hf, h⟩ := h
      refine J_getI fl_RX12_217 dX12_stepOn_143 hf ?_
      refine J_imul dX12_stepOn_146 ?_
      refine J_aload_n 0 dX12_stepOn_147 rfl rfl ?_
      refine J_aload_n 0 dX12_stepOn_148 rfl rfl ?_
      obtain ⟨hf, h⟩ := h
      refine J_getI fl_RX12_197 dX12_stepOn_149 hf ?_
      obtain ⟨ho, h⟩ := h
      refine J_cvi (As := [_]) md_X12_byteAt k_989 (rc_obj cl_12 ho) rfl rfl ⟨Nat.le_of_ble_eq_true rfl, Nat.le_of_ble_eq_true rfl⟩ ⟨Nat.le_of_ble_eq_true rfl, Nat.le_of_ble_eq_true rfl⟩ (Nat.le_of_ble_eq_true rfl) dX12_stepOn_152 (ct_X12_byteAt  h) (fun z_5 st_6 h => ?_)
      refine J_iadd dX12_stepOn_155 ?_
      refine J_bipush 48 dX12_stepOn_156 (by decide) ?_
      refine J_isub dX12_stepOn_158 ?_
      refine J_mmin k_987 k_162 k_158 k_163 ⟨Nat.le_of_ble_eq_true rfl, Nat.le_of_ble_eq_true rfl, Nat.le_of_ble_eq_true rfl, Nat.le_of_ble_eq_true rfl⟩ dX12_stepOn_159 ?_
      obtain ⟨hf, h⟩ := h
      refine J_putI fp_RX12_217 dX12_stepOn_162 rfl hf ?_
      refine J_aload_n 0 dX12_stepOn_165 rfl rfl ?_
      refine J_dup dX12_stepOn_166 rfl ?_
      obtain ⟨hf, h⟩ := h
      refine J_getI fl_RX12_197 dX12_stepOn_167 hf ?_
      refine J_iconst 1 dX12_stepOn_170 (by decide) ?_
      refine J_iadd dX12_stepOn_171 ?_
      obtain ⟨hf, h⟩ := h
      refine J_putI fp_RX12_197 dX12_stepOn_172 rfl hf ?_
      refine J_goto 123 dX12_stepOn_175 (by decide) ?_
      exact J_lv [0] rfl (ih (sI (sI st_6 a0 20 (if ((((10 * (gI st_4 a0 20)) + z_5) - 48) : Int32) < 100000 then (((10 * (gI st_4 a0 20)) + z_5) - 48) else 100000)) a0 17 ((gI (sI st_6 a0 20 (if ((((10 * (gI st_4 a0 20)) + z_5) - 48) : Int32) < 100000 then (((10 * (gI st_4 a0 20)) + z_5) - 48) else 100000)) a0 17) + 1)) h)
set_option maxRecDepth 100000 in
set_option maxHeartbeats 4000000 in
theorem K_X12_stepOn_76 {l : Launch} {E : En}   (a0 : Nat)  {post : St → Prop}   : ∀ (n9 : Nat)  (st : St), P_X12_stepOn_76  a0  post n9  st → Jg l E (CFc E) (Rm 2 0 0) cX12_stepOn 2 RX12 none (fun _ => True) (QV E post 0 0) 0 0 76 [(0, .ref a0)] [] st := by
  intro n9
  induction n9 with
  | zero => intro  st h; exact h.elim
  | succ n9 ih =>
    intro  st h
    unfold P_X12_stepOn_76 at h
    refine J_aload_n 0 dX12_stepOn_76 rfl rfl ?_
    refine J_aload_n 0 dX12_stepOn_77 rfl rfl ?_
    obtain ⟨hf, h⟩ := h
    refine J_getI fl_RX12_197 dX12_stepOn_78 hf ?_
    obtain ⟨ho, h⟩ := h
    refine J_cvi (As := [_]) md_X12_byteAt k_989 (rc_obj cl_12 ho) rfl rfl ⟨Nat.le_of_ble_eq_true rfl, Nat.le_of_ble_eq_true rfl⟩ ⟨Nat.le_of_ble_eq_true rfl, Nat.le_of_ble_eq_true rfl⟩ (Nat.le_of_ble_eq_true rfl) dX12_stepOn_81 (ct_X12_byteAt  h) (fun z_1 st_2 h => ?_)
    refine J_csi (As := [_]) md_X12_isLetter k_992 rfl rfl ⟨Nat.le_of_ble_eq_true rfl, Nat.le_of_ble_eq_true rfl⟩ ⟨Nat.le_of_ble_eq_true rfl, Nat.le_of_ble_eq_true rfl⟩ (Nat.le_of_ble_eq_true rfl) dX12_stepOn_84 (ct_X12_isLetter  h) (fun z_3 st_4 h => ?_)
    refine J_if_eq 103 dX12_stepOn_87 (by decide) (fun hc => ?_) (fun hc => ?_)
    · have h := h.1 hc
      refine J_aload_n 0 dX12_stepOn_103 rfl rfl ?_
      refine J_iconst 1 dX12_stepOn_104 (by decide) ?_
      obtain ⟨hf, h⟩ := h
      refine J_putI fp_RX12_207 dX12_stepOn_105 rfl hf ?_
      refine J_goto 212 dX12_stepOn_108 (by decide) ?_
      exact J_lv [0] rfl (K_X12_stepOn_212   a0  (sI st_4 a0 19 1) h)
    · have h := h.2 hc
      refine J_aload_n 0 dX12_stepOn_90 rfl rfl ?_
      refine J_dup dX12_stepOn_91 rfl ?_
      obtain ⟨hf, h⟩ := h
      refine J_getI fl_RX12_197 dX12_stepOn_92 hf ?_
      refine J_iconst 1 dX12_stepOn_95 (by decide) ?_
      refine J_iadd dX12_stepOn_96 ?_
      obtain ⟨hf, h⟩ := h
      refine J_putI fp_RX12_197 dX12_stepOn_97 rfl hf ?_
      refine J_goto 76 dX12_stepOn_100 (by decide) ?_
      exact J_lv [0] rfl (ih (sI st_4 a0 17 ((gI st_4 a0 17) + 1)) h)
set_option maxRecDepth 100000 in
set_option maxHeartbeats 4000000 in
theorem K_X12_stepOn_26 {l : Launch} {E : En}   (a0 : Nat) {k0 : St → Prop} {post : St → Prop}  (hk0 : ∀  (st : St), k0  st → Jg l E (CFc E) (Rm 2 0 0) cX12_stepOn 2 RX12 none (fun _ => True) (QV E post 0 0) 0 0 0 [(0, .ref a0)] [] st)  (st : St) (h : P_X12_stepOn_26  a0 k0 post  st) : Jg l E (CFc E) (Rm 2 0 0) cX12_stepOn 2 RX12 none (fun _ => True) (QV E post 0 0) 0 0 26 [(0, .ref a0)] [] st := by
  unfold P_X12_stepOn_26 at h
  refine J_aload_n 0 dX12_stepOn_26 rfl rfl ?_
  refine J_dup dX12_stepOn_27 rfl ?_
  obtain ⟨hf, h⟩ := h
  refine J_getI fl_RX12_197 dX12_stepOn_28 hf ?_
  refine J_iconst 1 dX12_stepOn_31 (by decide) ?_
  refine J_iadd dX12_stepOn_32 ?_
  obtain ⟨hf, h⟩ := h
  refine J_putI fp_RX12_197 dX12_stepOn_33 rfl hf ?_
  refine J_goto 0 dX12_stepOn_36 (by decide) ?_
  exact J_lv [0] rfl (hk0 (sI st a0 17 ((gI st a0 17) + 1)) h)
set_option maxRecDepth 100000 in
set_option maxHeartbeats 4000000 in
theorem K_X12_stepOn_0 {l : Launch} {E : En}   (a0 : Nat)  {post : St → Prop}   : ∀ (n9 : Nat)  (st : St), P_X12_stepOn_0  a0  post n9  st → Jg l E (CFc E) (Rm 2 0 0) cX12_stepOn 2 RX12 none (fun _ => True) (QV E post 0 0) 0 0 0 [(0, .ref a0)] [] st := by
  intro n9
  induction n9 with
  | zero => intro  st h; exact h.elim
  | succ n9 ih =>
    intro  st h
    unfold P_X12_stepOn_0 at h
    refine J_aload_n 0 dX12_stepOn_0 rfl rfl ?_
    refine J_aload_n 0 dX12_stepOn_1 rfl rfl ?_
    obtain ⟨hf, h⟩ := h
    refine J_getI fl_RX12_197 dX12_stepOn_2 hf ?_
    obtain ⟨ho, h⟩ := h
    refine J_cvi (As := [_]) md_X12_byteAt k_989 (rc_obj cl_12 ho) rfl rfl ⟨Nat.le_of_ble_eq_true rfl, Nat.le_of_ble_eq_true rfl⟩ ⟨Nat.le_of_ble_eq_true rfl, Nat.le_of_ble_eq_true rfl⟩ (Nat.le_of_ble_eq_true rfl) dX12_stepOn_5 (ct_X12_byteAt  h) (fun z_1 st_2 h => ?_)
    refine J_bipush 32 dX12_stepOn_8 (by decide) ?_
    refine J_icmp_eq 26 dX12_stepOn_10 (by decide) (fun hc => ?_) (fun hc => ?_)
    · have h := h.1 hc
      exact J_lv [0] rfl (K_X12_stepOn_26   a0 (fun st h => ih st h) st_2 h)
    · have h := h.2 hc
      refine J_aload_n 0 dX12_stepOn_13 rfl rfl ?_
      refine J_aload_n 0 dX12_stepOn_14 rfl rfl ?_
      obtain ⟨hf, h⟩ := h
      refine J_getI fl_RX12_197 dX12_stepOn_15 hf ?_
      obtain ⟨ho, h⟩ := h
      refine J_cvi (As := [_]) md_X12_byteAt k_989 (rc_obj cl_12 ho) rfl rfl ⟨Nat.le_of_ble_eq_true rfl, Nat.le_of_ble_eq_true rfl⟩ ⟨Nat.le_of_ble_eq_true rfl, Nat.le_of_ble_eq_true rfl⟩ (Nat.le_of_ble_eq_true rfl) dX12_stepOn_18 (ct_X12_byteAt  h) (fun z_3 st_4 h => ?_)
      refine J_bipush 10 dX12_stepOn_21 (by decide) ?_
      refine J_icmp_ne 39 dX12_stepOn_23 (by decide) (fun hc => ?_) (fun hc => ?_)
      · have h := h.1 hc
        refine J_aload_n 0 dX12_stepOn_39 rfl rfl ?_
        refine J_aload_n 0 dX12_stepOn_40 rfl rfl ?_
        obtain ⟨hf, h⟩ := h
        refine J_getI fl_RX12_197 dX12_stepOn_41 hf ?_
        obtain ⟨hf, h⟩ := h
        refine J_putI fp_RX12_204 dX12_stepOn_44 rfl hf ?_
        refine J_aload_n 0 dX12_stepOn_47 rfl rfl ?_
        refine J_aload_n 0 dX12_stepOn_48 rfl rfl ?_
        obtain ⟨hf, h⟩ := h
        refine J_getI fl_RX12_197 dX12_stepOn_49 hf ?_
        obtain ⟨ho, h⟩ := h
        refine J_cvi (As := [_]) md_X12_byteAt k_989 (rc_obj cl_12 ho) rfl rfl ⟨Nat.le_of_ble_eq_true rfl, Nat.le_of_ble_eq_true rfl⟩ ⟨Nat.le_of_ble_eq_true rfl, Nat.le_of_ble_eq_true rfl⟩ (Nat.le_of_ble_eq_true rfl) dX12_stepOn_52 (ct_X12_byteAt  h) (fun z_5 st_6 h => ?_)
        refine J_istore_n _ dX12_stepOn_55 rfl (by decide) rfl ?_
        refine J_iload_n 0 dX12_stepOn_56 rfl rfl ?_
        refine J_iconst (-1) dX12_stepOn_57 (by decide) ?_
        refine J_icmp_ne 69 dX12_stepOn_58 (by decide) (fun hc => ?_) (fun hc => ?_)
        · have h := h.1 hc
          refine J_iload_n 0 dX12_stepOn_69 rfl rfl ?_
          refine J_csi (As := [_]) md_X12_isLetter k_992 rfl rfl ⟨Nat.le_of_ble_eq_true rfl, Nat.le_of_ble_eq_true rfl⟩ ⟨Nat.le_of_ble_eq_true rfl, Nat.le_of_ble_eq_true rfl⟩ (Nat.le_of_ble_eq_true rfl) dX12_stepOn_70 (ct_X12_isLetter  h) (fun z_7 st_8 h => ?_)
          refine J_if_eq 111 dX12_stepOn_73 (by decide) (fun hc => ?_) (fun hc => ?_)
          · have h := h.1 hc
            refine J_iload_n 0 dX12_stepOn_111 rfl rfl ?_
            refine J_csi (As := [_]) md_X12_isDigit k_994 rfl rfl ⟨Nat.le_of_ble_eq_true rfl, Nat.le_of_ble_eq_true rfl⟩ ⟨Nat.le_of_ble_eq_true rfl, Nat.le_of_ble_eq_true rfl⟩ (Nat.le_of_ble_eq_true rfl) dX12_stepOn_112 (ct_X12_isDigit  h) (fun z_9 st_10 h => ?_)
            refine J_if_eq 186 dX12_stepOn_115 (by decide) (fun hc => ?_) (fun hc => ?_)
            · have h := h.1 hc
              refine J_aload_n 1 dX12_stepOn_186 rfl rfl ?_
              refine J_dup dX12_stepOn_187 rfl ?_
              obtain ⟨hf, h⟩ := h
              refine J_getI fl_RX12_197 dX12_stepOn_188 hf ?_
              refine J_iconst 1 dX12_stepOn_191 (by decide) ?_
              refine J_iadd dX12_stepOn_192 ?_
              obtain ⟨hf, h⟩ := h
              refine J_putI fp_RX12_197 dX12_stepOn_193 rfl hf ?_
              refine J_aload_n 1 dX12_stepOn_196 rfl rfl ?_
              refine J_iload_n 0 dX12_stepOn_197 rfl rfl ?_
              refine J_csi (As := [_]) md_X12_isMark k_996 rfl rfl ⟨Nat.le_of_ble_eq_true rfl, Nat.le_of_ble_eq_true rfl⟩ ⟨Nat.le_of_ble_eq_true rfl, Nat.le_of_ble_eq_true rfl⟩ (Nat.le_of_ble_eq_true rfl) dX12_stepOn_198 (ct_X12_isMark  h) (fun z_11 st_12 h => ?_)
              refine J_if_eq 208 dX12_stepOn_201 (by decide) (fun hc => ?_) (fun hc => ?_)
              · have h := h.1 hc
                refine J_iconst 4 dX12_stepOn_208 (by decide) ?_
                exact J_lv [1] rfl (K_X12_stepOn_209   a0  4 a0 st_12 h)
              · have h := h.2 hc
                refine J_iconst 3 dX12_stepOn_204 (by decide) ?_
                refine J_goto 209 dX12_stepOn_205 (by decide) ?_
                exact J_lv [1] rfl (K_X12_stepOn_209   a0  3 a0 st_12 h)
            · have h := h.2 hc
              refine J_aload_n 1 dX12_stepOn_118 rfl rfl ?_
              refine J_iconst 0 dX12_stepOn_119 (by decide) ?_
              obtain ⟨hf, h⟩ := h
              refine J_putI fp_RX12_217 dX12_stepOn_120 rfl hf ?_
              obtain ⟨n8, h⟩ := h
              exact J_lv [1] rfl (K_X12_stepOn_123   a0  n8 (sI st_10 a0 20 0) h)
          · have h := h.2 hc
            obtain ⟨n8, h⟩ := h
            exact J_lv [1] rfl (K_X12_stepOn_76   a0  n8 st_8 h)
        · have h := h.2 hc
          refine J_aload_n 1 dX12_stepOn_61 rfl rfl ?_
          refine J_iconst 0 dX12_stepOn_62 (by decide) ?_
          obtain ⟨hf, h⟩ := h
          refine J_putI fp_RX12_207 dX12_stepOn_63 rfl hf ?_
          refine J_goto 212 dX12_stepOn_66 (by decide) ?_
          exact J_lv [1] rfl (K_X12_stepOn_212   a0  (sI st_6 a0 19 0) h)
      · have h := h.2 hc
        exact J_lv [0] rfl (K_X12_stepOn_26   a0 (fun st h => ih st h) st_4 h)
set_option maxRecDepth 100000 in
set_option maxHeartbeats 4000000 in
theorem ct_X12_stepOn {l : Launch} {E : En}  {a0 : Nat} {st : St} {post : St → Prop} (h : P_X12_stepOn  a0 st post) : CtV l E (CFc E) 2 0 0 yX12_stepOn cX12_stepOn 2 none [.ref a0] st post := by
  refine ctV_of (by decide) (Nat.le_of_ble_eq_true rfl) ?_
  show Jg l E (CFc E) (Rm 2 0 0) cX12_stepOn 2 RX12 none (fun _ => True) (QV E post 0 0) 0 0 0 [(0, .ref a0)] [] st
  unfold P_X12_stepOn at h
  obtain ⟨n8, h⟩ := h
  exact J_lv [0] rfl (K_X12_stepOn_0   a0  n8 st h)
/-! X12_wrong -/
def P_X12_wrong  (a0 : Nat) (a1 : Int32) (st : St) (post : St → Prop) : Prop := fk a0 12 23 = some 0 ∧ (((gI st a0 23) = 0 → fk a0 12 23 = some 0 ∧ fk a0 12 21 = some 0 ∧ fk a0 12 24 = some 0 ∧ post (sI (sI st a0 23 a1) a0 24 (gI (sI st a0 23 a1) a0 21))) ∧ (¬ (gI st a0 23) = 0 → post st))
set_option maxRecDepth 100000 in
set_option maxHeartbeats 4000000 in
theorem ct_X12_wrong {l : Launch} {E : En}  {a0 : Nat} {a1 : Int32} {st : St} {post : St → Prop} (h : P_X12_wrong  a0 a1 st post) : CtV l E (CFc E) 1 0 0 yX12_wrong cX12_wrong 2 none [.ref a0, .int a1] st post := by
  refine ctV_of (by decide) (Nat.le_of_ble_eq_true rfl) ?_
  show Jg l E (CFc E) (Rm 1 0 0) cX12_wrong 2 RX12 none (fun _ => True) (QV E post 0 0) 0 0 0 [(0, .ref a0), (1, .int a1)] [] st
  unfold P_X12_wrong at h
  refine J_aload_n 0 dX12_wrong_0 rfl rfl ?_
  obtain ⟨hf, h⟩ := h
  refine J_getI fl_RX12_233 dX12_wrong_1 hf ?_
  refine J_if_eq 8 dX12_wrong_4 (by decide) (fun hc => ?_) (fun hc => ?_)
  · have h := h.1 hc
    refine J_aload_n 0 dX12_wrong_8 rfl rfl ?_
    refine J_iload_n 1 dX12_wrong_9 rfl rfl ?_
    obtain ⟨hf, h⟩ := h
    refine J_putI fp_RX12_233 dX12_wrong_10 rfl hf ?_
    refine J_aload_n 0 dX12_wrong_13 rfl rfl ?_
    refine J_aload_n 0 dX12_wrong_14 rfl rfl ?_
    obtain ⟨hf, h⟩ := h
    refine J_getI fl_RX12_204 dX12_wrong_15 hf ?_
    obtain ⟨hf, h⟩ := h
    refine J_putI fp_RX12_236 dX12_wrong_18 rfl hf ?_
    exact J_retv rfl dX12_wrong_21 h
  · have h := h.2 hc
    exact J_retv rfl dX12_wrong_7 h
/-! X12_isMarked -/
def P_X12_isMarked_33  (a0 : Nat) (a1 : Int32)  (post : Int32 → St → Prop) (s0 : Int32) (st : St) : Prop := (s0 = 0 ∨ s0 = 1) ∧ post s0 st
def P_X12_isMarked_32  (a0 : Nat) (a1 : Int32)  (post : Int32 → St → Prop)  (st : St) : Prop := P_X12_isMarked_33  a0 a1  post 0 st
def P_X12_isMarked  (a0 : Nat) (a1 : Int32) (st : St) (post : Int32 → St → Prop) : Prop := fk a0 12 23 = some 0 ∧ ((¬ (gI st a0 23) = 0 → P_X12_isMarked_32  a0 a1  post st) ∧ ((gI st a0 23) = 0 → fk a0 12 19 = some 0 ∧ ((¬ (gI st a0 19) = 3 → P_X12_isMarked_32  a0 a1  post st) ∧ ((gI st a0 19) = 3 → ∃ r_1, rv st a0 12 15 = some r_1 ∧ fk a0 12 21 = some 0 ∧ vp_in (gI st a0 21) (al 0 r_1) ∧ ((¬ (gA st r_1 (gI st a0 21 : Int32).toNatClampNeg) = a1 → P_X12_isMarked_32  a0 a1  post st) ∧ ((gA st r_1 (gI st a0 21 : Int32).toNatClampNeg) = a1 → P_X12_isMarked_33  a0 a1  post 1 st))))))
set_option maxRecDepth 100000 in
set_option maxHeartbeats 4000000 in
theorem K_X12_isMarked_33 {l : Launch} {E : En}   (a0 : Nat) (a1 : Int32)  {post : Int32 → St → Prop}   (s0 : Int32) (st : St) (h : P_X12_isMarked_33  a0 a1  post s0 st) : Jg l E (CFc E) (Rm 1 0 0) cX12_isMarked 2 RX12 (some .boolean) (fun _ => True) (QI E post 0 0) 0 0 33 [(0, .ref a0), (1, .int a1)] [.int s0] st := by
  unfold P_X12_isMarked_33 at h
  exact J_retz rfl h.1 dX12_isMarked_33 h.2
set_option maxRecDepth 100000 in
set_option maxHeartbeats 4000000 in
theorem K_X12_isMarked_32 {l : Launch} {E : En}   (a0 : Nat) (a1 : Int32)  {post : Int32 → St → Prop}    (st : St) (h : P_X12_isMarked_32  a0 a1  post  st) : Jg l E (CFc E) (Rm 1 0 0) cX12_isMarked 2 RX12 (some .boolean) (fun _ => True) (QI E post 0 0) 0 0 32 [(0, .ref a0), (1, .int a1)] [] st := by
  unfold P_X12_isMarked_32 at h
  refine J_iconst 0 dX12_isMarked_32 (by decide) ?_
  exact J_lv [0, 1] rfl (K_X12_isMarked_33   a0 a1  0 st h)
set_option maxRecDepth 100000 in
set_option maxHeartbeats 4000000 in
theorem ct_X12_isMarked {l : Launch} {E : En}  {a0 : Nat} {a1 : Int32} {st : St} {post : Int32 → St → Prop} (h : P_X12_isMarked  a0 a1 st post) : CtI l E (CFc E) 1 0 0 yX12_isMarked cX12_isMarked 2 (some .boolean) [.ref a0, .int a1] st post := by
  refine ctI_of (by decide) (Nat.le_of_ble_eq_true rfl) ?_
  show Jg l E (CFc E) (Rm 1 0 0) cX12_isMarked 2 RX12 (some .boolean) (fun _ => True) (QI E post 0 0) 0 0 0 [(0, .ref a0), (1, .int a1)] [] st
  unfold P_X12_isMarked at h
  refine J_aload_n 0 dX12_isMarked_0 rfl rfl ?_
  obtain ⟨hf, h⟩ := h
  refine J_getI fl_RX12_233 dX12_isMarked_1 hf ?_
  refine J_if_ne 32 dX12_isMarked_4 (by decide) (fun hc => ?_) (fun hc => ?_)
  · have h := h.1 hc
    exact J_lv [0, 1] rfl (K_X12_isMarked_32   a0 a1  st h)
  · have h := h.2 hc
    refine J_aload_n 0 dX12_isMarked_7 rfl rfl ?_
    obtain ⟨hf, h⟩ := h
    refine J_getI fl_RX12_207 dX12_isMarked_8 hf ?_
    refine J_iconst 3 dX12_isMarked_11 (by decide) ?_
    refine J_icmp_ne 32 dX12_isMarked_12 (by decide) (fun hc => ?_) (fun hc => ?_)
    · have h := h.1 hc
      exact J_lv [0, 1] rfl (K_X12_isMarked_32   a0 a1  st h)
    · have h := h.2 hc
      refine J_aload_n 0 dX12_isMarked_15 rfl rfl ?_
      obtain ⟨r_1, hf, h⟩ := h
      refine J_getR fl_RX12_78 dX12_isMarked_16 hf ?_
      refine J_aload_n 0 dX12_isMarked_19 rfl rfl ?_
      obtain ⟨hf, h⟩ := h
      refine J_getI fl_RX12_204 dX12_isMarked_20 hf ?_
      obtain ⟨hi, h⟩ := h
      refine J_iald dX12_isMarked_23 hi ?_
      refine J_iload_n 1 dX12_isMarked_24 rfl rfl ?_
      refine J_icmp_ne 32 dX12_isMarked_25 (by decide) (fun hc => ?_) (fun hc => ?_)
      · have h := h.1 hc
        exact J_lv [0, 1] rfl (K_X12_isMarked_32   a0 a1  st h)
      · have h := h.2 hc
        refine J_iconst 1 dX12_isMarked_28 (by decide) ?_
        refine J_goto 33 dX12_isMarked_29 (by decide) ?_
        exact J_lv [0, 1] rfl (K_X12_isMarked_33   a0 a1  1 st h)
/-! X12_mark -/
def P_X12_mark_31  (a0 : Nat) (a1 : Int32)  (post : St → Prop)  (st : St) : Prop := post st
def P_X12_mark_20  (a0 : Nat) (a1 : Int32)  (post : St → Prop)  (st : St) : Prop := fk a0 12 23 = some 0 ∧ ((¬ (gI st a0 23) = 0 → P_X12_mark_31  a0 a1  post st) ∧ ((gI st a0 23) = 0 → oC a0 12 ∧ P_X12_stepOn  a0 st (fun st_2 => P_X12_mark_31  a0 a1  post st_2)))
def P_X12_mark  (a0 : Nat) (a1 : Int32) (st : St) (post : St → Prop) : Prop := fk a0 12 23 = some 0 ∧ ((¬ (gI st a0 23) = 0 → P_X12_mark_20  a0 a1  post st) ∧ ((gI st a0 23) = 0 → oC a0 12 ∧ P_X12_isMarked  a0 a1 st (fun z_1 st_2 => ((¬ z_1 = 0 → P_X12_mark_20  a0 a1  post st_2) ∧ (z_1 = 0 → oC a0 12 ∧ P_X12_wrong  a0 1 st_2 (fun st_4 => P_X12_mark_20  a0 a1  post st_4))))))
set_option maxRecDepth 100000 in
set_option maxHeartbeats 4000000 in
theorem K_X12_mark_31 {l : Launch} {E : En}   (a0 : Nat) (a1 : Int32)  {post : St → Prop}    (st : St) (h : P_X12_mark_31  a0 a1  post  st) : Jg l E (CFc E) (Rm 3 0 0) cX12_mark 2 RX12 none (fun _ => True) (QV E post 0 0) 0 0 31 [(0, .ref a0), (1, .int a1)] [] st := by
  unfold P_X12_mark_31 at h
  exact J_retv rfl dX12_mark_31 h
set_option maxRecDepth 100000 in
set_option maxHeartbeats 4000000 in
theorem K_X12_mark_20 {l : Launch} {E : En}   (a0 : Nat) (a1 : Int32)  {post : St → Prop}    (st : St) (h : P_X12_mark_20  a0 a1  post  st) : Jg l E (CFc E) (Rm 3 0 0) cX12_mark 2 RX12 none (fun _ => True) (QV E post 0 0) 0 0 20 [(0, .ref a0), (1, .int a1)] [] st := by
  unfold P_X12_mark_20 at h
  refine J_aload_n 0 dX12_mark_20 rfl rfl ?_
  obtain ⟨hf, h⟩ := h
  refine J_getI fl_RX12_233 dX12_mark_21 hf ?_
  refine J_if_ne 31 dX12_mark_24 (by decide) (fun hc => ?_) (fun hc => ?_)
  · have h := h.1 hc
    exact J_lv [0, 1] rfl (K_X12_mark_31   a0 a1  st h)
  · have h := h.2 hc
    refine J_aload_n 0 dX12_mark_27 rfl rfl ?_
    obtain ⟨ho, h⟩ := h
    refine J_cvv (As := []) md_X12_stepOn k_1016 (rc_obj cl_12 ho) rfl rfl ⟨Nat.le_of_ble_eq_true rfl, Nat.le_of_ble_eq_true rfl⟩ ⟨Nat.le_of_ble_eq_true rfl, Nat.le_of_ble_eq_true rfl⟩ (Nat.le_of_ble_eq_true rfl) dX12_mark_28 (ct_X12_stepOn  h) (fun st_2 h => ?_)
    exact J_lv [0, 1] rfl (K_X12_mark_31   a0 a1  st_2 h)
set_option maxRecDepth 100000 in
set_option maxHeartbeats 4000000 in
theorem ct_X12_mark {l : Launch} {E : En}  {a0 : Nat} {a1 : Int32} {st : St} {post : St → Prop} (h : P_X12_mark  a0 a1 st post) : CtV l E (CFc E) 3 0 0 yX12_mark cX12_mark 2 none [.ref a0, .int a1] st post := by
  refine ctV_of (by decide) (Nat.le_of_ble_eq_true rfl) ?_
  show Jg l E (CFc E) (Rm 3 0 0) cX12_mark 2 RX12 none (fun _ => True) (QV E post 0 0) 0 0 0 [(0, .ref a0), (1, .int a1)] [] st
  unfold P_X12_mark at h
  refine J_aload_n 0 dX12_mark_0 rfl rfl ?_
  obtain ⟨hf, h⟩ := h
  refine J_getI fl_RX12_233 dX12_mark_1 hf ?_
  refine J_if_ne 20 dX12_mark_4 (by decide) (fun hc => ?_) (fun hc => ?_)
  · have h := h.1 hc
    exact J_lv [0, 1] rfl (K_X12_mark_20   a0 a1  st h)
  · have h := h.2 hc
    refine J_aload_n 0 dX12_mark_7 rfl rfl ?_
    refine J_iload_n 1 dX12_mark_8 rfl rfl ?_
    obtain ⟨ho, h⟩ := h
    refine J_cvi (As := [_]) md_X12_isMarked k_1010 (rc_obj cl_12 ho) rfl rfl ⟨Nat.le_of_ble_eq_true rfl, Nat.le_of_ble_eq_true rfl⟩ ⟨Nat.le_of_ble_eq_true rfl, Nat.le_of_ble_eq_true rfl⟩ (Nat.le_of_ble_eq_true rfl) dX12_mark_9 (ct_X12_isMarked  h) (fun z_1 st_2 h => ?_)
    refine J_if_ne 20 dX12_mark_12 (by decide) (fun hc => ?_) (fun hc => ?_)
    · have h := h.1 hc
      exact J_lv [0, 1] rfl (K_X12_mark_20   a0 a1  st_2 h)
    · have h := h.2 hc
      refine J_aload_n 0 dX12_mark_15 rfl rfl ?_
      refine J_iconst 1 dX12_mark_16 (by decide) ?_
      obtain ⟨ho, h⟩ := h
      refine J_cvv (As := [_]) md_X12_wrong k_1013 (rc_obj cl_12 ho) rfl rfl ⟨Nat.le_of_ble_eq_true rfl, Nat.le_of_ble_eq_true rfl⟩ ⟨Nat.le_of_ble_eq_true rfl, Nat.le_of_ble_eq_true rfl⟩ (Nat.le_of_ble_eq_true rfl) dX12_mark_17 (ct_X12_wrong  h) (fun st_4 h => ?_)
      exact J_lv [0, 1] rfl (K_X12_mark_20   a0 a1  st_4 h)
/-! X12_numberNow -/
def P_X12_numberNow_74  (a0 : Nat) (a1 : Int32) (a2 : Int32)  (post : Int32 → St → Prop) (s0 : Int32) (st : St) : Prop := post s0 st
def P_X12_numberNow_59  (a0 : Nat) (a1 : Int32) (a2 : Int32)  (post : Int32 → St → Prop)  (st : St) : Prop := fk a0 12 23 = some 0 ∧ ((¬ (gI st a0 23) = 0 → P_X12_numberNow_74  a0 a1 a2  post 0 st) ∧ ((gI st a0 23) = 0 → fk a0 12 20 = some 0 ∧ P_X12_numberNow_74  a0 a1 a2  post (gI st a0 20) st))
def P_X12_numberNow_54  (a0 : Nat) (a1 : Int32) (a2 : Int32)  (post : Int32 → St → Prop)  (st : St) : Prop := oC a0 12 ∧ P_X12_wrong  a0 2 st (fun st_2 => P_X12_numberNow_59  a0 a1 a2  post st_2)
def P_X12_numberNow  (a0 : Nat) (a1 : Int32) (a2 : Int32) (st : St) (post : Int32 → St → Prop) : Prop := fk a0 12 23 = some 0 ∧ (((gI st a0 23) = 0 → fk a0 12 19 = some 0 ∧ (((gI st a0 19) = 2 → fk a0 12 22 = some 0 ∧ fk a0 12 21 = some 0 ∧ ((4 < ((gI st a0 22) - (gI st a0 21)) → P_X12_numberNow_54  a0 a1 a2  post st) ∧ (¬ 4 < ((gI st a0 22) - (gI st a0 21)) → fk a0 12 20 = some 0 ∧ (((gI st a0 20) < a1 → P_X12_numberNow_54  a0 a1 a2  post st) ∧ (¬ (gI st a0 20) < a1 → fk a0 12 20 = some 0 ∧ (((gI st a0 20) ≤ a2 → P_X12_numberNow_59  a0 a1 a2  post st) ∧ (¬ (gI st a0 20) ≤ a2 → P_X12_numberNow_54  a0 a1 a2  post st))))))) ∧ (¬ (gI st a0 19) = 2 → oC a0 12 ∧ P_X12_wrong  a0 1 st (fun st_2 => P_X12_numberNow_59  a0 a1 a2  post st_2)))) ∧ (¬ (gI st a0 23) = 0 → post 0 st))
set_option maxRecDepth 100000 in
set_option maxHeartbeats 4000000 in
theorem K_X12_numberNow_74 {l : Launch} {E : En}   (a0 : Nat) (a1 : Int32) (a2 : Int32)  {post : Int32 → St → Prop}   (s0 : Int32) (st : St) (h : P_X12_numberNow_74  a0 a1 a2  post s0 st) : Jg l E (CFc E) (Rm 2 0 0) cX12_numberNow 3 RX12 (some .int) (fun _ => True) (QI E post 0 0) 0 0 74 [(0, .ref a0), (1, .int a1), (2, .int a2)] [.int s0] st := by
  unfold P_X12_numberNow_74 at h
  exact J_reti rfl dX12_numberNow_74 h
set_option maxRecDepth 100000 in
set_option maxHeartbeats 4000000 in
theorem K_X12_numberNow_59 {l : Launch} {E : En}   (a0 : Nat) (a1 : Int32) (a2 : Int32)  {post : Int32 → St → Prop}    (st : St) (h : P_X12_numberNow_59  a0 a1 a2  post  st) : Jg l E (CFc E) (Rm 2 0 0) cX12_numberNow 3 RX12 (some .int) (fun _ => True) (QI E post 0 0) 0 0 59 [(0, .ref a0), (1, .int a1), (2, .int a2)] [] st := by
  unfold P_X12_numberNow_59 at h
  refine J_aload_n 0 dX12_numberNow_59 rfl rfl ?_
  obtain ⟨hf, h⟩ := h
  refine J_getI fl_RX12_233 dX12_numberNow_60 hf ?_
  refine J_if_ne 73 dX12_numberNow_63 (by decide) (fun hc => ?_) (fun hc => ?_)
  · have h := h.1 hc
    refine J_iconst 0 dX12_numberNow_73 (by decide) ?_
    exact J_lv [0, 1, 2] rfl (K_X12_numberNow_74   a0 a1 a2  0 st h)
  · have h := h.2 hc
    refine J_aload_n 0 dX12_numberNow_66 rfl rfl ?_
    obtain ⟨hf, h⟩ := h
    refine J_getI fl_RX12_217 dX12_numberNow_67 hf ?_
    refine J_goto 74 dX12_numberNow_70 (by decide) ?_
    exact J_lv [0, 1, 2] rfl (K_X12_numberNow_74   a0 a1 a2  (gI st a0 20) st h)
set_option maxRecDepth 100000 in
set_option maxHeartbeats 4000000 in
theorem K_X12_numberNow_54 {l : Launch} {E : En}   (a0 : Nat) (a1 : Int32) (a2 : Int32)  {post : Int32 → St → Prop}    (st : St) (h : P_X12_numberNow_54  a0 a1 a2  post  st) : Jg l E (CFc E) (Rm 2 0 0) cX12_numberNow 3 RX12 (some .int) (fun _ => True) (QI E post 0 0) 0 0 54 [(0, .ref a0), (1, .int a1), (2, .int a2)] [] st := by
  unfold P_X12_numberNow_54 at h
  refine J_aload_n 0 dX12_numberNow_54 rfl rfl ?_
  refine J_iconst 2 dX12_numberNow_55 (by decide) ?_
  obtain ⟨ho, h⟩ := h
  refine J_cvv (As := [_]) md_X12_wrong k_1013 (rc_obj cl_12 ho) rfl rfl ⟨Nat.le_of_ble_eq_true rfl, Nat.le_of_ble_eq_true rfl⟩ ⟨Nat.le_of_ble_eq_true rfl, Nat.le_of_ble_eq_true rfl⟩ (Nat.le_of_ble_eq_true rfl) dX12_numberNow_56 (ct_X12_wrong  h) (fun st_2 h => ?_)
  exact J_lv [0, 1, 2] rfl (K_X12_numberNow_59   a0 a1 a2  st_2 h)
set_option maxRecDepth 100000 in
set_option maxHeartbeats 4000000 in
theorem ct_X12_numberNow {l : Launch} {E : En}  {a0 : Nat} {a1 : Int32} {a2 : Int32} {st : St} {post : Int32 → St → Prop} (h : P_X12_numberNow  a0 a1 a2 st post) : CtI l E (CFc E) 2 0 0 yX12_numberNow cX12_numberNow 3 (some .int) [.ref a0, .int a1, .int a2] st post := by
  refine ctI_of (by decide) (Nat.le_of_ble_eq_true rfl) ?_
  show Jg l E (CFc E) (Rm 2 0 0) cX12_numberNow 3 RX12 (some .int) (fun _ => True) (QI E post 0 0) 0 0 0 [(0, .ref a0), (1, .int a1), (2, .int a2)] [] st
  unfold P_X12_numberNow at h
  refine J_aload_n 0 dX12_numberNow_0 rfl rfl ?_
  obtain ⟨hf, h⟩ := h
  refine J_getI fl_RX12_233 dX12_numberNow_1 hf ?_
  refine J_if_eq 9 dX12_numberNow_4 (by decide) (fun hc => ?_) (fun hc => ?_)
  · have h := h.1 hc
    refine J_aload_n 0 dX12_numberNow_9 rfl rfl ?_
    obtain ⟨hf, h⟩ := h
    refine J_getI fl_RX12_207 dX12_numberNow_10 hf ?_
    refine J_iconst 2 dX12_numberNow_13 (by decide) ?_
    refine J_icmp_eq 25 dX12_numberNow_14 (by decide) (fun hc => ?_) (fun hc => ?_)
    · have h := h.1 hc
      refine J_aload_n 0 dX12_numberNow_25 rfl rfl ?_
      obtain ⟨hf, h⟩ := h
      refine J_getI fl_RX12_230 dX12_numberNow_26 hf ?_
      refine J_aload_n 0 dX12_numberNow_29 rfl rfl ?_
      obtain ⟨hf, h⟩ := h
      refine J_getI fl_RX12_204 dX12_numberNow_30 hf ?_
      refine J_isub dX12_numberNow_33 ?_
      refine J_iconst 4 dX12_numberNow_34 (by decide) ?_
      refine J_icmp_gt 54 dX12_numberNow_35 (by decide) (fun hc => ?_) (fun hc => ?_)
      · have h := h.1 hc
        exact J_lv [0, 1, 2] rfl (K_X12_numberNow_54   a0 a1 a2  st h)
      · have h := h.2 hc
        refine J_aload_n 0 dX12_numberNow_38 rfl rfl ?_
        obtain ⟨hf, h⟩ := h
        refine J_getI fl_RX12_217 dX12_numberNow_39 hf ?_
        refine J_iload_n 1 dX12_numberNow_42 rfl rfl ?_
        refine J_icmp_lt 54 dX12_numberNow_43 (by decide) (fun hc => ?_) (fun hc => ?_)
        · have h := h.1 hc
          exact J_lv [0, 1, 2] rfl (K_X12_numberNow_54   a0 a1 a2  st h)
        · have h := h.2 hc
          refine J_aload_n 0 dX12_numberNow_46 rfl rfl ?_
          obtain ⟨hf, h⟩ := h
          refine J_getI fl_RX12_217 dX12_numberNow_47 hf ?_
          refine J_iload_n 2 dX12_numberNow_50 rfl rfl ?_
          refine J_icmp_le 59 dX12_numberNow_51 (by decide) (fun hc => ?_) (fun hc => ?_)
          · have h := h.1 hc
            exact J_lv [0, 1, 2] rfl (K_X12_numberNow_59   a0 a1 a2  st h)
          · have h := h.2 hc
            exact J_lv [0, 1, 2] rfl (K_X12_numberNow_54   a0 a1 a2  st h)
    · have h := h.2 hc
      refine J_aload_n 0 dX12_numberNow_17 rfl rfl ?_
      refine J_iconst 1 dX12_numberNow_18 (by decide) ?_
      obtain ⟨ho, h⟩ := h
      refine J_cvv (As := [_]) md_X12_wrong k_1013 (rc_obj cl_12 ho) rfl rfl ⟨Nat.le_of_ble_eq_true rfl, Nat.le_of_ble_eq_true rfl⟩ ⟨Nat.le_of_ble_eq_true rfl, Nat.le_of_ble_eq_true rfl⟩ (Nat.le_of_ble_eq_true rfl) dX12_numberNow_19 (ct_X12_wrong  h) (fun st_2 h => ?_)
      refine J_goto 59 dX12_numberNow_22 (by decide) ?_
      exact J_lv [0, 1, 2] rfl (K_X12_numberNow_59   a0 a1 a2  st_2 h)
  · have h := h.2 hc
    refine J_iconst 0 dX12_numberNow_7 (by decide) ?_
    exact J_reti rfl dX12_numberNow_8 h
/-! X12_readNumber -/
def P_X12_readNumber_18  (a0 : Nat) (a1 : Int32) (a2 : Int32)  (post : Int32 → St → Prop) (x3 : Int32) (st : St) : Prop := post x3 st
def P_X12_readNumber  (a0 : Nat) (a1 : Int32) (a2 : Int32) (st : St) (post : Int32 → St → Prop) : Prop := oC a0 12 ∧ P_X12_numberNow  a0 a1 a2 st (fun z_1 st_2 => fk a0 12 23 = some 0 ∧ ((¬ (gI st_2 a0 23) = 0 → P_X12_readNumber_18  a0 a1 a2  post z_1 st_2) ∧ ((gI st_2 a0 23) = 0 → oC a0 12 ∧ P_X12_stepOn  a0 st_2 (fun st_4 => P_X12_readNumber_18  a0 a1 a2  post z_1 st_4))))
set_option maxRecDepth 100000 in
set_option maxHeartbeats 4000000 in
theorem K_X12_readNumber_18 {l : Launch} {E : En}   (a0 : Nat) (a1 : Int32) (a2 : Int32)  {post : Int32 → St → Prop}   (x3 : Int32) (st : St) (h : P_X12_readNumber_18  a0 a1 a2  post x3 st) : Jg l E (CFc E) (Rm 3 0 0) cX12_readNumber 4 RX12 (some .int) (fun _ => True) (QI E post 0 0) 0 0 18 [(0, .ref a0), (1, .int a1), (2, .int a2), (3, .int x3)] [] st := by
  unfold P_X12_readNumber_18 at h
  refine J_iload_n 3 dX12_readNumber_18 rfl rfl ?_
  exact J_reti rfl dX12_readNumber_19 h
set_option maxRecDepth 100000 in
set_option maxHeartbeats 4000000 in
theorem ct_X12_readNumber {l : Launch} {E : En}  {a0 : Nat} {a1 : Int32} {a2 : Int32} {st : St} {post : Int32 → St → Prop} (h : P_X12_readNumber  a0 a1 a2 st post) : CtI l E (CFc E) 3 0 0 yX12_readNumber cX12_readNumber 4 (some .int) [.ref a0, .int a1, .int a2] st post := by
  refine ctI_of (by decide) (Nat.le_of_ble_eq_true rfl) ?_
  show Jg l E (CFc E) (Rm 3 0 0) cX12_readNumber 4 RX12 (some .int) (fun _ => True) (QI E post 0 0) 0 0 0 [(0, .ref a0), (1, .int a1), (2, .int a2)] [] st
  unfold P_X12_readNumber at h
  refine J_aload_n 0 dX12_readNumber_0 rfl rfl ?_
  refine J_iload_n 1 dX12_readNumber_1 rfl rfl ?_
  refine J_iload_n 2 dX12_readNumber_2 rfl rfl ?_
  obtain ⟨ho, h⟩ := h
  refine J_cvi (As := [_, _]) md_X12_numberNow k_1021 (rc_obj cl_12 ho) rfl rfl ⟨Nat.le_of_ble_eq_true rfl, Nat.le_of_ble_eq_true rfl⟩ ⟨Nat.le_of_ble_eq_true rfl, Nat.le_of_ble_eq_true rfl⟩ (Nat.le_of_ble_eq_true rfl) dX12_readNumber_3 (ct_X12_numberNow  h) (fun z_1 st_2 h => ?_)
  refine J_istore_n _ dX12_readNumber_6 rfl (by decide) rfl ?_
  refine J_aload_n 1 dX12_readNumber_7 rfl rfl ?_
  obtain ⟨hf, h⟩ := h
  refine J_getI fl_RX12_233 dX12_readNumber_8 hf ?_
  refine J_if_ne 18 dX12_readNumber_11 (by decide) (fun hc => ?_) (fun hc => ?_)
  · have h := h.1 hc
    exact J_lv [1, 2, 3, 0] rfl (K_X12_readNumber_18   a0 a1 a2  z_1 st_2 h)
  · have h := h.2 hc
    refine J_aload_n 1 dX12_readNumber_14 rfl rfl ?_
    obtain ⟨ho, h⟩ := h
    refine J_cvv (As := []) md_X12_stepOn k_1016 (rc_obj cl_12 ho) rfl rfl ⟨Nat.le_of_ble_eq_true rfl, Nat.le_of_ble_eq_true rfl⟩ ⟨Nat.le_of_ble_eq_true rfl, Nat.le_of_ble_eq_true rfl⟩ (Nat.le_of_ble_eq_true rfl) dX12_readNumber_15 (ct_X12_stepOn  h) (fun st_4 h => ?_)
    exact J_lv [1, 2, 3, 0] rfl (K_X12_readNumber_18   a0 a1 a2  z_1 st_4 h)
/-! X12_oneNow -/
def P_X12_oneNow_45  (a0 : Nat) (a1 : Int32)  (post : Int32 → St → Prop) (s0 : Int32) (st : St) : Prop := post s0 st
def P_X12_oneNow_33  (a0 : Nat) (a1 : Int32)  (post : Int32 → St → Prop) (x2 : Int32) (st : St) : Prop := fk a0 12 23 = some 0 ∧ ((¬ (gI st a0 23) = 0 → P_X12_oneNow_45  a0 a1  post 0 st) ∧ ((gI st a0 23) = 0 → P_X12_oneNow_45  a0 a1  post x2 st))
def P_X12_oneNow  (a0 : Nat) (a1 : Int32) (st : St) (post : Int32 → St → Prop) : Prop := oC a0 12 ∧ P_X12_numberNow  a0 0 9999 st (fun z_1 st_2 => fk a0 12 23 = some 0 ∧ ((¬ (gI st_2 a0 23) = 0 → P_X12_oneNow_33  a0 a1  post z_1 st_2) ∧ ((gI st_2 a0 23) = 0 → ∃ r_3, rv st_2 a0 12 5 = some r_3 ∧ vp_in (5 + a1) (al 0 r_3) ∧ ((z_1 < (gA st_2 r_3 (5 + a1 : Int32).toNatClampNeg) → P_X12_oneNow_33  a0 a1  post z_1 st_2) ∧ (¬ z_1 < (gA st_2 r_3 (5 + a1 : Int32).toNatClampNeg) → oC a0 12 ∧ P_X12_wrong  a0 3 st_2 (fun st_5 => P_X12_oneNow_33  a0 a1  post z_1 st_5))))))
set_option maxRecDepth 100000 in
set_option maxHeartbeats 4000000 in
theorem K_X12_oneNow_45 {l : Launch} {E : En}   (a0 : Nat) (a1 : Int32)  {post : Int32 → St → Prop}   (s0 : Int32) (st : St) (h : P_X12_oneNow_45  a0 a1  post s0 st) : Jg l E (CFc E) (Rm 3 0 0) cX12_oneNow 3 RX12 (some .int) (fun _ => True) (QI E post 0 0) 0 0 45 [(0, .ref a0), (1, .int a1)] [.int s0] st := by
  unfold P_X12_oneNow_45 at h
  exact J_reti rfl dX12_oneNow_45 h
set_option maxRecDepth 100000 in
set_option maxHeartbeats 4000000 in
theorem K_X12_oneNow_33 {l : Launch} {E : En}   (a0 : Nat) (a1 : Int32)  {post : Int32 → St → Prop}   (x2 : Int32) (st : St) (h : P_X12_oneNow_33  a0 a1  post x2 st) : Jg l E (CFc E) (Rm 3 0 0) cX12_oneNow 3 RX12 (some .int) (fun _ => True) (QI E post 0 0) 0 0 33 [(0, .ref a0), (1, .int a1), (2, .int x2)] [] st := by
  unfold P_X12_oneNow_33 at h
  refine J_aload_n 0 dX12_oneNow_33 rfl rfl ?_
  obtain ⟨hf, h⟩ := h
  refine J_getI fl_RX12_233 dX12_oneNow_34 hf ?_
  refine J_if_ne 44 dX12_oneNow_37 (by decide) (fun hc => ?_) (fun hc => ?_)
  · have h := h.1 hc
    refine J_iconst 0 dX12_oneNow_44 (by decide) ?_
    exact J_lv [0, 1] rfl (K_X12_oneNow_45   a0 a1  0 st h)
  · have h := h.2 hc
    refine J_iload_n 2 dX12_oneNow_40 rfl rfl ?_
    refine J_goto 45 dX12_oneNow_41 (by decide) ?_
    exact J_lv [0, 1] rfl (K_X12_oneNow_45   a0 a1  x2 st h)
set_option maxRecDepth 100000 in
set_option maxHeartbeats 4000000 in
theorem ct_X12_oneNow {l : Launch} {E : En}  {a0 : Nat} {a1 : Int32} {st : St} {post : Int32 → St → Prop} (h : P_X12_oneNow  a0 a1 st post) : CtI l E (CFc E) 3 0 0 yX12_oneNow cX12_oneNow 3 (some .int) [.ref a0, .int a1] st post := by
  refine ctI_of (by decide) (Nat.le_of_ble_eq_true rfl) ?_
  show Jg l E (CFc E) (Rm 3 0 0) cX12_oneNow 3 RX12 (some .int) (fun _ => True) (QI E post 0 0) 0 0 0 [(0, .ref a0), (1, .int a1)] [] st
  unfold P_X12_oneNow at h
  refine J_aload_n 0 dX12_oneNow_0 rfl rfl ?_
  refine J_iconst 0 dX12_oneNow_1 (by decide) ?_
  refine J_sipush 9999 dX12_oneNow_2 (by decide) ?_
  obtain ⟨ho, h⟩ := h
  refine J_cvi (As := [_, _]) md_X12_numberNow k_1021 (rc_obj cl_12 ho) rfl rfl ⟨Nat.le_of_ble_eq_true rfl, Nat.le_of_ble_eq_true rfl⟩ ⟨Nat.le_of_ble_eq_true rfl, Nat.le_of_ble_eq_true rfl⟩ (Nat.le_of_ble_eq_true rfl) dX12_oneNow_5 (ct_X12_numberNow  h) (fun z_1 st_2 h => ?_)
  refine J_istore_n _ dX12_oneNow_8 rfl (by decide) rfl ?_
  refine J_aload_n 1 dX12_oneNow_9 rfl rfl ?_
  obtain ⟨hf, h⟩ := h
  refine J_getI fl_RX12_233 dX12_oneNow_10 hf ?_
  refine J_if_ne 33 dX12_oneNow_13 (by decide) (fun hc => ?_) (fun hc => ?_)
  · have h := h.1 hc
    exact J_lv [1, 2, 0] rfl (K_X12_oneNow_33   a0 a1  z_1 st_2 h)
  · have h := h.2 hc
    refine J_iload_n 0 dX12_oneNow_16 rfl rfl ?_
    refine J_aload_n 1 dX12_oneNow_17 rfl rfl ?_
    obtain ⟨r_3, hf, h⟩ := h
    refine J_getR fl_RX12_48 dX12_oneNow_18 hf ?_
    refine J_iconst 5 dX12_oneNow_21 (by decide) ?_
    refine J_iload_n 2 dX12_oneNow_22 rfl rfl ?_
    refine J_iadd dX12_oneNow_23 ?_
    obtain ⟨hi, h⟩ := h
    refine J_iald dX12_oneNow_24 hi ?_
    refine J_icmp_lt 33 dX12_oneNow_25 (by decide) (fun hc => ?_) (fun hc => ?_)
    · have h := h.1 hc
      exact J_lv [1, 2, 0] rfl (K_X12_oneNow_33   a0 a1  z_1 st_2 h)
    · have h := h.2 hc
      refine J_aload_n 1 dX12_oneNow_28 rfl rfl ?_
      refine J_iconst 3 dX12_oneNow_29 (by decide) ?_
      obtain ⟨ho, h⟩ := h
      refine J_cvv (As := [_]) md_X12_wrong k_1013 (rc_obj cl_12 ho) rfl rfl ⟨Nat.le_of_ble_eq_true rfl, Nat.le_of_ble_eq_true rfl⟩ ⟨Nat.le_of_ble_eq_true rfl, Nat.le_of_ble_eq_true rfl⟩ (Nat.le_of_ble_eq_true rfl) dX12_oneNow_30 (ct_X12_wrong  h) (fun st_5 h => ?_)
      exact J_lv [1, 2, 0] rfl (K_X12_oneNow_33   a0 a1  z_1 st_5 h)
/-! X12_lay -/
def P_X12_lay_41  (a0 : Nat) (a1 : Int32)  (post : St → Prop) (x2 : Int32) (s0 : Nat) (st : St) : Prop := ∃ r_1, rv st a0 12 5 = some r_1 ∧ vp_in x2 (al 0 r_1) ∧ vp_in (700 + (gA st r_1 (x2 : Int32).toNatClampNeg)) (al 0 s0) ∧ ∃ r_2, rv (sA st s0 (700 + (gA st r_1 (x2 : Int32).toNatClampNeg) : Int32).toNatClampNeg a1) a0 12 5 = some r_2 ∧ vp_in x2 (al 0 r_2) ∧ vp_in x2 (al 0 r_2) ∧ post (sA (sA st s0 (700 + (gA st r_1 (x2 : Int32).toNatClampNeg) : Int32).toNatClampNeg a1) r_2 (x2 : Int32).toNatClampNeg ((gA (sA st s0 (700 + (gA st r_1 (x2 : Int32).toNatClampNeg) : Int32).toNatClampNeg a1) r_2 (x2 : Int32).toNatClampNeg) + 1))
def P_X12_lay_21  (a0 : Nat) (a1 : Int32)  (post : St → Prop) (s0 : Int32) (s1 : Int32) (st : St) : Prop := fk a0 12 26 = some 0 ∧ (((gI st a0 26) = 0 → ∃ r_1, rv st a0 12 12 = some r_1 ∧ P_X12_lay_41  a0 a1  post (s1 + s0) r_1 st) ∧ (¬ (gI st a0 26) = 0 → ∃ r_2, rv st a0 12 13 = some r_2 ∧ P_X12_lay_41  a0 a1  post (s1 + s0) r_2 st))
def P_X12_lay  (a0 : Nat) (a1 : Int32) (st : St) (post : St → Prop) : Prop := fk a0 12 23 = some 0 ∧ (((gI st a0 23) = 0 → fk a0 12 26 = some 0 ∧ (((gI st a0 26) = 0 → P_X12_lay_21  a0 a1  post 3 5 st) ∧ (¬ (gI st a0 26) = 0 → P_X12_lay_21  a0 a1  post 4 5 st))) ∧ (¬ (gI st a0 23) = 0 → post st))
set_option maxRecDepth 100000 in
set_option maxHeartbeats 4000000 in
theorem K_X12_lay_41 {l : Launch} {E : En}   (a0 : Nat) (a1 : Int32)  {post : St → Prop}   (x2 : Int32) (s0 : Nat) (st : St) (h : P_X12_lay_41  a0 a1  post x2 s0 st) : Jg l E (CFc E) (Rm 1 0 0) cX12_lay 4 RX12 none (fun _ => True) (QV E post 0 0) 0 0 41 [(0, .ref a0), (1, .int a1), (2, .int x2)] [.ref s0] st := by
  unfold P_X12_lay_41 at h
  refine J_astore_n _ dX12_lay_41 rfl (by decide) rfl ?_
  refine J_aload_n 0 dX12_lay_42 rfl rfl ?_
  refine J_sipush 700 dX12_lay_43 (by decide) ?_
  refine J_aload_n 1 dX12_lay_46 rfl rfl ?_
  obtain ⟨r_1, hf, h⟩ := h
  refine J_getR fl_RX12_48 dX12_lay_47 hf ?_
  refine J_iload_n 3 dX12_lay_50 rfl rfl ?_
  obtain ⟨hi, h⟩ := h
  refine J_iald dX12_lay_51 hi ?_
  refine J_iadd dX12_lay_52 ?_
  refine J_iload_n 2 dX12_lay_53 rfl rfl ?_
  obtain ⟨hi, h⟩ := h
  refine J_iast dX12_lay_54 hi ?_
  refine J_aload_n 1 dX12_lay_55 rfl rfl ?_
  obtain ⟨r_2, hf, h⟩ := h
  refine J_getR fl_RX12_48 dX12_lay_56 hf ?_
  refine J_iload_n 3 dX12_lay_59 rfl rfl ?_
  refine J_dup2 dX12_lay_60 rfl rfl ?_
  obtain ⟨hi, h⟩ := h
  refine J_iald dX12_lay_61 hi ?_
  refine J_iconst 1 dX12_lay_62 (by decide) ?_
  refine J_iadd dX12_lay_63 ?_
  obtain ⟨hi, h⟩ := h
  refine J_iast dX12_lay_64 hi ?_
  exact J_retv rfl dX12_lay_65 h
set_option maxRecDepth 100000 in
set_option maxHeartbeats 4000000 in
theorem K_X12_lay_21 {l : Launch} {E : En}   (a0 : Nat) (a1 : Int32)  {post : St → Prop}   (s0 : Int32) (s1 : Int32) (st : St) (h : P_X12_lay_21  a0 a1  post s0 s1 st) : Jg l E (CFc E) (Rm 1 0 0) cX12_lay 4 RX12 none (fun _ => True) (QV E post 0 0) 0 0 21 [(0, .ref a0), (1, .int a1)] [.int s0, .int s1] st := by
  unfold P_X12_lay_21 at h
  refine J_iadd dX12_lay_21 ?_
  refine J_istore_n _ dX12_lay_22 rfl (by decide) rfl ?_
  refine J_aload_n 1 dX12_lay_23 rfl rfl ?_
  obtain ⟨hf, h⟩ := h
  refine J_getI fl_RX12_264 dX12_lay_24 hf ?_
  refine J_if_eq 37 dX12_lay_27 (by decide) (fun hc => ?_) (fun hc => ?_)
  · have h := h.1 hc
    refine J_aload_n 1 dX12_lay_37 rfl rfl ?_
    obtain ⟨r_1, hf, h⟩ := h
    refine J_getR fl_RX12_69 dX12_lay_38 hf ?_
    exact J_lv [1, 2, 0] rfl (K_X12_lay_41   a0 a1  (s1 + s0) r_1 st h)
  · have h := h.2 hc
    refine J_aload_n 1 dX12_lay_30 rfl rfl ?_
    obtain ⟨r_2, hf, h⟩ := h
    refine J_getR fl_RX12_72 dX12_lay_31 hf ?_
    refine J_goto 41 dX12_lay_34 (by decide) ?_
    exact J_lv [1, 2, 0] rfl (K_X12_lay_41   a0 a1  (s1 + s0) r_2 st h)
set_option maxRecDepth 100000 in
set_option maxHeartbeats 4000000 in
theorem ct_X12_lay {l : Launch} {E : En}  {a0 : Nat} {a1 : Int32} {st : St} {post : St → Prop} (h : P_X12_lay  a0 a1 st post) : CtV l E (CFc E) 1 0 0 yX12_lay cX12_lay 4 none [.ref a0, .int a1] st post := by
  refine ctV_of (by decide) (Nat.le_of_ble_eq_true rfl) ?_
  show Jg l E (CFc E) (Rm 1 0 0) cX12_lay 4 RX12 none (fun _ => True) (QV E post 0 0) 0 0 0 [(0, .ref a0), (1, .int a1)] [] st
  unfold P_X12_lay at h
  refine J_aload_n 0 dX12_lay_0 rfl rfl ?_
  obtain ⟨hf, h⟩ := h
  refine J_getI fl_RX12_233 dX12_lay_1 hf ?_
  refine J_if_eq 8 dX12_lay_4 (by decide) (fun hc => ?_) (fun hc => ?_)
  · have h := h.1 hc
    refine J_iconst 5 dX12_lay_8 (by decide) ?_
    refine J_aload_n 0 dX12_lay_9 rfl rfl ?_
    obtain ⟨hf, h⟩ := h
    refine J_getI fl_RX12_264 dX12_lay_10 hf ?_
    refine J_if_eq 20 dX12_lay_13 (by decide) (fun hc => ?_) (fun hc => ?_)
    · have h := h.1 hc
      refine J_iconst 3 dX12_lay_20 (by decide) ?_
      exact J_lv [0, 1] rfl (K_X12_lay_21   a0 a1  3 5 st h)
    · have h := h.2 hc
      refine J_iconst 4 dX12_lay_16 (by decide) ?_
      refine J_goto 21 dX12_lay_17 (by decide) ?_
      exact J_lv [0, 1] rfl (K_X12_lay_21   a0 a1  4 5 st h)
  · have h := h.2 hc
    exact J_retv rfl dX12_lay_7 h
/-! X12_another -/
def P_X12_another_17  (a0 : Nat) (a1 : Int32) (a2 : Int32)  (post : Int32 → St → Prop)  (st : St) : Prop := fk a0 12 23 = some 0 ∧ (((gI st a0 23) = 0 → oC a0 12 ∧ P_X12_stepOn  a0 st (fun st_2 => post 1 st_2)) ∧ (¬ (gI st a0 23) = 0 → post 0 st))
def P_X12_another  (a0 : Nat) (a1 : Int32) (a2 : Int32) (st : St) (post : Int32 → St → Prop) : Prop := ∃ r_1, rv st a0 12 5 = some r_1 ∧ vp_in (5 + a1) (al 0 r_1) ∧ ((¬ (gA st r_1 (5 + a1 : Int32).toNatClampNeg) = a2 → P_X12_another_17  a0 a1 a2  post st) ∧ ((gA st r_1 (5 + a1 : Int32).toNatClampNeg) = a2 → oC a0 12 ∧ P_X12_wrong  a0 2 st (fun st_3 => P_X12_another_17  a0 a1 a2  post st_3)))
set_option maxRecDepth 100000 in
set_option maxHeartbeats 4000000 in
theorem K_X12_another_17 {l : Launch} {E : En}   (a0 : Nat) (a1 : Int32) (a2 : Int32)  {post : Int32 → St → Prop}    (st : St) (h : P_X12_another_17  a0 a1 a2  post  st) : Jg l E (CFc E) (Rm 3 0 0) cX12_another 3 RX12 (some .boolean) (fun _ => True) (QI E post 0 0) 0 0 17 [(0, .ref a0), (1, .int a1), (2, .int a2)] [] st := by
  unfold P_X12_another_17 at h
  refine J_aload_n 0 dX12_another_17 rfl rfl ?_
  obtain ⟨hf, h⟩ := h
  refine J_getI fl_RX12_233 dX12_another_18 hf ?_
  refine J_if_eq 26 dX12_another_21 (by decide) (fun hc => ?_) (fun hc => ?_)
  · have h := h.1 hc
    refine J_aload_n 0 dX12_another_26 rfl rfl ?_
    obtain ⟨ho, h⟩ := h
    refine J_cvv (As := []) md_X12_stepOn k_1016 (rc_obj cl_12 ho) rfl rfl ⟨Nat.le_of_ble_eq_true rfl, Nat.le_of_ble_eq_true rfl⟩ ⟨Nat.le_of_ble_eq_true rfl, Nat.le_of_ble_eq_true rfl⟩ (Nat.le_of_ble_eq_true rfl) dX12_another_27 (ct_X12_stepOn  h) (fun st_2 h => ?_)
    refine J_iconst 1 dX12_another_30 (by decide) ?_
    exact J_retz rfl (Or.inr rfl) dX12_another_31 h
  · have h := h.2 hc
    refine J_iconst 0 dX12_another_24 (by decide) ?_
    exact J_retz rfl (Or.inl rfl) dX12_another_25 h
set_option maxRecDepth 100000 in
set_option maxHeartbeats 4000000 in
theorem ct_X12_another {l : Launch} {E : En}  {a0 : Nat} {a1 : Int32} {a2 : Int32} {st : St} {post : Int32 → St → Prop} (h : P_X12_another  a0 a1 a2 st post) : CtI l E (CFc E) 3 0 0 yX12_another cX12_another 3 (some .boolean) [.ref a0, .int a1, .int a2] st post := by
  refine ctI_of (by decide) (Nat.le_of_ble_eq_true rfl) ?_
  show Jg l E (CFc E) (Rm 3 0 0) cX12_another 3 RX12 (some .boolean) (fun _ => True) (QI E post 0 0) 0 0 0 [(0, .ref a0), (1, .int a1), (2, .int a2)] [] st
  unfold P_X12_another at h
  refine J_aload_n 0 dX12_another_0 rfl rfl ?_
  obtain ⟨r_1, hf, h⟩ := h
  refine J_getR fl_RX12_48 dX12_another_1 hf ?_
  refine J_iconst 5 dX12_another_4 (by decide) ?_
  refine J_iload_n 1 dX12_another_5 rfl rfl ?_
  refine J_iadd dX12_another_6 ?_
  obtain ⟨hi, h⟩ := h
  refine J_iald dX12_another_7 hi ?_
  refine J_iload_n 2 dX12_another_8 rfl rfl ?_
  refine J_icmp_ne 17 dX12_another_9 (by decide) (fun hc => ?_) (fun hc => ?_)
  · have h := h.1 hc
    exact J_lv [0, 1, 2] rfl (K_X12_another_17   a0 a1 a2  st h)
  · have h := h.2 hc
    refine J_aload_n 0 dX12_another_12 rfl rfl ?_
    refine J_iconst 2 dX12_another_13 (by decide) ?_
    obtain ⟨ho, h⟩ := h
    refine J_cvv (As := [_]) md_X12_wrong k_1013 (rc_obj cl_12 ho) rfl rfl ⟨Nat.le_of_ble_eq_true rfl, Nat.le_of_ble_eq_true rfl⟩ ⟨Nat.le_of_ble_eq_true rfl, Nat.le_of_ble_eq_true rfl⟩ (Nat.le_of_ble_eq_true rfl) dX12_another_14 (ct_X12_wrong  h) (fun st_3 h => ?_)
    exact J_lv [0, 1, 2] rfl (K_X12_another_17   a0 a1 a2  st_3 h)
/-! X12_sayPerson -/
def P_X12_sayPerson  (a0 : Nat) (a1 : Int32) (st : St) (post : St → Prop) : Prop := oC a0 12 ∧ P_X12_another  a0 0 9 st (fun z_1 st_2 => ((¬ z_1 = 0 → ∃ r_3, rv st_2 a0 12 5 = some r_3 ∧ vp_in 5 (al 0 r_3) ∧ ∃ r_4, rv st_2 a0 12 6 = some r_4 ∧ vp_in (9 + (gA st_2 r_3 (5 : Int32).toNatClampNeg)) (al 0 r_4) ∧ ∃ r_5, rv (sA st_2 r_4 (9 + (gA st_2 r_3 (5 : Int32).toNatClampNeg) : Int32).toNatClampNeg a1) a0 12 7 = some r_5 ∧ oC a0 12 ∧ P_X12_readNumber  a0 0 99 (sA st_2 r_4 (9 + (gA st_2 r_3 (5 : Int32).toNatClampNeg) : Int32).toNatClampNeg a1) (fun z_6 st_7 => vp_in (9 + (gA st_2 r_3 (5 : Int32).toNatClampNeg)) (al 0 r_5) ∧ ∃ r_8, rv (sA st_7 r_5 (9 + (gA st_2 r_3 (5 : Int32).toNatClampNeg) : Int32).toNatClampNeg z_6) a0 12 8 = some r_8 ∧ oC a0 12 ∧ P_X12_readNumber  a0 0 9 (sA st_7 r_5 (9 + (gA st_2 r_3 (5 : Int32).toNatClampNeg) : Int32).toNatClampNeg z_6) (fun z_9 st_10 => vp_in (9 + (gA st_2 r_3 (5 : Int32).toNatClampNeg)) (al 0 r_8) ∧ ∃ r_11, rv (sA st_10 r_8 (9 + (gA st_2 r_3 (5 : Int32).toNatClampNeg) : Int32).toNatClampNeg z_9) a0 12 9 = some r_11 ∧ oC a0 12 ∧ P_X12_readNumber  a0 0 9 (sA st_10 r_8 (9 + (gA st_2 r_3 (5 : Int32).toNatClampNeg) : Int32).toNatClampNeg z_9) (fun z_12 st_13 => vp_in (9 + (gA st_2 r_3 (5 : Int32).toNatClampNeg)) (al 0 r_11) ∧ ∃ r_14, rv (sA st_13 r_11 (9 + (gA st_2 r_3 (5 : Int32).toNatClampNeg) : Int32).toNatClampNeg z_12) a0 12 5 = some r_14 ∧ vp_in 5 (al 0 r_14) ∧ vp_in 5 (al 0 r_14) ∧ post (sA (sA st_13 r_11 (9 + (gA st_2 r_3 (5 : Int32).toNatClampNeg) : Int32).toNatClampNeg z_12) r_14 (5 : Int32).toNatClampNeg ((gA (sA st_13 r_11 (9 + (gA st_2 r_3 (5 : Int32).toNatClampNeg) : Int32).toNatClampNeg z_12) r_14 (5 : Int32).toNatClampNeg) + 1)))))) ∧ (z_1 = 0 → post st_2)))
set_option maxRecDepth 100000 in
set_option maxHeartbeats 4000000 in
theorem ct_X12_sayPerson {l : Launch} {E : En}  {a0 : Nat} {a1 : Int32} {st : St} {post : St → Prop} (h : P_X12_sayPerson  a0 a1 st post) : CtV l E (CFc E) 4 0 0 yX12_sayPerson cX12_sayPerson 3 none [.ref a0, .int a1] st post := by
  refine ctV_of (by decide) (Nat.le_of_ble_eq_true rfl) ?_
  show Jg l E (CFc E) (Rm 4 0 0) cX12_sayPerson 3 RX12 none (fun _ => True) (QV E post 0 0) 0 0 0 [(0, .ref a0), (1, .int a1)] [] st
  unfold P_X12_sayPerson at h
  refine J_aload_n 0 dX12_sayPerson_0 rfl rfl ?_
  refine J_iconst 0 dX12_sayPerson_1 (by decide) ?_
  refine J_bipush 9 dX12_sayPerson_2 (by decide) ?_
  obtain ⟨ho, h⟩ := h
  refine J_cvi (As := [_, _]) md_X12_another k_1065 (rc_obj cl_12 ho) rfl rfl ⟨Nat.le_of_ble_eq_true rfl, Nat.le_of_ble_eq_true rfl⟩ ⟨Nat.le_of_ble_eq_true rfl, Nat.le_of_ble_eq_true rfl⟩ (Nat.le_of_ble_eq_true rfl) dX12_sayPerson_4 (ct_X12_another  h) (fun z_1 st_2 h => ?_)
  refine J_if_ne 11 dX12_sayPerson_7 (by decide) (fun hc => ?_) (fun hc => ?_)
  · have h := h.1 hc
    refine J_bipush 9 dX12_sayPerson_11 (by decide) ?_
    refine J_aload_n 0 dX12_sayPerson_13 rfl rfl ?_
    obtain ⟨r_3, hf, h⟩ := h
    refine J_getR fl_RX12_48 dX12_sayPerson_14 hf ?_
    refine J_iconst 5 dX12_sayPerson_17 (by decide) ?_
    obtain ⟨hi, h⟩ := h
    refine J_iald dX12_sayPerson_18 hi ?_
    refine J_iadd dX12_sayPerson_19 ?_
    refine J_istore_n _ dX12_sayPerson_20 rfl (by decide) rfl ?_
    refine J_aload_n 1 dX12_sayPerson_21 rfl rfl ?_
    obtain ⟨r_4, hf, h⟩ := h
    refine J_getR fl_RX12_52 dX12_sayPerson_22 hf ?_
    refine J_iload_n 0 dX12_sayPerson_25 rfl rfl ?_
    refine J_iload_n 2 dX12_sayPerson_26 rfl rfl ?_
    obtain ⟨hi, h⟩ := h
    refine J_iast dX12_sayPerson_27 hi ?_
    refine J_aload_n 1 dX12_sayPerson_28 rfl rfl ?_
    obtain ⟨r_5, hf, h⟩ := h
    refine J_getR fl_RX12_54 dX12_sayPerson_29 hf ?_
    refine J_iload_n 0 dX12_sayPerson_32 rfl rfl ?_
    refine J_aload_n 1 dX12_sayPerson_33 rfl rfl ?_
    refine J_iconst 0 dX12_sayPerson_34 (by decide) ?_
    refine J_bipush 99 dX12_sayPerson_35 (by decide) ?_
    obtain ⟨ho, h⟩ := h
    refine J_cvi (As := [_, _]) md_X12_readNumber k_1043 (rc_obj cl_12 ho) rfl rfl ⟨Nat.le_of_ble_eq_true rfl, Nat.le_of_ble_eq_true rfl⟩ ⟨Nat.le_of_ble_eq_true rfl, Nat.le_of_ble_eq_true rfl⟩ (Nat.le_of_ble_eq_true rfl) dX12_sayPerson_37 (ct_X12_readNumber  h) (fun z_6 st_7 h => ?_)
    obtain ⟨hi, h⟩ := h
    refine J_iast dX12_sayPerson_40 hi ?_
    refine J_aload_n 1 dX12_sayPerson_41 rfl rfl ?_
    obtain ⟨r_8, hf, h⟩ := h
    refine J_getR fl_RX12_57 dX12_sayPerson_42 hf ?_
    refine J_iload_n 0 dX12_sayPerson_45 rfl rfl ?_
    refine J_aload_n 1 dX12_sayPerson_46 rfl rfl ?_
    refine J_iconst 0 dX12_sayPerson_47 (by decide) ?_
    refine J_bipush 9 dX12_sayPerson_48 (by decide) ?_
    obtain ⟨ho, h⟩ := h
    refine J_cvi (As := [_, _]) md_X12_readNumber k_1043 (rc_obj cl_12 ho) rfl rfl ⟨Nat.le_of_ble_eq_true rfl, Nat.le_of_ble_eq_true rfl⟩ ⟨Nat.le_of_ble_eq_true rfl, Nat.le_of_ble_eq_true rfl⟩ (Nat.le_of_ble_eq_true rfl) dX12_sayPerson_50 (ct_X12_readNumber  h) (fun z_9 st_10 h => ?_)
    obtain ⟨hi, h⟩ := h
    refine J_iast dX12_sayPerson_53 hi ?_
    refine J_aload_n 1 dX12_sayPerson_54 rfl rfl ?_
    obtain ⟨r_11, hf, h⟩ := h
    refine J_getR fl_RX12_60 dX12_sayPerson_55 hf ?_
    refine J_iload_n 0 dX12_sayPerson_58 rfl rfl ?_
    refine J_aload_n 1 dX12_sayPerson_59 rfl rfl ?_
    refine J_iconst 0 dX12_sayPerson_60 (by decide) ?_
    refine J_bipush 9 dX12_sayPerson_61 (by decide) ?_
    obtain ⟨ho, h⟩ := h
    refine J_cvi (As := [_, _]) md_X12_readNumber k_1043 (rc_obj cl_12 ho) rfl rfl ⟨Nat.le_of_ble_eq_true rfl, Nat.le_of_ble_eq_true rfl⟩ ⟨Nat.le_of_ble_eq_true rfl, Nat.le_of_ble_eq_true rfl⟩ (Nat.le_of_ble_eq_true rfl) dX12_sayPerson_63 (ct_X12_readNumber  h) (fun z_12 st_13 h => ?_)
    obtain ⟨hi, h⟩ := h
    refine J_iast dX12_sayPerson_66 hi ?_
    refine J_aload_n 1 dX12_sayPerson_67 rfl rfl ?_
    obtain ⟨r_14, hf, h⟩ := h
    refine J_getR fl_RX12_48 dX12_sayPerson_68 hf ?_
    refine J_iconst 5 dX12_sayPerson_71 (by decide) ?_
    refine J_dup2 dX12_sayPerson_72 rfl rfl ?_
    obtain ⟨hi, h⟩ := h
    refine J_iald dX12_sayPerson_73 hi ?_
    refine J_iconst 1 dX12_sayPerson_74 (by decide) ?_
    refine J_iadd dX12_sayPerson_75 ?_
    obtain ⟨hi, h⟩ := h
    refine J_iast dX12_sayPerson_76 hi ?_
    exact J_retv rfl dX12_sayPerson_77 h
  · have h := h.2 hc
    exact J_retv rfl dX12_sayPerson_10 h
/-! X12_sayBride -/
def P_X12_sayBride  (a0 : Nat) (st : St) (post : St → Prop) : Prop := oC a0 12 ∧ P_X12_another  a0 1 6 st (fun z_1 st_2 => ((¬ z_1 = 0 → ∃ r_3, rv st_2 a0 12 10 = some r_3 ∧ ∃ r_4, rv st_2 a0 12 5 = some r_4 ∧ vp_in 6 (al 0 r_4) ∧ oC a0 12 ∧ P_X12_readNumber  a0 0 60 st_2 (fun z_5 st_6 => vp_in (6 + (gA st_2 r_4 (6 : Int32).toNatClampNeg)) (al 0 r_3) ∧ ∃ r_7, rv (sA st_6 r_3 (6 + (gA st_2 r_4 (6 : Int32).toNatClampNeg) : Int32).toNatClampNeg z_5) a0 12 5 = some r_7 ∧ vp_in 6 (al 0 r_7) ∧ vp_in 6 (al 0 r_7) ∧ post (sA (sA st_6 r_3 (6 + (gA st_2 r_4 (6 : Int32).toNatClampNeg) : Int32).toNatClampNeg z_5) r_7 (6 : Int32).toNatClampNeg ((gA (sA st_6 r_3 (6 + (gA st_2 r_4 (6 : Int32).toNatClampNeg) : Int32).toNatClampNeg z_5) r_7 (6 : Int32).toNatClampNeg) + 1)))) ∧ (z_1 = 0 → post st_2)))
set_option maxRecDepth 100000 in
set_option maxHeartbeats 4000000 in
theorem ct_X12_sayBride {l : Launch} {E : En}  {a0 : Nat} {st : St} {post : St → Prop} (h : P_X12_sayBride  a0 st post) : CtV l E (CFc E) 4 0 0 yX12_sayBride cX12_sayBride 1 none [.ref a0] st post := by
  refine ctV_of (by decide) (Nat.le_of_ble_eq_true rfl) ?_
  show Jg l E (CFc E) (Rm 4 0 0) cX12_sayBride 1 RX12 none (fun _ => True) (QV E post 0 0) 0 0 0 [(0, .ref a0)] [] st
  unfold P_X12_sayBride at h
  refine J_aload_n 0 dX12_sayBride_0 rfl rfl ?_
  refine J_iconst 1 dX12_sayBride_1 (by decide) ?_
  refine J_bipush 6 dX12_sayBride_2 (by decide) ?_
  obtain ⟨ho, h⟩ := h
  refine J_cvi (As := [_, _]) md_X12_another k_1065 (rc_obj cl_12 ho) rfl rfl ⟨Nat.le_of_ble_eq_true rfl, Nat.le_of_ble_eq_true rfl⟩ ⟨Nat.le_of_ble_eq_true rfl, Nat.le_of_ble_eq_true rfl⟩ (Nat.le_of_ble_eq_true rfl) dX12_sayBride_4 (ct_X12_another  h) (fun z_1 st_2 h => ?_)
  refine J_if_ne 11 dX12_sayBride_7 (by decide) (fun hc => ?_) (fun hc => ?_)
  · have h := h.1 hc
    refine J_aload_n 0 dX12_sayBride_11 rfl rfl ?_
    obtain ⟨r_3, hf, h⟩ := h
    refine J_getR fl_RX12_63 dX12_sayBride_12 hf ?_
    refine J_bipush 6 dX12_sayBride_15 (by decide) ?_
    refine J_aload_n 0 dX12_sayBride_17 rfl rfl ?_
    obtain ⟨r_4, hf, h⟩ := h
    refine J_getR fl_RX12_48 dX12_sayBride_18 hf ?_
    refine J_bipush 6 dX12_sayBride_21 (by decide) ?_
    obtain ⟨hi, h⟩ := h
    refine J_iald dX12_sayBride_23 hi ?_
    refine J_iadd dX12_sayBride_24 ?_
    refine J_aload_n 0 dX12_sayBride_25 rfl rfl ?_
    refine J_iconst 0 dX12_sayBride_26 (by decide) ?_
    refine J_bipush 60 dX12_sayBride_27 (by decide) ?_
    obtain ⟨ho, h⟩ := h
    refine J_cvi (As := [_, _]) md_X12_readNumber k_1043 (rc_obj cl_12 ho) rfl rfl ⟨Nat.le_of_ble_eq_true rfl, Nat.le_of_ble_eq_true rfl⟩ ⟨Nat.le_of_ble_eq_true rfl, Nat.le_of_ble_eq_true rfl⟩ (Nat.le_of_ble_eq_true rfl) dX12_sayBride_29 (ct_X12_readNumber  h) (fun z_5 st_6 h => ?_)
    obtain ⟨hi, h⟩ := h
    refine J_iast dX12_sayBride_32 hi ?_
    refine J_aload_n 0 dX12_sayBride_33 rfl rfl ?_
    obtain ⟨r_7, hf, h⟩ := h
    refine J_getR fl_RX12_48 dX12_sayBride_34 hf ?_
    refine J_bipush 6 dX12_sayBride_37 (by decide) ?_
    refine J_dup2 dX12_sayBride_39 rfl rfl ?_
    obtain ⟨hi, h⟩ := h
    refine J_iald dX12_sayBride_40 hi ?_
    refine J_iconst 1 dX12_sayBride_41 (by decide) ?_
    refine J_iadd dX12_sayBride_42 ?_
    obtain ⟨hi, h⟩ := h
    refine J_iast dX12_sayBride_43 hi ?_
    exact J_retv rfl dX12_sayBride_44 h
  · have h := h.2 hc
    exact J_retv rfl dX12_sayBride_10 h
/-! X12_sayTie -/
def P_X12_sayTie_76  (a0 : Nat)  (post : St → Prop) (x3 : Int32) (st : St) : Prop := oC a0 12 ∧ P_X12_readNumber  a0 1 40 st (fun z_1 st_2 => fk a0 12 23 = some 0 ∧ (((gI st_2 a0 23) = 0 → ∃ r_3, rv st_2 a0 12 11 = some r_3 ∧ vp_in x3 (al 0 r_3) ∧ ∃ r_4, rv (sA st_2 r_3 (x3 : Int32).toNatClampNeg z_1) a0 12 5 = some r_4 ∧ vp_in 7 (al 0 r_4) ∧ vp_in 7 (al 0 r_4) ∧ post (sA (sA st_2 r_3 (x3 : Int32).toNatClampNeg z_1) r_4 (7 : Int32).toNatClampNeg ((gA (sA st_2 r_3 (x3 : Int32).toNatClampNeg z_1) r_4 (7 : Int32).toNatClampNeg) + 1))) ∧ (¬ (gI st_2 a0 23) = 0 → post st_2)))
def P_X12_sayTie_65  (a0 : Nat)  (post : St → Prop) (x3 : Int32) (st : St) : Prop := fk a0 12 23 = some 0 ∧ ((¬ (gI st a0 23) = 0 → P_X12_sayTie_76  a0  post x3 st) ∧ ((gI st a0 23) = 0 → oC a0 12 ∧ P_X12_stepOn  a0 st (fun st_2 => P_X12_sayTie_76  a0  post x3 st_2)))
def P_X12_sayTie_28  (a0 : Nat)  (post : St → Prop) (x1 : Int32) (st : St) : Prop := oC a0 12 ∧ P_X12_oneNow  a0 1 st (fun z_1 st_2 => fk a0 12 23 = some 0 ∧ ((¬ (gI st_2 a0 23) = 0 → P_X12_sayTie_65  a0  post ((54 + (6 * x1)) + z_1) st_2) ∧ ((gI st_2 a0 23) = 0 → ∃ r_3, rv st_2 a0 12 11 = some r_3 ∧ vp_in ((54 + (6 * x1)) + z_1) (al 0 r_3) ∧ (((gA st_2 r_3 ((54 + (6 * x1)) + z_1 : Int32).toNatClampNeg) ≤ 0 → P_X12_sayTie_65  a0  post ((54 + (6 * x1)) + z_1) st_2) ∧ (¬ (gA st_2 r_3 ((54 + (6 * x1)) + z_1 : Int32).toNatClampNeg) ≤ 0 → oC a0 12 ∧ P_X12_wrong  a0 4 st_2 (fun st_5 => P_X12_sayTie_65  a0  post ((54 + (6 * x1)) + z_1) st_5))))))
def P_X12_sayTie  (a0 : Nat) (st : St) (post : St → Prop) : Prop := oC a0 12 ∧ P_X12_another  a0 2 24 st (fun z_1 st_2 => ((¬ z_1 = 0 → oC a0 12 ∧ P_X12_oneNow  a0 0 st_2 (fun z_3 st_4 => fk a0 12 23 = some 0 ∧ ((¬ (gI st_4 a0 23) = 0 → P_X12_sayTie_28  a0  post z_3 st_4) ∧ ((gI st_4 a0 23) = 0 → oC a0 12 ∧ P_X12_stepOn  a0 st_4 (fun st_6 => P_X12_sayTie_28  a0  post z_3 st_6))))) ∧ (z_1 = 0 → post st_2)))
set_option maxRecDepth 100000 in
set_option maxHeartbeats 4000000 in
theorem K_X12_sayTie_76 {l : Launch} {E : En}   (a0 : Nat)  {post : St → Prop}   (x3 : Int32) (st : St) (h : P_X12_sayTie_76  a0  post x3 st) : Jg l E (CFc E) (Rm 4 0 0) cX12_sayTie 5 RX12 none (fun _ => True) (QV E post 0 0) 0 0 76 [(0, .ref a0), (3, .int x3)] [] st := by
  unfold P_X12_sayTie_76 at h
  refine J_aload_n 0 dX12_sayTie_76 rfl rfl ?_
  refine J_iconst 1 dX12_sayTie_77 (by decide) ?_
  refine J_bipush 40 dX12_sayTie_78 (by decide) ?_
  obtain ⟨ho, h⟩ := h
  refine J_cvi (As := [_, _]) md_X12_readNumber k_1043 (rc_obj cl_12 ho) rfl rfl ⟨Nat.le_of_ble_eq_true rfl, Nat.le_of_ble_eq_true rfl⟩ ⟨Nat.le_of_ble_eq_true rfl, Nat.le_of_ble_eq_true rfl⟩ (Nat.le_of_ble_eq_true rfl) dX12_sayTie_80 (ct_X12_readNumber  h) (fun z_1 st_2 h => ?_)
  refine J_istore _ dX12_sayTie_83 (by decide) rfl ?_
  refine J_aload_n 1 dX12_sayTie_85 rfl rfl ?_
  obtain ⟨hf, h⟩ := h
  refine J_getI fl_RX12_233 dX12_sayTie_86 hf ?_
  refine J_if_eq 93 dX12_sayTie_89 (by decide) (fun hc => ?_) (fun hc => ?_)
  · have h := h.1 hc
    refine J_aload_n 1 dX12_sayTie_93 rfl rfl ?_
    obtain ⟨r_3, hf, h⟩ := h
    refine J_getR fl_RX12_66 dX12_sayTie_94 hf ?_
    refine J_iload_n 2 dX12_sayTie_97 rfl rfl ?_
    refine J_iload 0 dX12_sayTie_98 rfl ?_
    obtain ⟨hi, h⟩ := h
    refine J_iast dX12_sayTie_100 hi ?_
    refine J_aload_n 1 dX12_sayTie_101 rfl rfl ?_
    obtain ⟨r_4, hf, h⟩ := h
    refine J_getR fl_RX12_48 dX12_sayTie_102 hf ?_
    refine J_bipush 7 dX12_sayTie_105 (by decide) ?_
    refine J_dup2 dX12_sayTie_107 rfl rfl ?_
    obtain ⟨hi, h⟩ := h
    refine J_iald dX12_sayTie_108 hi ?_
    refine J_iconst 1 dX12_sayTie_109 (by decide) ?_
    refine J_iadd dX12_sayTie_110 ?_
    obtain ⟨hi, h⟩ := h
    refine J_iast dX12_sayTie_111 hi ?_
    exact J_retv rfl dX12_sayTie_112 h
  · have h := h.2 hc
    exact J_retv rfl dX12_sayTie_92 h
set_option maxRecDepth 100000 in
set_option maxHeartbeats 4000000 in
theorem K_X12_sayTie_65 {l : Launch} {E : En}   (a0 : Nat)  {post : St → Prop}   (x3 : Int32) (st : St) (h : P_X12_sayTie_65  a0  post x3 st) : Jg l E (CFc E) (Rm 4 0 0) cX12_sayTie 5 RX12 none (fun _ => True) (QV E post 0 0) 0 0 65 [(0, .ref a0), (3, .int x3)] [] st := by
  unfold P_X12_sayTie_65 at h
  refine J_aload_n 0 dX12_sayTie_65 rfl rfl ?_
  obtain ⟨hf, h⟩ := h
  refine J_getI fl_RX12_233 dX12_sayTie_66 hf ?_
  refine J_if_ne 76 dX12_sayTie_69 (by decide) (fun hc => ?_) (fun hc => ?_)
  · have h := h.1 hc
    exact J_lv [0, 1] rfl (K_X12_sayTie_76   a0  x3 st h)
  · have h := h.2 hc
    refine J_aload_n 0 dX12_sayTie_72 rfl rfl ?_
    obtain ⟨ho, h⟩ := h
    refine J_cvv (As := []) md_X12_stepOn k_1016 (rc_obj cl_12 ho) rfl rfl ⟨Nat.le_of_ble_eq_true rfl, Nat.le_of_ble_eq_true rfl⟩ ⟨Nat.le_of_ble_eq_true rfl, Nat.le_of_ble_eq_true rfl⟩ (Nat.le_of_ble_eq_true rfl) dX12_sayTie_73 (ct_X12_stepOn  h) (fun st_2 h => ?_)
    exact J_lv [0, 1] rfl (K_X12_sayTie_76   a0  x3 st_2 h)
set_option maxRecDepth 100000 in
set_option maxHeartbeats 4000000 in
theorem K_X12_sayTie_28 {l : Launch} {E : En}   (a0 : Nat)  {post : St → Prop}   (x1 : Int32) (st : St) (h : P_X12_sayTie_28  a0  post x1 st) : Jg l E (CFc E) (Rm 4 0 0) cX12_sayTie 5 RX12 none (fun _ => True) (QV E post 0 0) 0 0 28 [(0, .ref a0), (1, .int x1)] [] st := by
  unfold P_X12_sayTie_28 at h
  refine J_aload_n 0 dX12_sayTie_28 rfl rfl ?_
  refine J_iconst 1 dX12_sayTie_29 (by decide) ?_
  obtain ⟨ho, h⟩ := h
  refine J_cvi (As := [_]) md_X12_oneNow k_1070 (rc_obj cl_12 ho) rfl rfl ⟨Nat.le_of_ble_eq_true rfl, Nat.le_of_ble_eq_true rfl⟩ ⟨Nat.le_of_ble_eq_true rfl, Nat.le_of_ble_eq_true rfl⟩ (Nat.le_of_ble_eq_true rfl) dX12_sayTie_30 (ct_X12_oneNow  h) (fun z_1 st_2 h => ?_)
  refine J_istore_n _ dX12_sayTie_33 rfl (by decide) rfl ?_
  refine J_bipush 54 dX12_sayTie_34 (by decide) ?_
  refine J_bipush 6 dX12_sayTie_36 (by decide) ?_
  refine J_iload_n 2 dX12_sayTie_38 rfl rfl ?_
  refine J_imul dX12_sayTie_39 ?_
  refine J_iadd dX12_sayTie_40 ?_
  refine J_iload_n 0 dX12_sayTie_41 rfl rfl ?_
  refine J_iadd dX12_sayTie_42 ?_
  refine J_istore_n _ dX12_sayTie_43 rfl (by decide) rfl ?_
  refine J_aload_n 2 dX12_sayTie_44 rfl rfl ?_
  obtain ⟨hf, h⟩ := h
  refine J_getI fl_RX12_233 dX12_sayTie_45 hf ?_
  refine J_if_ne 65 dX12_sayTie_48 (by decide) (fun hc => ?_) (fun hc => ?_)
  · have h := h.1 hc
    exact J_lv [2, 0] rfl (K_X12_sayTie_65   a0  ((54 + (6 * x1)) + z_1) st_2 h)
  · have h := h.2 hc
    refine J_aload_n 2 dX12_sayTie_51 rfl rfl ?_
    obtain ⟨r_3, hf, h⟩ := h
    refine J_getR fl_RX12_66 dX12_sayTie_52 hf ?_
    refine J_iload_n 0 dX12_sayTie_55 rfl rfl ?_
    obtain ⟨hi, h⟩ := h
    refine J_iald dX12_sayTie_56 hi ?_
    refine J_if_le 65 dX12_sayTie_57 (by decide) (fun hc => ?_) (fun hc => ?_)
    · have h := h.1 hc
      exact J_lv [2, 0] rfl (K_X12_sayTie_65   a0  ((54 + (6 * x1)) + z_1) st_2 h)
    · have h := h.2 hc
      refine J_aload_n 2 dX12_sayTie_60 rfl rfl ?_
      refine J_iconst 4 dX12_sayTie_61 (by decide) ?_
      obtain ⟨ho, h⟩ := h
      refine J_cvv (As := [_]) md_X12_wrong k_1013 (rc_obj cl_12 ho) rfl rfl ⟨Nat.le_of_ble_eq_true rfl, Nat.le_of_ble_eq_true rfl⟩ ⟨Nat.le_of_ble_eq_true rfl, Nat.le_of_ble_eq_true rfl⟩ (Nat.le_of_ble_eq_true rfl) dX12_sayTie_62 (ct_X12_wrong  h) (fun st_5 h => ?_)
      exact J_lv [2, 0] rfl (K_X12_sayTie_65   a0  ((54 + (6 * x1)) + z_1) st_5 h)
set_option maxRecDepth 100000 in
set_option maxHeartbeats 4000000 in
theorem ct_X12_sayTie {l : Launch} {E : En}  {a0 : Nat} {st : St} {post : St → Prop} (h : P_X12_sayTie  a0 st post) : CtV l E (CFc E) 4 0 0 yX12_sayTie cX12_sayTie 5 none [.ref a0] st post := by
  refine ctV_of (by decide) (Nat.le_of_ble_eq_true rfl) ?_
  show Jg l E (CFc E) (Rm 4 0 0) cX12_sayTie 5 RX12 none (fun _ => True) (QV E post 0 0) 0 0 0 [(0, .ref a0)] [] st
  unfold P_X12_sayTie at h
  refine J_aload_n 0 dX12_sayTie_0 rfl rfl ?_
  refine J_iconst 2 dX12_sayTie_1 (by decide) ?_
  refine J_bipush 24 dX12_sayTie_2 (by decide) ?_
  obtain ⟨ho, h⟩ := h
  refine J_cvi (As := [_, _]) md_X12_another k_1065 (rc_obj cl_12 ho) rfl rfl ⟨Nat.le_of_ble_eq_true rfl, Nat.le_of_ble_eq_true rfl⟩ ⟨Nat.le_of_ble_eq_true rfl, Nat.le_of_ble_eq_true rfl⟩ (Nat.le_of_ble_eq_true rfl) dX12_sayTie_4 (ct_X12_another  h) (fun z_1 st_2 h => ?_)
  refine J_if_ne 11 dX12_sayTie_7 (by decide) (fun hc => ?_) (fun hc => ?_)
  · have h := h.1 hc
    refine J_aload_n 0 dX12_sayTie_11 rfl rfl ?_
    refine J_iconst 0 dX12_sayTie_12 (by decide) ?_
    obtain ⟨ho, h⟩ := h
    refine J_cvi (As := [_]) md_X12_oneNow k_1070 (rc_obj cl_12 ho) rfl rfl ⟨Nat.le_of_ble_eq_true rfl, Nat.le_of_ble_eq_true rfl⟩ ⟨Nat.le_of_ble_eq_true rfl, Nat.le_of_ble_eq_true rfl⟩ (Nat.le_of_ble_eq_true rfl) dX12_sayTie_13 (ct_X12_oneNow  h) (fun z_3 st_4 h => ?_)
    refine J_istore_n _ dX12_sayTie_16 rfl (by decide) rfl ?_
    refine J_aload_n 1 dX12_sayTie_17 rfl rfl ?_
    obtain ⟨hf, h⟩ := h
    refine J_getI fl_RX12_233 dX12_sayTie_18 hf ?_
    refine J_if_ne 28 dX12_sayTie_21 (by decide) (fun hc => ?_) (fun hc => ?_)
    · have h := h.1 hc
      exact J_lv [1, 0] rfl (K_X12_sayTie_28   a0  z_3 st_4 h)
    · have h := h.2 hc
      refine J_aload_n 1 dX12_sayTie_24 rfl rfl ?_
      obtain ⟨ho, h⟩ := h
      refine J_cvv (As := []) md_X12_stepOn k_1016 (rc_obj cl_12 ho) rfl rfl ⟨Nat.le_of_ble_eq_true rfl, Nat.le_of_ble_eq_true rfl⟩ ⟨Nat.le_of_ble_eq_true rfl, Nat.le_of_ble_eq_true rfl⟩ (Nat.le_of_ble_eq_true rfl) dX12_sayTie_25 (ct_X12_stepOn  h) (fun st_6 h => ?_)
      exact J_lv [1, 0] rfl (K_X12_sayTie_28   a0  z_3 st_6 h)
  · have h := h.2 hc
    exact J_retv rfl dX12_sayTie_10 h
/-! X12_takeHalf -/
def P_X12_takeHalf_2  (a0 : Nat)  (post : St → Prop) : Nat → Int32 → St → Prop
  | 0, _, _ => False
  | n9 + 1, x1, st => 0 < al 0 a0 ∧ ((((Int32.ofNat (al 0 a0)) / 2) ≤ x1 → post st) ∧ (¬ ((Int32.ofNat (al 0 a0)) / 2) ≤ x1 → 0 < al 0 a0 ∧ vp_in (((Int32.ofNat (al 0 a0)) / 2) + x1) (al 0 a0) ∧ vp_in x1 (al 0 a0) ∧ P_X12_takeHalf_2  a0  post n9 (x1 + 1) (sA st a0 (x1 : Int32).toNatClampNeg (gA st a0 (((Int32.ofNat (al 0 a0)) / 2) + x1 : Int32).toNatClampNeg))))
def P_X12_takeHalf  (a0 : Nat) (st : St) (post : St → Prop) : Prop := ∃ n8, P_X12_takeHalf_2  a0  post n8 0 st
set_option maxRecDepth 100000 in
set_option maxHeartbeats 4000000 in
theorem K_X12_takeHalf_2 {l : Launch} {E : En}   (a0 : Nat)  {post : St → Prop}   : ∀ (n9 : Nat) (x1 : Int32) (st : St), P_X12_takeHalf_2  a0  post n9 x1 st → Jg l E (CFc E) (Rm 1 0 0) cX12_takeHalf 2 RX12 none (fun _ => True) (QV E post 0 0) 0 0 2 [(0, .ref a0), (1, .int x1)] [] st := by
  intro n9
  induction n9 with
  | zero => intro x1 st h; exact h.elim
  | succ n9 ih =>
    intro x1 st h
    unfold P_X12_takeHalf_2 at h
    refine J_iload_n 1 dX12_takeHalf_2 rfl rfl ?_
    refine J_aload_n 0 dX12_takeHalf_3 rfl rfl ?_
    obtain ⟨hf, h⟩ := h
    refine J_alenI dX12_takeHalf_4 hf ?_
    refine J_iconst 2 dX12_takeHalf_5 (by decide) ?_
    refine J_idiv dX12_takeHalf_6 (by decide) ?_
    refine J_icmp_ge 27 dX12_takeHalf_7 (by decide) (fun hc => ?_) (fun hc => ?_)
    · have h := h.1 hc
      exact J_retv rfl dX12_takeHalf_27 h
    · have h := h.2 hc
      refine J_aload_n 0 dX12_takeHalf_10 rfl rfl ?_
      refine J_iload_n 1 dX12_takeHalf_11 rfl rfl ?_
      refine J_aload_n 0 dX12_takeHalf_12 rfl rfl ?_
      refine J_aload_n 0 dX12_takeHalf_13 rfl rfl ?_
      obtain ⟨hf, h⟩ := h
      refine J_alenI dX12_takeHalf_14 hf ?_
      refine J_iconst 2 dX12_takeHalf_15 (by decide) ?_
      refine J_idiv dX12_takeHalf_16 (by decide) ?_
      refine J_iload_n 1 dX12_takeHalf_17 rfl rfl ?_
      refine J_iadd dX12_takeHalf_18 ?_
      obtain ⟨hi, h⟩ := h
      refine J_iald dX12_takeHalf_19 hi ?_
      obtain ⟨hi, h⟩ := h
      refine J_iast dX12_takeHalf_20 hi ?_
      refine J_iinc 1 (x1 + 1) _ dX12_takeHalf_21 rfl (by rfl) (by decide) rfl ?_
      refine J_goto 2 dX12_takeHalf_24 (by decide) ?_
      exact J_lv [1, 0] rfl (ih (x1 + 1) (sA st a0 (x1 : Int32).toNatClampNeg (gA st a0 (((Int32.ofNat (al 0 a0)) / 2) + x1 : Int32).toNatClampNeg)) h)
set_option maxRecDepth 100000 in
set_option maxHeartbeats 4000000 in
theorem ct_X12_takeHalf {l : Launch} {E : En}  {a0 : Nat} {st : St} {post : St → Prop} (h : P_X12_takeHalf  a0 st post) : CtV l E (CFc E) 1 0 0 yX12_takeHalf cX12_takeHalf 2 none [.ref a0] st post := by
  refine ctV_of (by decide) (Nat.le_of_ble_eq_true rfl) ?_
  show Jg l E (CFc E) (Rm 1 0 0) cX12_takeHalf 2 RX12 none (fun _ => True) (QV E post 0 0) 0 0 0 [(0, .ref a0)] [] st
  unfold P_X12_takeHalf at h
  refine J_iconst 0 dX12_takeHalf_0 (by decide) ?_
  refine J_istore_n _ dX12_takeHalf_1 rfl (by decide) rfl ?_
  obtain ⟨n8, h⟩ := h
  exact J_lv [1, 0] rfl (K_X12_takeHalf_2   a0  n8 0 st h)
/-! X12_takeOver -/
def P_X12_takeOver_240  (a0 : Nat)  (post : St → Prop) : Nat → Int32 → St → Prop
  | 0, _, _ => False
  | n9 + 1, x1, st => ∃ r_1, rv st a0 12 34 = some r_1 ∧ 0 < al 0 r_1 ∧ (((Int32.ofNat (al 0 r_1)) ≤ x1 → fk a0 12 38 = some 0 ∧ fk a0 12 39 = some 0 ∧ fk a0 12 58 = some 0 ∧ post (sI (sI (sI st a0 38 0) a0 39 0) a0 58 0)) ∧ (¬ (Int32.ofNat (al 0 r_1)) ≤ x1 → ∃ r_2, rv st a0 12 34 = some r_2 ∧ ∃ r_3, rv st a0 12 11 = some r_3 ∧ vp_in x1 (al 0 r_3) ∧ vp_in x1 (al 0 r_2) ∧ P_X12_takeOver_240  a0  post n9 (x1 + 1) (sA st r_2 (x1 : Int32).toNatClampNeg (gA st r_3 (x1 : Int32).toNatClampNeg))))
def P_X12_takeOver_224  (a0 : Nat) (k172 : Int32 → St → Prop) (post : St → Prop) (x1 : Int32) (s0 : Int32) (s1 : Int32) (s2 : Nat) (st : St) : Prop := vp_in s1 (al 0 s2) ∧ ∃ r_1, rv (sA st s2 (s1 : Int32).toNatClampNeg s0) a0 12 33 = some r_1 ∧ vp_in x1 (al 0 r_1) ∧ k172 (x1 + 1) (sA (sA st s2 (s1 : Int32).toNatClampNeg s0) r_1 (x1 : Int32).toNatClampNeg (-1))
def P_X12_takeOver_203  (a0 : Nat) (k172 : Int32 → St → Prop) (post : St → Prop) (x1 : Int32) (s0 : Int32) (s1 : Int32) (s2 : Nat) (st : St) : Prop := vp_in s1 (al 0 s2) ∧ ∃ r_1, rv (sA st s2 (s1 : Int32).toNatClampNeg s0) a0 12 32 = some r_1 ∧ ∃ r_2, rv (sA st s2 (s1 : Int32).toNatClampNeg s0) a0 12 5 = some r_2 ∧ vp_in 1 (al 0 r_2) ∧ (((gA (sA st s2 (s1 : Int32).toNatClampNeg s0) r_2 (1 : Int32).toNatClampNeg) ≤ x1 → P_X12_takeOver_224  a0 k172 post x1 0 x1 r_1 (sA st s2 (s1 : Int32).toNatClampNeg s0)) ∧ (¬ (gA (sA st s2 (s1 : Int32).toNatClampNeg s0) r_2 (1 : Int32).toNatClampNeg) ≤ x1 → P_X12_takeOver_224  a0 k172 post x1 1 x1 r_1 (sA st s2 (s1 : Int32).toNatClampNeg s0)))
def P_X12_takeOver_172  (a0 : Nat)  (post : St → Prop) : Nat → Int32 → St → Prop
  | 0, _, _ => False
  | n9 + 1, x1, st => ((6 ≤ x1 → ∃ n8, P_X12_takeOver_240  a0  post n8 0 st) ∧ (¬ 6 ≤ x1 → ∃ r_1, rv st a0 12 31 = some r_1 ∧ ∃ r_2, rv st a0 12 5 = some r_2 ∧ vp_in 1 (al 0 r_2) ∧ (((gA st r_2 (1 : Int32).toNatClampNeg) ≤ x1 → P_X12_takeOver_203  a0 (fun x1 st => P_X12_takeOver_172  a0  post n9 x1 st) post x1 0 x1 r_1 st) ∧ (¬ (gA st r_2 (1 : Int32).toNatClampNeg) ≤ x1 → ∃ r_3, rv st a0 12 10 = some r_3 ∧ vp_in x1 (al 0 r_3) ∧ P_X12_takeOver_203  a0 (fun x1 st => P_X12_takeOver_172  a0  post n9 x1 st) post x1 (gA st r_3 (x1 : Int32).toNatClampNeg) x1 r_1 st))))
def P_X12_takeOver_156  (a0 : Nat) (k75 : Int32 → St → Prop) (post : St → Prop) (x1 : Int32) (s0 : Int32) (s1 : Int32) (s2 : Nat) (st : St) : Prop := vp_in s1 (al 0 s2) ∧ ∃ r_1, rv (sA st s2 (s1 : Int32).toNatClampNeg s0) a0 12 30 = some r_1 ∧ vp_in x1 (al 0 r_1) ∧ k75 (x1 + 1) (sA (sA st s2 (s1 : Int32).toNatClampNeg s0) r_1 (x1 : Int32).toNatClampNeg 0)
def P_X12_takeOver_136  (a0 : Nat) (k75 : Int32 → St → Prop) (post : St → Prop) (x1 : Int32) (x2 : Int32) (s0 : Int32) (s1 : Int32) (s2 : Nat) (st : St) : Prop := vp_in s1 (al 0 s2) ∧ ∃ r_1, rv (sA st s2 (s1 : Int32).toNatClampNeg s0) a0 12 29 = some r_1 ∧ ((x2 = 0 → P_X12_takeOver_156  a0 k75 post x1 0 x1 r_1 (sA st s2 (s1 : Int32).toNatClampNeg s0)) ∧ (¬ x2 = 0 → ∃ r_2, rv (sA st s2 (s1 : Int32).toNatClampNeg s0) a0 12 9 = some r_2 ∧ vp_in x1 (al 0 r_2) ∧ P_X12_takeOver_156  a0 k75 post x1 (gA (sA st s2 (s1 : Int32).toNatClampNeg s0) r_2 (x1 : Int32).toNatClampNeg) x1 r_1 (sA st s2 (s1 : Int32).toNatClampNeg s0)))
def P_X12_takeOver_116  (a0 : Nat) (k75 : Int32 → St → Prop) (post : St → Prop) (x1 : Int32) (x2 : Int32) (s0 : Int32) (s1 : Int32) (s2 : Nat) (st : St) : Prop := vp_in s1 (al 0 s2) ∧ ∃ r_1, rv (sA st s2 (s1 : Int32).toNatClampNeg s0) a0 12 28 = some r_1 ∧ ((x2 = 0 → P_X12_takeOver_136  a0 k75 post x1 x2 0 x1 r_1 (sA st s2 (s1 : Int32).toNatClampNeg s0)) ∧ (¬ x2 = 0 → ∃ r_2, rv (sA st s2 (s1 : Int32).toNatClampNeg s0) a0 12 8 = some r_2 ∧ vp_in x1 (al 0 r_2) ∧ P_X12_takeOver_136  a0 k75 post x1 x2 (gA (sA st s2 (s1 : Int32).toNatClampNeg s0) r_2 (x1 : Int32).toNatClampNeg) x1 r_1 (sA st s2 (s1 : Int32).toNatClampNeg s0)))
def P_X12_takeOver_96  (a0 : Nat) (k75 : Int32 → St → Prop) (post : St → Prop) (x1 : Int32) (s0 : Int32) (st : St) : Prop := ∃ r_1, rv st a0 12 27 = some r_1 ∧ ((s0 = 0 → P_X12_takeOver_116  a0 k75 post x1 s0 0 x1 r_1 st) ∧ (¬ s0 = 0 → ∃ r_2, rv st a0 12 7 = some r_2 ∧ vp_in x1 (al 0 r_2) ∧ P_X12_takeOver_116  a0 k75 post x1 s0 (gA st r_2 (x1 : Int32).toNatClampNeg) x1 r_1 st))
def P_X12_takeOver_75  (a0 : Nat)  (post : St → Prop) : Nat → Int32 → St → Prop
  | 0, _, _ => False
  | n9 + 1, x1, st => ((9 ≤ x1 → ∃ n8, P_X12_takeOver_172  a0  post n8 0 st) ∧ (¬ 9 ≤ x1 → ∃ r_1, rv st a0 12 5 = some r_1 ∧ vp_in 0 (al 0 r_1) ∧ (((gA st r_1 (0 : Int32).toNatClampNeg) ≤ x1 → P_X12_takeOver_96  a0 (fun x1 st => P_X12_takeOver_75  a0  post n9 x1 st) post x1 0 st) ∧ (¬ (gA st r_1 (0 : Int32).toNatClampNeg) ≤ x1 → P_X12_takeOver_96  a0 (fun x1 st => P_X12_takeOver_75  a0  post n9 x1 st) post x1 1 st))))
def P_X12_takeOver  (a0 : Nat) (st : St) (post : St → Prop) : Prop := ∃ r_1, rv st a0 12 5 = some r_1 ∧ P_X12_takeHalf  r_1 st (fun st_3 => ∃ r_4, rv st_3 a0 12 6 = some r_4 ∧ P_X12_takeHalf  r_4 st_3 (fun st_6 => ∃ r_7, rv st_6 a0 12 7 = some r_7 ∧ P_X12_takeHalf  r_7 st_6 (fun st_9 => ∃ r_10, rv st_9 a0 12 8 = some r_10 ∧ P_X12_takeHalf  r_10 st_9 (fun st_12 => ∃ r_13, rv st_12 a0 12 9 = some r_13 ∧ P_X12_takeHalf  r_13 st_12 (fun st_15 => ∃ r_16, rv st_15 a0 12 10 = some r_16 ∧ P_X12_takeHalf  r_16 st_15 (fun st_18 => ∃ r_19, rv st_18 a0 12 11 = some r_19 ∧ P_X12_takeHalf  r_19 st_18 (fun st_21 => ∃ r_22, rv st_21 a0 12 12 = some r_22 ∧ P_X12_takeHalf  r_22 st_21 (fun st_24 => ∃ r_25, rv st_24 a0 12 13 = some r_25 ∧ P_X12_takeHalf  r_25 st_24 (fun st_27 => fk a0 12 36 = some 0 ∧ fk a0 12 37 = some 0 ∧ ∃ n8, P_X12_takeOver_75  a0  post n8 0 (sI (sI st_27 a0 36 0) a0 37 0))))))))))
set_option maxRecDepth 100000 in
set_option maxHeartbeats 4000000 in
theorem K_X12_takeOver_240 {l : Launch} {E : En}   (a0 : Nat)  {post : St → Prop}   : ∀ (n9 : Nat) (x1 : Int32) (st : St), P_X12_takeOver_240  a0  post n9 x1 st → Jg l E (CFc E) (Rm 2 0 0) cX12_takeOver 3 RX12 none (fun _ => True) (QV E post 0 0) 0 0 240 [(0, .ref a0), (1, .int x1)] [] st := by
  intro n9
  induction n9 with
  | zero => intro x1 st h; exact h.elim
  | succ n9 ih =>
    intro x1 st h
    unfold P_X12_takeOver_240 at h
    refine J_iload_n 1 dX12_takeOver_240 rfl rfl ?_
    refine J_aload_n 0 dX12_takeOver_241 rfl rfl ?_
    obtain ⟨r_1, hf, h⟩ := h
    refine J_getR fl_RX12_105 dX12_takeOver_242 hf ?_
    obtain ⟨hf, h⟩ := h
    refine J_alenI dX12_takeOver_245 hf ?_
    refine J_icmp_ge 267 dX12_takeOver_246 (by decide) (fun hc => ?_) (fun hc => ?_)
    · have h := h.1 hc
      refine J_aload_n 0 dX12_takeOver_267 rfl rfl ?_
      refine J_iconst 0 dX12_takeOver_268 (by decide) ?_
      obtain ⟨hf, h⟩ := h
      refine J_putI fp_RX12_347 dX12_takeOver_269 rfl hf ?_
      refine J_aload_n 0 dX12_takeOver_272 rfl rfl ?_
      refine J_iconst 0 dX12_takeOver_273 (by decide) ?_
      obtain ⟨hf, h⟩ := h
      refine J_putI fp_RX12_350 dX12_takeOver_274 rfl hf ?_
      refine J_aload_n 0 dX12_takeOver_277 rfl rfl ?_
      refine J_iconst 0 dX12_takeOver_278 (by decide) ?_
      obtain ⟨hf, h⟩ := h
      refine J_putZ fp_RX12_353 dX12_takeOver_279 rfl (Or.inl rfl) hf ?_
      exact J_retv rfl dX12_takeOver_282 h
    · have h := h.2 hc
      refine J_aload_n 0 dX12_takeOver_249 rfl rfl ?_
      obtain ⟨r_2, hf, h⟩ := h
      refine J_getR fl_RX12_105 dX12_takeOver_250 hf ?_
      refine J_iload_n 1 dX12_takeOver_253 rfl rfl ?_
      refine J_aload_n 0 dX12_takeOver_254 rfl rfl ?_
      obtain ⟨r_3, hf, h⟩ := h
      refine J_getR fl_RX12_66 dX12_takeOver_255 hf ?_
      refine J_iload_n 1 dX12_takeOver_258 rfl rfl ?_
      obtain ⟨hi, h⟩ := h
      refine J_iald dX12_takeOver_259 hi ?_
      obtain ⟨hi, h⟩ := h
      refine J_iast dX12_takeOver_260 hi ?_
      refine J_iinc 1 (x1 + 1) _ dX12_takeOver_261 rfl (by rfl) (by decide) rfl ?_
      refine J_goto 240 dX12_takeOver_264 (by decide) ?_
      exact J_lv [1, 0] rfl (ih (x1 + 1) (sA st r_2 (x1 : Int32).toNatClampNeg (gA st r_3 (x1 : Int32).toNatClampNeg)) h)
set_option maxRecDepth 100000 in
set_option maxHeartbeats 4000000 in
theorem K_X12_takeOver_224 {l : Launch} {E : En}   (a0 : Nat) {k172 : Int32 → St → Prop} {post : St → Prop}  (hk172 : ∀ (x1 : Int32) (st : St), k172 x1 st → Jg l E (CFc E) (Rm 2 0 0) cX12_takeOver 3 RX12 none (fun _ => True) (QV E post 0 0) 0 0 172 [(0, .ref a0), (1, .int x1)] [] st) (x1 : Int32) (s0 : Int32) (s1 : Int32) (s2 : Nat) (st : St) (h : P_X12_takeOver_224  a0 k172 post x1 s0 s1 s2 st) : Jg l E (CFc E) (Rm 2 0 0) cX12_takeOver 3 RX12 none (fun _ => True) (QV E post 0 0) 0 0 224 [(0, .ref a0), (1, .int x1)] [.int s0, .int s1, .ref s2] st := by
  unfold P_X12_takeOver_224 at h
  obtain ⟨hi, h⟩ := h
  refine J_iast dX12_takeOver_224 hi ?_
  refine J_aload_n 0 dX12_takeOver_225 rfl rfl ?_
  obtain ⟨r_1, hf, h⟩ := h
  refine J_getR fl_RX12_102 dX12_takeOver_226 hf ?_
  refine J_iload_n 1 dX12_takeOver_229 rfl rfl ?_
  refine J_iconst (-1) dX12_takeOver_230 (by decide) ?_
  obtain ⟨hi, h⟩ := h
  refine J_iast dX12_takeOver_231 hi ?_
  refine J_iinc 1 (x1 + 1) _ dX12_takeOver_232 rfl (by rfl) (by decide) rfl ?_
  refine J_goto 172 dX12_takeOver_235 (by decide) ?_
  exact J_lv [1, 0] rfl (hk172 (x1 + 1) (sA (sA st s2 (s1 : Int32).toNatClampNeg s0) r_1 (x1 : Int32).toNatClampNeg (-1)) h)
set_option maxRecDepth 100000 in
set_option maxHeartbeats 4000000 in
theorem K_X12_takeOver_203 {l : Launch} {E : En}   (a0 : Nat) {k172 : Int32 → St → Prop} {post : St → Prop}  (hk172 : ∀ (x1 : Int32) (st : St), k172 x1 st → Jg l E (CFc E) (Rm 2 0 0) cX12_takeOver 3 RX12 none (fun _ => True) (QV E post 0 0) 0 0 172 [(0, .ref a0), (1, .int x1)] [] st) (x1 : Int32) (s0 : Int32) (s1 : Int32) (s2 : Nat) (st : St) (h : P_X12_takeOver_203  a0 k172 post x1 s0 s1 s2 st) : Jg l E (CFc E) (Rm 2 0 0) cX12_takeOver 3 RX12 none (fun _ => True) (QV E post 0 0) 0 0 203 [(0, .ref a0), (1, .int x1)] [.int s0, .int s1, .ref s2] st := by
  unfold P_X12_takeOver_203 at h
  obtain ⟨hi, h⟩ := h
  refine J_iast dX12_takeOver_203 hi ?_
  refine J_aload_n 0 dX12_takeOver_204 rfl rfl ?_
  obtain ⟨r_1, hf, h⟩ := h
  refine J_getR fl_RX12_99 dX12_takeOver_205 hf ?_
  refine J_iload_n 1 dX12_takeOver_208 rfl rfl ?_
  refine J_iload_n 1 dX12_takeOver_209 rfl rfl ?_
  refine J_aload_n 0 dX12_takeOver_210 rfl rfl ?_
  obtain ⟨r_2, hf, h⟩ := h
  refine J_getR fl_RX12_48 dX12_takeOver_211 hf ?_
  refine J_iconst 1 dX12_takeOver_214 (by decide) ?_
  obtain ⟨hi, h⟩ := h
  refine J_iald dX12_takeOver_215 hi ?_
  refine J_icmp_ge 223 dX12_takeOver_216 (by decide) (fun hc => ?_) (fun hc => ?_)
  · have h := h.1 hc
    refine J_iconst 0 dX12_takeOver_223 (by decide) ?_
    exact J_lv [0, 1] rfl (K_X12_takeOver_224   a0 hk172 x1 0 x1 r_1 (sA st s2 (s1 : Int32).toNatClampNeg s0) h)
  · have h := h.2 hc
    refine J_iconst 1 dX12_takeOver_219 (by decide) ?_
    refine J_goto 224 dX12_takeOver_220 (by decide) ?_
    exact J_lv [0, 1] rfl (K_X12_takeOver_224   a0 hk172 x1 1 x1 r_1 (sA st s2 (s1 : Int32).toNatClampNeg s0) h)
set_option maxRecDepth 100000 in
set_option maxHeartbeats 4000000 in
theorem K_X12_takeOver_172 {l : Launch} {E : En}   (a0 : Nat)  {post : St → Prop}   : ∀ (n9 : Nat) (x1 : Int32) (st : St), P_X12_takeOver_172  a0  post n9 x1 st → Jg l E (CFc E) (Rm 2 0 0) cX12_takeOver 3 RX12 none (fun _ => True) (QV E post 0 0) 0 0 172 [(0, .ref a0), (1, .int x1)] [] st := by
  intro n9
  induction n9 with
  | zero => intro x1 st h; exact h.elim
  | succ n9 ih =>
    intro x1 st h
    unfold P_X12_takeOver_172 at h
    refine J_iload_n 1 dX12_takeOver_172 rfl rfl ?_
    refine J_bipush 6 dX12_takeOver_173 (by decide) ?_
    refine J_icmp_ge 238 dX12_takeOver_175 (by decide) (fun hc => ?_) (fun hc => ?_)
    · have h := h.1 hc
      refine J_iconst 0 dX12_takeOver_238 (by decide) ?_
      refine J_istore_n _ dX12_takeOver_239 rfl (by decide) rfl ?_
      obtain ⟨n8, h⟩ := h
      exact J_lv [1, 0] rfl (K_X12_takeOver_240   a0  n8 0 st h)
    · have h := h.2 hc
      refine J_aload_n 0 dX12_takeOver_178 rfl rfl ?_
      obtain ⟨r_1, hf, h⟩ := h
      refine J_getR fl_RX12_96 dX12_takeOver_179 hf ?_
      refine J_iload_n 1 dX12_takeOver_182 rfl rfl ?_
      refine J_iload_n 1 dX12_takeOver_183 rfl rfl ?_
      refine J_aload_n 0 dX12_takeOver_184 rfl rfl ?_
      obtain ⟨r_2, hf, h⟩ := h
      refine J_getR fl_RX12_48 dX12_takeOver_185 hf ?_
      refine J_iconst 1 dX12_takeOver_188 (by decide) ?_
      obtain ⟨hi, h⟩ := h
      refine J_iald dX12_takeOver_189 hi ?_
      refine J_icmp_ge 202 dX12_takeOver_190 (by decide) (fun hc => ?_) (fun hc => ?_)
      · have h := h.1 hc
        refine J_iconst 0 dX12_takeOver_202 (by decide) ?_
        exact J_lv [0, 1] rfl (K_X12_takeOver_203   a0 (fun x1 st h => ih x1 st h) x1 0 x1 r_1 st h)
      · have h := h.2 hc
        refine J_aload_n 0 dX12_takeOver_193 rfl rfl ?_
        obtain ⟨r_3, hf, h⟩ := h
        refine J_getR fl_RX12_63 dX12_takeOver_194 hf ?_
        refine J_iload_n 1 dX12_takeOver_197 rfl rfl ?_
        obtain ⟨hi, h⟩ := h
        refine J_iald dX12_takeOver_198 hi ?_
        refine J_goto 203 dX12_takeOver_199 (by decide) ?_
        exact J_lv [0, 1] rfl (K_X12_takeOver_203   a0 (fun x1 st h => ih x1 st h) x1 (gA st r_3 (x1 : Int32).toNatClampNeg) x1 r_1 st h)
set_option maxRecDepth 100000 in
set_option maxHeartbeats 4000000 in
theorem K_X12_takeOver_156 {l : Launch} {E : En}   (a0 : Nat) {k75 : Int32 → St → Prop} {post : St → Prop}  (hk75 : ∀ (x1 : Int32) (st : St), k75 x1 st → Jg l E (CFc E) (Rm 2 0 0) cX12_takeOver 3 RX12 none (fun _ => True) (QV E post 0 0) 0 0 75 [(0, .ref a0), (1, .int x1)] [] st) (x1 : Int32) (s0 : Int32) (s1 : Int32) (s2 : Nat) (st : St) (h : P_X12_takeOver_156  a0 k75 post x1 s0 s1 s2 st) : Jg l E (CFc E) (Rm 2 0 0) cX12_takeOver 3 RX12 none (fun _ => True) (QV E post 0 0) 0 0 156 [(0, .ref a0), (1, .int x1)] [.int s0, .int s1, .ref s2] st := by
  unfold P_X12_takeOver_156 at h
  obtain ⟨hi, h⟩ := h
  refine J_iast dX12_takeOver_156 hi ?_
  refine J_aload_n 0 dX12_takeOver_157 rfl rfl ?_
  obtain ⟨r_1, hf, h⟩ := h
  refine J_getR fl_RX12_93 dX12_takeOver_158 hf ?_
  refine J_iload_n 1 dX12_takeOver_161 rfl rfl ?_
  refine J_iconst 0 dX12_takeOver_162 (by decide) ?_
  obtain ⟨hi, h⟩ := h
  refine J_iast dX12_takeOver_163 hi ?_
  refine J_iinc 1 (x1 + 1) _ dX12_takeOver_164 rfl (by rfl) (by decide) rfl ?_
  refine J_goto 75 dX12_takeOver_167 (by decide) ?_
  exact J_lv [1, 0] rfl (hk75 (x1 + 1) (sA (sA st s2 (s1 : Int32).toNatClampNeg s0) r_1 (x1 : Int32).toNatClampNeg 0) h)
set_option maxRecDepth 100000 in
set_option maxHeartbeats 4000000 in
theorem K_X12_takeOver_136 {l : Launch} {E : En}   (a0 : Nat) {k75 : Int32 → St → Prop} {post : St → Prop}  (hk75 : ∀ (x1 : Int32) (st : St), k75 x1 st → Jg l E (CFc E) (Rm 2 0 0) cX12_takeOver 3 RX12 none (fun _ => True) (QV E post 0 0) 0 0 75 [(0, .ref a0), (1, .int x1)] [] st) (x1 : Int32) (x2 : Int32) (s0 : Int32) (s1 : Int32) (s2 : Nat) (st : St) (h : P_X12_takeOver_136  a0 k75 post x1 x2 s0 s1 s2 st) : Jg l E (CFc E) (Rm 2 0 0) cX12_takeOver 3 RX12 none (fun _ => True) (QV E post 0 0) 0 0 136 [(0, .ref a0), (1, .int x1), (2, .int x2)] [.int s0, .int s1, .ref s2] st := by
  unfold P_X12_takeOver_136 at h
  obtain ⟨hi, h⟩ := h
  refine J_iast dX12_takeOver_136 hi ?_
  refine J_aload_n 0 dX12_takeOver_137 rfl rfl ?_
  obtain ⟨r_1, hf, h⟩ := h
  refine J_getR fl_RX12_90 dX12_takeOver_138 hf ?_
  refine J_iload_n 1 dX12_takeOver_141 rfl rfl ?_
  refine J_iload_n 2 dX12_takeOver_142 rfl rfl ?_
  refine J_if_eq 155 dX12_takeOver_143 (by decide) (fun hc => ?_) (fun hc => ?_)
  · have h := h.1 hc
    refine J_iconst 0 dX12_takeOver_155 (by decide) ?_
    exact J_lv [0, 1] rfl (K_X12_takeOver_156   a0 hk75 x1 0 x1 r_1 (sA st s2 (s1 : Int32).toNatClampNeg s0) h)
  · have h := h.2 hc
    refine J_aload_n 0 dX12_takeOver_146 rfl rfl ?_
    obtain ⟨r_2, hf, h⟩ := h
    refine J_getR fl_RX12_60 dX12_takeOver_147 hf ?_
    refine J_iload_n 1 dX12_takeOver_150 rfl rfl ?_
    obtain ⟨hi, h⟩ := h
    refine J_iald dX12_takeOver_151 hi ?_
    refine J_goto 156 dX12_takeOver_152 (by decide) ?_
    exact J_lv [0, 1] rfl (K_X12_takeOver_156   a0 hk75 x1 (gA (sA st s2 (s1 : Int32).toNatClampNeg s0) r_2 (x1 : Int32).toNatClampNeg) x1 r_1 (sA st s2 (s1 : Int32).toNatClampNeg s0) h)
set_option maxRecDepth 100000 in
set_option maxHeartbeats 4000000 in
theorem K_X12_takeOver_116 {l : Launch} {E : En}   (a0 : Nat) {k75 : Int32 → St → Prop} {post : St → Prop}  (hk75 : ∀ (x1 : Int32) (st : St), k75 x1 st → Jg l E (CFc E) (Rm 2 0 0) cX12_takeOver 3 RX12 none (fun _ => True) (QV E post 0 0) 0 0 75 [(0, .ref a0), (1, .int x1)] [] st) (x1 : Int32) (x2 : Int32) (s0 : Int32) (s1 : Int32) (s2 : Nat) (st : St) (h : P_X12_takeOver_116  a0 k75 post x1 x2 s0 s1 s2 st) : Jg l E (CFc E) (Rm 2 0 0) cX12_takeOver 3 RX12 none (fun _ => True) (QV E post 0 0) 0 0 116 [(0, .ref a0), (1, .int x1), (2, .int x2)] [.int s0, .int s1, .ref s2] st := by
  unfold P_X12_takeOver_116 at h
  obtain ⟨hi, h⟩ := h
  refine J_iast dX12_takeOver_116 hi ?_
  refine J_aload_n 0 dX12_takeOver_117 rfl rfl ?_
  obtain ⟨r_1, hf, h⟩ := h
  refine J_getR fl_RX12_87 dX12_takeOver_118 hf ?_
  refine J_iload_n 1 dX12_takeOver_121 rfl rfl ?_
  refine J_iload_n 2 dX12_takeOver_122 rfl rfl ?_
  refine J_if_eq 135 dX12_takeOver_123 (by decide) (fun hc => ?_) (fun hc => ?_)
  · have h := h.1 hc
    refine J_iconst 0 dX12_takeOver_135 (by decide) ?_
    exact J_lv [0, 1, 2] rfl (K_X12_takeOver_136   a0 hk75 x1 x2 0 x1 r_1 (sA st s2 (s1 : Int32).toNatClampNeg s0) h)
  · have h := h.2 hc
    refine J_aload_n 0 dX12_takeOver_126 rfl rfl ?_
    obtain ⟨r_2, hf, h⟩ := h
    refine J_getR fl_RX12_57 dX12_takeOver_127 hf ?_
    refine J_iload_n 1 dX12_takeOver_130 rfl rfl ?_
    obtain ⟨hi, h⟩ := h
    refine J_iald dX12_takeOver_131 hi ?_
    refine J_goto 136 dX12_takeOver_132 (by decide) ?_
    exact J_lv [0, 1, 2] rfl (K_X12_takeOver_136   a0 hk75 x1 x2 (gA (sA st s2 (s1 : Int32).toNatClampNeg s0) r_2 (x1 : Int32).toNatClampNeg) x1 r_1 (sA st s2 (s1 : Int32).toNatClampNeg s0) h)
set_option maxRecDepth 100000 in
set_option maxHeartbeats 4000000 in
theorem K_X12_takeOver_96 {l : Launch} {E : En}   (a0 : Nat) {k75 : Int32 → St → Prop} {post : St → Prop}  (hk75 : ∀ (x1 : Int32) (st : St), k75 x1 st → Jg l E (CFc E) (Rm 2 0 0) cX12_takeOver 3 RX12 none (fun _ => True) (QV E post 0 0) 0 0 75 [(0, .ref a0), (1, .int x1)] [] st) (x1 : Int32) (s0 : Int32) (st : St) (h : P_X12_takeOver_96  a0 k75 post x1 s0 st) : Jg l E (CFc E) (Rm 2 0 0) cX12_takeOver 3 RX12 none (fun _ => True) (QV E post 0 0) 0 0 96 [(0, .ref a0), (1, .int x1)] [.int s0] st := by
  unfold P_X12_takeOver_96 at h
  refine J_istore_n _ dX12_takeOver_96 rfl (by decide) rfl ?_
  refine J_aload_n 1 dX12_takeOver_97 rfl rfl ?_
  obtain ⟨r_1, hf, h⟩ := h
  refine J_getR fl_RX12_85 dX12_takeOver_98 hf ?_
  refine J_iload_n 2 dX12_takeOver_101 rfl rfl ?_
  refine J_iload_n 0 dX12_takeOver_102 rfl rfl ?_
  refine J_if_eq 115 dX12_takeOver_103 (by decide) (fun hc => ?_) (fun hc => ?_)
  · have h := h.1 hc
    refine J_iconst 0 dX12_takeOver_115 (by decide) ?_
    exact J_lv [1, 2, 0] rfl (K_X12_takeOver_116   a0 hk75 x1 s0 0 x1 r_1 st h)
  · have h := h.2 hc
    refine J_aload_n 1 dX12_takeOver_106 rfl rfl ?_
    obtain ⟨r_2, hf, h⟩ := h
    refine J_getR fl_RX12_54 dX12_takeOver_107 hf ?_
    refine J_iload_n 2 dX12_takeOver_110 rfl rfl ?_
    obtain ⟨hi, h⟩ := h
    refine J_iald dX12_takeOver_111 hi ?_
    refine J_goto 116 dX12_takeOver_112 (by decide) ?_
    exact J_lv [1, 2, 0] rfl (K_X12_takeOver_116   a0 hk75 x1 s0 (gA st r_2 (x1 : Int32).toNatClampNeg) x1 r_1 st h)
set_option maxRecDepth 100000 in
set_option maxHeartbeats 4000000 in
theorem K_X12_takeOver_75 {l : Launch} {E : En}   (a0 : Nat)  {post : St → Prop}   : ∀ (n9 : Nat) (x1 : Int32) (st : St), P_X12_takeOver_75  a0  post n9 x1 st → Jg l E (CFc E) (Rm 2 0 0) cX12_takeOver 3 RX12 none (fun _ => True) (QV E post 0 0) 0 0 75 [(0, .ref a0), (1, .int x1)] [] st := by
  intro n9
  induction n9 with
  | zero => intro x1 st h; exact h.elim
  | succ n9 ih =>
    intro x1 st h
    unfold P_X12_takeOver_75 at h
    refine J_iload_n 1 dX12_takeOver_75 rfl rfl ?_
    refine J_bipush 9 dX12_takeOver_76 (by decide) ?_
    refine J_icmp_ge 170 dX12_takeOver_78 (by decide) (fun hc => ?_) (fun hc => ?_)
    · have h := h.1 hc
      refine J_iconst 0 dX12_takeOver_170 (by decide) ?_
      refine J_istore_n _ dX12_takeOver_171 rfl (by decide) rfl ?_
      obtain ⟨n8, h⟩ := h
      exact J_lv [1, 0] rfl (K_X12_takeOver_172   a0  n8 0 st h)
    · have h := h.2 hc
      refine J_iload_n 1 dX12_takeOver_81 rfl rfl ?_
      refine J_aload_n 0 dX12_takeOver_82 rfl rfl ?_
      obtain ⟨r_1, hf, h⟩ := h
      refine J_getR fl_RX12_48 dX12_takeOver_83 hf ?_
      refine J_iconst 0 dX12_takeOver_86 (by decide) ?_
      obtain ⟨hi, h⟩ := h
      refine J_iald dX12_takeOver_87 hi ?_
      refine J_icmp_ge 95 dX12_takeOver_88 (by decide) (fun hc => ?_) (fun hc => ?_)
      · have h := h.1 hc
        refine J_iconst 0 dX12_takeOver_95 (by decide) ?_
        exact J_lv [0, 1] rfl (K_X12_takeOver_96   a0 (fun x1 st h => ih x1 st h) x1 0 st h)
      · have h := h.2 hc
        refine J_iconst 1 dX12_takeOver_91 (by decide) ?_
        refine J_goto 96 dX12_takeOver_92 (by decide) ?_
        exact J_lv [0, 1] rfl (K_X12_takeOver_96   a0 (fun x1 st h => ih x1 st h) x1 1 st h)
set_option maxRecDepth 100000 in
set_option maxHeartbeats 4000000 in
theorem ct_X12_takeOver {l : Launch} {E : En}  {a0 : Nat} {st : St} {post : St → Prop} (h : P_X12_takeOver  a0 st post) : CtV l E (CFc E) 2 0 0 yX12_takeOver cX12_takeOver 3 none [.ref a0] st post := by
  refine ctV_of (by decide) (Nat.le_of_ble_eq_true rfl) ?_
  show Jg l E (CFc E) (Rm 2 0 0) cX12_takeOver 3 RX12 none (fun _ => True) (QV E post 0 0) 0 0 0 [(0, .ref a0)] [] st
  unfold P_X12_takeOver at h
  refine J_aload_n 0 dX12_takeOver_0 rfl rfl ?_
  obtain ⟨r_1, hf, h⟩ := h
  refine J_getR fl_RX12_48 dX12_takeOver_1 hf ?_
  refine J_csv (As := [_]) md_X12_takeHalf k_1090 rfl rfl ⟨Nat.le_of_ble_eq_true rfl, Nat.le_of_ble_eq_true rfl⟩ ⟨Nat.le_of_ble_eq_true rfl, Nat.le_of_ble_eq_true rfl⟩ (Nat.le_of_ble_eq_true rfl) dX12_takeOver_4 (ct_X12_takeHalf  h) (fun st_3 h => ?_)
  refine J_aload_n 0 dX12_takeOver_7 rfl rfl ?_
  obtain ⟨r_4, hf, h⟩ := h
  refine J_getR fl_RX12_52 dX12_takeOver_8 hf ?_
  refine J_csv (As := [_]) md_X12_takeHalf k_1090 rfl rfl ⟨Nat.le_of_ble_eq_true rfl, Nat.le_of_ble_eq_true rfl⟩ ⟨Nat.le_of_ble_eq_true rfl, Nat.le_of_ble_eq_true rfl⟩ (Nat.le_of_ble_eq_true rfl) dX12_takeOver_11 (ct_X12_takeHalf  h) (fun st_6 h => ?_)
  refine J_aload_n 0 dX12_takeOver_14 rfl rfl ?_
  obtain ⟨r_7, hf, h⟩ := h
  refine J_getR fl_RX12_54 dX12_takeOver_15 hf ?_
  refine J_csv (As := [_]) md_X12_takeHalf k_1090 rfl rfl ⟨Nat.le_of_ble_eq_true rfl, Nat.le_of_ble_eq_true rfl⟩ ⟨Nat.le_of_ble_eq_true rfl, Nat.le_of_ble_eq_true rfl⟩ (Nat.le_of_ble_eq_true rfl) dX12_takeOver_18 (ct_X12_takeHalf  h) (fun st_9 h => ?_)
  refine J_aload_n 0 dX12_takeOver_21 rfl rfl ?_
  obtain ⟨r_10, hf, h⟩ := h
  refine J_getR fl_RX12_57 dX12_takeOver_22 hf ?_
  refine J_csv (As := [_]) md_X12_takeHalf k_1090 rfl rfl ⟨Nat.le_of_ble_eq_true rfl, Nat.le_of_ble_eq_true rfl⟩ ⟨Nat.le_of_ble_eq_true rfl, Nat.le_of_ble_eq_true rfl⟩ (Nat.le_of_ble_eq_true rfl) dX12_takeOver_25 (ct_X12_takeHalf  h) (fun st_12 h => ?_)
  refine J_aload_n 0 dX12_takeOver_28 rfl rfl ?_
  obtain ⟨r_13, hf, h⟩ := h
  refine J_getR fl_RX12_60 dX12_takeOver_29 hf ?_
  refine J_csv (As := [_]) md_X12_takeHalf k_1090 rfl rfl ⟨Nat.le_of_ble_eq_true rfl, Nat.le_of_ble_eq_true rfl⟩ ⟨Nat.le_of_ble_eq_true rfl, Nat.le_of_ble_eq_true rfl⟩ (Nat.le_of_ble_eq_true rfl) dX12_takeOver_32 (ct_X12_takeHalf  h) (fun st_15 h => ?_)
  refine J_aload_n 0 dX12_takeOver_35 rfl rfl ?_
  obtain ⟨r_16, hf, h⟩ := h
  refine J_getR fl_RX12_63 dX12_takeOver_36 hf ?_
  refine J_csv (As := [_]) md_X12_takeHalf k_1090 rfl rfl ⟨Nat.le_of_ble_eq_true rfl, Nat.le_of_ble_eq_true rfl⟩ ⟨Nat.le_of_ble_eq_true rfl, Nat.le_of_ble_eq_true rfl⟩ (Nat.le_of_ble_eq_true rfl) dX12_takeOver_39 (ct_X12_takeHalf  h) (fun st_18 h => ?_)
  refine J_aload_n 0 dX12_takeOver_42 rfl rfl ?_
  obtain ⟨r_19, hf, h⟩ := h
  refine J_getR fl_RX12_66 dX12_takeOver_43 hf ?_
  refine J_csv (As := [_]) md_X12_takeHalf k_1090 rfl rfl ⟨Nat.le_of_ble_eq_true rfl, Nat.le_of_ble_eq_true rfl⟩ ⟨Nat.le_of_ble_eq_true rfl, Nat.le_of_ble_eq_true rfl⟩ (Nat.le_of_ble_eq_true rfl) dX12_takeOver_46 (ct_X12_takeHalf  h) (fun st_21 h => ?_)
  refine J_aload_n 0 dX12_takeOver_49 rfl rfl ?_
  obtain ⟨r_22, hf, h⟩ := h
  refine J_getR fl_RX12_69 dX12_takeOver_50 hf ?_
  refine J_csv (As := [_]) md_X12_takeHalf k_1090 rfl rfl ⟨Nat.le_of_ble_eq_true rfl, Nat.le_of_ble_eq_true rfl⟩ ⟨Nat.le_of_ble_eq_true rfl, Nat.le_of_ble_eq_true rfl⟩ (Nat.le_of_ble_eq_true rfl) dX12_takeOver_53 (ct_X12_takeHalf  h) (fun st_24 h => ?_)
  refine J_aload_n 0 dX12_takeOver_56 rfl rfl ?_
  obtain ⟨r_25, hf, h⟩ := h
  refine J_getR fl_RX12_72 dX12_takeOver_57 hf ?_
  refine J_csv (As := [_]) md_X12_takeHalf k_1090 rfl rfl ⟨Nat.le_of_ble_eq_true rfl, Nat.le_of_ble_eq_true rfl⟩ ⟨Nat.le_of_ble_eq_true rfl, Nat.le_of_ble_eq_true rfl⟩ (Nat.le_of_ble_eq_true rfl) dX12_takeOver_60 (ct_X12_takeHalf  h) (fun st_27 h => ?_)
  refine J_aload_n 0 dX12_takeOver_63 rfl rfl ?_
  refine J_iconst 0 dX12_takeOver_64 (by decide) ?_
  obtain ⟨hf, h⟩ := h
  refine J_putI fp_RX12_342 dX12_takeOver_65 rfl hf ?_
  refine J_aload_n 0 dX12_takeOver_68 rfl rfl ?_
  refine J_iconst 0 dX12_takeOver_69 (by decide) ?_
  obtain ⟨hf, h⟩ := h
  refine J_putI fp_RX12_344 dX12_takeOver_70 rfl hf ?_
  refine J_iconst 0 dX12_takeOver_73 (by decide) ?_
  refine J_istore_n _ dX12_takeOver_74 rfl (by decide) rfl ?_
  obtain ⟨n8, h⟩ := h
  exact J_lv [1, 0] rfl (K_X12_takeOver_75   a0  n8 0 (sI (sI st_27 a0 36 0) a0 37 0) h)
/-! X12_fault -/
def P_X12_fault  (a0 : Nat) (st : St) (post : Int32 → St → Prop) : Prop := fk a0 12 4 = some 0 ∧ fk a0 12 25 = some 0 ∧ post (gI (sI st a0 4 0) a0 25) (sI st a0 4 0)
set_option maxRecDepth 100000 in
set_option maxHeartbeats 4000000 in
theorem ct_X12_fault {l : Launch} {E : En}  {a0 : Nat} {st : St} {post : Int32 → St → Prop} (h : P_X12_fault  a0 st post) : CtI l E (CFc E) 1 0 0 yX12_fault cX12_fault 1 (some .int) [.ref a0] st post := by
  refine ctI_of (by decide) (Nat.le_of_ble_eq_true rfl) ?_
  show Jg l E (CFc E) (Rm 1 0 0) cX12_fault 1 RX12 (some .int) (fun _ => True) (QI E post 0 0) 0 0 0 [(0, .ref a0)] [] st
  unfold P_X12_fault at h
  refine J_aload_n 0 dX12_fault_0 rfl rfl ?_
  refine J_iconst 0 dX12_fault_1 (by decide) ?_
  obtain ⟨hf, h⟩ := h
  refine J_putI fp_RX12_184 dX12_fault_2 rfl hf ?_
  refine J_aload_n 0 dX12_fault_5 rfl rfl ?_
  obtain ⟨hf, h⟩ := h
  refine J_getI fl_RX12_81 dX12_fault_6 hf ?_
  exact J_reti rfl dX12_fault_9 h
/-! X12_pack -/
def P_X12_pack_167  (a0 : Nat) (a1 : Nat) (a2 : Int32)  (post : St → Prop) : Nat → Int32 → Int32 → St → Prop
  | 0, _, _, _ => False
  | n9 + 1, x3, x4, st => ∃ r_1, rv st a0 12 34 = some r_1 ∧ 0 < al 0 r_1 ∧ (((Int32.ofNat (al 0 r_1)) ≤ x4 → post st) ∧ (¬ (Int32.ofNat (al 0 r_1)) ≤ x4 → ∃ r_2, rv st a0 12 34 = some r_2 ∧ vp_in x4 (al 0 r_2) ∧ vp_in (x3 + x4) (al 0 a1) ∧ P_X12_pack_167  a0 a1 a2  post n9 x3 (x4 + 1) (sA st a1 (x3 + x4 : Int32).toNatClampNeg (gA st r_2 (x4 : Int32).toNatClampNeg))))
def P_X12_pack_103  (a0 : Nat) (a1 : Nat) (a2 : Int32)  (post : St → Prop) : Nat → Int32 → Int32 → St → Prop
  | 0, _, _, _ => False
  | n9 + 1, x3, x4, st => ((6 ≤ x4 → ∃ n8, P_X12_pack_167  a0 a1 a2  post n8 (x3 + 18) 0 st) ∧ (¬ 6 ≤ x4 → ∃ r_1, rv st a0 12 31 = some r_1 ∧ vp_in x4 (al 0 r_1) ∧ vp_in (x3 + x4) (al 0 a1) ∧ ∃ r_2, rv (sA st a1 (x3 + x4 : Int32).toNatClampNeg (gA st r_1 (x4 : Int32).toNatClampNeg)) a0 12 32 = some r_2 ∧ vp_in x4 (al 0 r_2) ∧ vp_in ((x3 + 6) + x4) (al 0 a1) ∧ ∃ r_3, rv (sA (sA st a1 (x3 + x4 : Int32).toNatClampNeg (gA st r_1 (x4 : Int32).toNatClampNeg)) a1 ((x3 + 6) + x4 : Int32).toNatClampNeg (gA (sA st a1 (x3 + x4 : Int32).toNatClampNeg (gA st r_1 (x4 : Int32).toNatClampNeg)) r_2 (x4 : Int32).toNatClampNeg)) a0 12 33 = some r_3 ∧ vp_in x4 (al 0 r_3) ∧ vp_in ((x3 + 12) + x4) (al 0 a1) ∧ P_X12_pack_103  a0 a1 a2  post n9 x3 (x4 + 1) (sA (sA (sA st a1 (x3 + x4 : Int32).toNatClampNeg (gA st r_1 (x4 : Int32).toNatClampNeg)) a1 ((x3 + 6) + x4 : Int32).toNatClampNeg (gA (sA st a1 (x3 + x4 : Int32).toNatClampNeg (gA st r_1 (x4 : Int32).toNatClampNeg)) r_2 (x4 : Int32).toNatClampNeg)) a1 ((x3 + 12) + x4 : Int32).toNatClampNeg (gA (sA (sA st a1 (x3 + x4 : Int32).toNatClampNeg (gA st r_1 (x4 : Int32).toNatClampNeg)) a1 ((x3 + 6) + x4 : Int32).toNatClampNeg (gA (sA st a1 (x3 + x4 : Int32).toNatClampNeg (gA st r_1 (x4 : Int32).toNatClampNeg)) r_2 (x4 : Int32).toNatClampNeg)) r_3 (x4 : Int32).toNatClampNeg))))
def P_X12_pack_23  (a0 : Nat) (a1 : Nat) (a2 : Int32)  (post : St → Prop) : Nat → Int32 → Int32 → St → Prop
  | 0, _, _, _ => False
  | n9 + 1, x3, x4, st => ((9 ≤ x4 → ∃ n8, P_X12_pack_103  a0 a1 a2  post n8 (x3 + 36) 0 st) ∧ (¬ 9 ≤ x4 → ∃ r_1, rv st a0 12 27 = some r_1 ∧ vp_in x4 (al 0 r_1) ∧ vp_in (x3 + x4) (al 0 a1) ∧ ∃ r_2, rv (sA st a1 (x3 + x4 : Int32).toNatClampNeg (gA st r_1 (x4 : Int32).toNatClampNeg)) a0 12 28 = some r_2 ∧ vp_in x4 (al 0 r_2) ∧ vp_in ((x3 + 9) + x4) (al 0 a1) ∧ ∃ r_3, rv (sA (sA st a1 (x3 + x4 : Int32).toNatClampNeg (gA st r_1 (x4 : Int32).toNatClampNeg)) a1 ((x3 + 9) + x4 : Int32).toNatClampNeg (gA (sA st a1 (x3 + x4 : Int32).toNatClampNeg (gA st r_1 (x4 : Int32).toNatClampNeg)) r_2 (x4 : Int32).toNatClampNeg)) a0 12 29 = some r_3 ∧ vp_in x4 (al 0 r_3) ∧ vp_in ((x3 + 18) + x4) (al 0 a1) ∧ ∃ r_4, rv (sA (sA (sA st a1 (x3 + x4 : Int32).toNatClampNeg (gA st r_1 (x4 : Int32).toNatClampNeg)) a1 ((x3 + 9) + x4 : Int32).toNatClampNeg (gA (sA st a1 (x3 + x4 : Int32).toNatClampNeg (gA st r_1 (x4 : Int32).toNatClampNeg)) r_2 (x4 : Int32).toNatClampNeg)) a1 ((x3 + 18) + x4 : Int32).toNatClampNeg (gA (sA (sA st a1 (x3 + x4 : Int32).toNatClampNeg (gA st r_1 (x4 : Int32).toNatClampNeg)) a1 ((x3 + 9) + x4 : Int32).toNatClampNeg (gA (sA st a1 (x3 + x4 : Int32).toNatClampNeg (gA st r_1 (x4 : Int32).toNatClampNeg)) r_2 (x4 : Int32).toNatClampNeg)) r_3 (x4 : Int32).toNatClampNeg)) a0 12 30 = some r_4 ∧ vp_in x4 (al 0 r_4) ∧ vp_in ((x3 + 27) + x4) (al 0 a1) ∧ P_X12_pack_23  a0 a1 a2  post n9 x3 (x4 + 1) (sA (sA (sA (sA st a1 (x3 + x4 : Int32).toNatClampNeg (gA st r_1 (x4 : Int32).toNatClampNeg)) a1 ((x3 + 9) + x4 : Int32).toNatClampNeg (gA (sA st a1 (x3 + x4 : Int32).toNatClampNeg (gA st r_1 (x4 : Int32).toNatClampNeg)) r_2 (x4 : Int32).toNatClampNeg)) a1 ((x3 + 18) + x4 : Int32).toNatClampNeg (gA (sA (sA st a1 (x3 + x4 : Int32).toNatClampNeg (gA st r_1 (x4 : Int32).toNatClampNeg)) a1 ((x3 + 9) + x4 : Int32).toNatClampNeg (gA (sA st a1 (x3 + x4 : Int32).toNatClampNeg (gA st r_1 (x4 : Int32).toNatClampNeg)) r_2 (x4 : Int32).toNatClampNeg)) r_3 (x4 : Int32).toNatClampNeg)) a1 ((x3 + 27) + x4 : Int32).toNatClampNeg (gA (sA (sA (sA st a1 (x3 + x4 : Int32).toNatClampNeg (gA st r_1 (x4 : Int32).toNatClampNeg)) a1 ((x3 + 9) + x4 : Int32).toNatClampNeg (gA (sA st a1 (x3 + x4 : Int32).toNatClampNeg (gA st r_1 (x4 : Int32).toNatClampNeg)) r_2 (x4 : Int32).toNatClampNeg)) a1 ((x3 + 18) + x4 : Int32).toNatClampNeg (gA (sA (sA st a1 (x3 + x4 : Int32).toNatClampNeg (gA st r_1 (x4 : Int32).toNatClampNeg)) a1 ((x3 + 9) + x4 : Int32).toNatClampNeg (gA (sA st a1 (x3 + x4 : Int32).toNatClampNeg (gA st r_1 (x4 : Int32).toNatClampNeg)) r_2 (x4 : Int32).toNatClampNeg)) r_3 (x4 : Int32).toNatClampNeg)) r_4 (x4 : Int32).toNatClampNeg))))
def P_X12_pack  (a0 : Nat) (a1 : Nat) (a2 : Int32) (st : St) (post : St → Prop) : Prop := fk a0 12 36 = some 0 ∧ vp_in a2 (al 0 a1) ∧ fk a0 12 37 = some 0 ∧ vp_in (a2 + 1) (al 0 a1) ∧ ∃ n8, P_X12_pack_23  a0 a1 a2  post n8 (a2 + 2) 0 (sA (sA st a1 (a2 : Int32).toNatClampNeg (gI st a0 36)) a1 (a2 + 1 : Int32).toNatClampNeg (gI (sA st a1 (a2 : Int32).toNatClampNeg (gI st a0 36)) a0 37))
set_option maxRecDepth 100000 in
set_option maxHeartbeats 4000000 in
theorem K_X12_pack_167 {l : Launch} {E : En}   (a0 : Nat) (a1 : Nat) (a2 : Int32)  {post : St → Prop}   : ∀ (n9 : Nat) (x3 : Int32) (x4 : Int32) (st : St), P_X12_pack_167  a0 a1 a2  post n9 x3 x4 st → Jg l E (CFc E) (Rm 1 0 0) cX12_pack 5 RX12 none (fun _ => True) (QV E post 0 0) 0 0 167 [(0, .ref a0), (1, .ref a1), (2, .int a2), (3, .int x3), (4, .int x4)] [] st := by
  intro n9
  induction n9 with
  | zero => intro x3 x4 st h; exact h.elim
  | succ n9 ih =>
    intro x3 x4 st h
    unfold P_X12_pack_167 at h
    refine J_iload 4 dX12_pack_167 rfl ?_
    refine J_aload_n 0 dX12_pack_169 rfl rfl ?_
    obtain ⟨r_1, hf, h⟩ := h
    refine J_getR fl_RX12_105 dX12_pack_170 hf ?_
    obtain ⟨hf, h⟩ := h
    refine J_alenI dX12_pack_173 hf ?_
    refine J_icmp_ge 196 dX12_pack_174 (by decide) (fun hc => ?_) (fun hc => ?_)
    · have h := h.1 hc
      exact J_retv rfl dX12_pack_196 h
    · have h := h.2 hc
      refine J_aload_n 1 dX12_pack_177 rfl rfl ?_
      refine J_iload_n 3 dX12_pack_178 rfl rfl ?_
      refine J_iload 4 dX12_pack_179 rfl ?_
      refine J_iadd dX12_pack_181 ?_
      refine J_aload_n 0 dX12_pack_182 rfl rfl ?_
      obtain ⟨r_2, hf, h⟩ := h
      refine J_getR fl_RX12_105 dX12_pack_183 hf ?_
      refine J_iload 4 dX12_pack_186 rfl ?_
      obtain ⟨hi, h⟩ := h
      refine J_iald dX12_pack_188 hi ?_
      obtain ⟨hi, h⟩ := h
      refine J_iast dX12_pack_189 hi ?_
      refine J_iinc 4 (x4 + 1) _ dX12_pack_190 rfl (by rfl) (by decide) rfl ?_
      refine J_goto 167 dX12_pack_193 (by decide) ?_
      exact J_lv [1, 2, 3, 4, 0] rfl (ih x3 (x4 + 1) (sA st a1 (x3 + x4 : Int32).toNatClampNeg (gA st r_2 (x4 : Int32).toNatClampNeg)) h)
set_option maxRecDepth 100000 in
set_option maxHeartbeats 4000000 in
theorem K_X12_pack_103 {l : Launch} {E : En}   (a0 : Nat) (a1 : Nat) (a2 : Int32)  {post : St → Prop}   : ∀ (n9 : Nat) (x3 : Int32) (x4 : Int32) (st : St), P_X12_pack_103  a0 a1 a2  post n9 x3 x4 st → Jg l E (CFc E) (Rm 1 0 0) cX12_pack 5 RX12 none (fun _ => True) (QV E post 0 0) 0 0 103 [(0, .ref a0), (1, .ref a1), (2, .int a2), (3, .int x3), (4, .int x4)] [] st := by
  intro n9
  induction n9 with
  | zero => intro x3 x4 st h; exact h.elim
  | succ n9 ih =>
    intro x3 x4 st h
    unfold P_X12_pack_103 at h
    refine J_iload 4 dX12_pack_103 rfl ?_
    refine J_bipush 6 dX12_pack_105 (by decide) ?_
    refine J_icmp_ge 161 dX12_pack_107 (by decide) (fun hc => ?_) (fun hc => ?_)
    · have h := h.1 hc
      refine J_iinc 3 (x3 + 18) _ dX12_pack_161 rfl (by rfl) (by decide) rfl ?_
      refine J_iconst 0 dX12_pack_164 (by decide) ?_
      refine J_istore _ dX12_pack_165 (by decide) rfl ?_
      obtain ⟨n8, h⟩ := h
      exact J_lv [2, 3, 4, 1, 0] rfl (K_X12_pack_167   a0 a1 a2  n8 (x3 + 18) 0 st h)
    · have h := h.2 hc
      refine J_aload_n 1 dX12_pack_110 rfl rfl ?_
      refine J_iload_n 3 dX12_pack_111 rfl rfl ?_
      refine J_iload 4 dX12_pack_112 rfl ?_
      refine J_iadd dX12_pack_114 ?_
      refine J_aload_n 0 dX12_pack_115 rfl rfl ?_
      obtain ⟨r_1, hf, h⟩ := h
      refine J_getR fl_RX12_96 dX12_pack_116 hf ?_
      refine J_iload 4 dX12_pack_119 rfl ?_
      obtain ⟨hi, h⟩ := h
      refine J_iald dX12_pack_121 hi ?_
      obtain ⟨hi, h⟩ := h
      refine J_iast dX12_pack_122 hi ?_
      refine J_aload_n 1 dX12_pack_123 rfl rfl ?_
      refine J_iload_n 3 dX12_pack_124 rfl rfl ?_
      refine J_bipush 6 dX12_pack_125 (by decide) ?_
      refine J_iadd dX12_pack_127 ?_
      refine J_iload 4 dX12_pack_128 rfl ?_
      refine J_iadd dX12_pack_130 ?_
      refine J_aload_n 0 dX12_pack_131 rfl rfl ?_
      obtain ⟨r_2, hf, h⟩ := h
      refine J_getR fl_RX12_99 dX12_pack_132 hf ?_
      refine J_iload 4 dX12_pack_135 rfl ?_
      obtain ⟨hi, h⟩ := h
      refine J_iald dX12_pack_137 hi ?_
      obtain ⟨hi, h⟩ := h
      refine J_iast dX12_pack_138 hi ?_
      refine J_aload_n 1 dX12_pack_139 rfl rfl ?_
      refine J_iload_n 3 dX12_pack_140 rfl rfl ?_
      refine J_bipush 12 dX12_pack_141 (by decide) ?_
      refine J_iadd dX12_pack_143 ?_
      refine J_iload 4 dX12_pack_144 rfl ?_
      refine J_iadd dX12_pack_146 ?_
      refine J_aload_n 0 dX12_pack_147 rfl rfl ?_
      obtain ⟨r_3, hf, h⟩ := h
      refine J_getR fl_RX12_102 dX12_pack_148 hf ?_
      refine J_iload 4 dX12_pack_151 rfl ?_
      obtain ⟨hi, h⟩ := h
      refine J_iald dX12_pack_153 hi ?_
      obtain ⟨hi, h⟩ := h
      refine J_iast dX12_pack_154 hi ?_
      refine J_iinc 4 (x4 + 1) _ dX12_pack_155 rfl (by rfl) (by decide) rfl ?_
      refine J_goto 103 dX12_pack_158 (by decide) ?_
      exact J_lv [1, 2, 3, 4, 0] rfl (ih x3 (x4 + 1) (sA (sA (sA st a1 (x3 + x4 : Int32).toNatClampNeg (gA st r_1 (x4 : Int32).toNatClampNeg)) a1 ((x3 + 6) + x4 : Int32).toNatClampNeg (gA (sA st a1 (x3 + x4 : Int32).toNatClampNeg (gA st r_1 (x4 : Int32).toNatClampNeg)) r_2 (x4 : Int32).toNatClampNeg)) a1 ((x3 + 12) + x4 : Int32).toNatClampNeg (gA (sA (sA st a1 (x3 + x4 : Int32).toNatClampNeg (gA st r_1 (x4 : Int32).toNatClampNeg)) a1 ((x3 + 6) + x4 : Int32).toNatClampNeg (gA (sA st a1 (x3 + x4 : Int32).toNatClampNeg (gA st r_1 (x4 : Int32).toNatClampNeg)) r_2 (x4 : Int32).toNatClampNeg)) r_3 (x4 : Int32).toNatClampNeg)) h)
set_option maxRecDepth 100000 in
set_option maxHeartbeats 4000000 in
theorem K_X12_pack_23 {l : Launch} {E : En}   (a0 : Nat) (a1 : Nat) (a2 : Int32)  {post : St → Prop}   : ∀ (n9 : Nat) (x3 : Int32) (x4 : Int32) (st : St), P_X12_pack_23  a0 a1 a2  post n9 x3 x4 st → Jg l E (CFc E) (Rm 1 0 0) cX12_pack 5 RX12 none (fun _ => True) (QV E post 0 0) 0 0 23 [(0, .ref a0), (1, .ref a1), (2, .int a2), (3, .int x3), (4, .int x4)] [] st := by
  intro n9
  induction n9 with
  | zero => intro x3 x4 st h; exact h.elim
  | succ n9 ih =>
    intro x3 x4 st h
    unfold P_X12_pack_23 at h
    refine J_iload 4 dX12_pack_23 rfl ?_
    refine J_bipush 9 dX12_pack_25 (by decide) ?_
    refine J_icmp_ge 97 dX12_pack_27 (by decide) (fun hc => ?_) (fun hc => ?_)
    · have h := h.1 hc
      refine J_iinc 3 (x3 + 36) _ dX12_pack_97 rfl (by rfl) (by decide) rfl ?_
      refine J_iconst 0 dX12_pack_100 (by decide) ?_
      refine J_istore _ dX12_pack_101 (by decide) rfl ?_
      obtain ⟨n8, h⟩ := h
      exact J_lv [2, 3, 4, 1, 0] rfl (K_X12_pack_103   a0 a1 a2  n8 (x3 + 36) 0 st h)
    · have h := h.2 hc
      refine J_aload_n 1 dX12_pack_30 rfl rfl ?_
      refine J_iload_n 3 dX12_pack_31 rfl rfl ?_
      refine J_iload 4 dX12_pack_32 rfl ?_
      refine J_iadd dX12_pack_34 ?_
      refine J_aload_n 0 dX12_pack_35 rfl rfl ?_
      obtain ⟨r_1, hf, h⟩ := h
      refine J_getR fl_RX12_85 dX12_pack_36 hf ?_
      refine J_iload 4 dX12_pack_39 rfl ?_
      obtain ⟨hi, h⟩ := h
      refine J_iald dX12_pack_41 hi ?_
      obtain ⟨hi, h⟩ := h
      refine J_iast dX12_pack_42 hi ?_
      refine J_aload_n 1 dX12_pack_43 rfl rfl ?_
      refine J_iload_n 3 dX12_pack_44 rfl rfl ?_
      refine J_bipush 9 dX12_pack_45 (by decide) ?_
      refine J_iadd dX12_pack_47 ?_
      refine J_iload 4 dX12_pack_48 rfl ?_
      refine J_iadd dX12_pack_50 ?_
      refine J_aload_n 0 dX12_pack_51 rfl rfl ?_
      obtain ⟨r_2, hf, h⟩ := h
      refine J_getR fl_RX12_87 dX12_pack_52 hf ?_
      refine J_iload 4 dX12_pack_55 rfl ?_
      obtain ⟨hi, h⟩ := h
      refine J_iald dX12_pack_57 hi ?_
      obtain ⟨hi, h⟩ := h
      refine J_iast dX12_pack_58 hi ?_
      refine J_aload_n 1 dX12_pack_59 rfl rfl ?_
      refine J_iload_n 3 dX12_pack_60 rfl rfl ?_
      refine J_bipush 18 dX12_pack_61 (by decide) ?_
      refine J_iadd dX12_pack_63 ?_
      refine J_iload 4 dX12_pack_64 rfl ?_
      refine J_iadd dX12_pack_66 ?_
      refine J_aload_n 0 dX12_pack_67 rfl rfl ?_
      obtain ⟨r_3, hf, h⟩ := h
      refine J_getR fl_RX12_90 dX12_pack_68 hf ?_
      refine J_iload 4 dX12_pack_71 rfl ?_
      obtain ⟨hi, h⟩ := h
      refine J_iald dX12_pack_73 hi ?_
      obtain ⟨hi, h⟩ := h
      refine J_iast dX12_pack_74 hi ?_
      refine J_aload_n 1 dX12_pack_75 rfl rfl ?_
      refine J_iload_n 3 dX12_pack_76 rfl rfl ?_
      refine J_bipush 27 dX12_pack_77 (by decide) ?_
      refine J_iadd dX12_pack_79 ?_
      refine J_iload 4 dX12_pack_80 rfl ?_
      refine J_iadd dX12_pack_82 ?_
      refine J_aload_n 0 dX12_pack_83 rfl rfl ?_
      obtain ⟨r_4, hf, h⟩ := h
      refine J_getR fl_RX12_93 dX12_pack_84 hf ?_
      refine J_iload 4 dX12_pack_87 rfl ?_
      obtain ⟨hi, h⟩ := h
      refine J_iald dX12_pack_89 hi ?_
      obtain ⟨hi, h⟩ := h
      refine J_iast dX12_pack_90 hi ?_
      refine J_iinc 4 (x4 + 1) _ dX12_pack_91 rfl (by rfl) (by decide) rfl ?_
      refine J_goto 23 dX12_pack_94 (by decide) ?_
      exact J_lv [1, 2, 3, 4, 0] rfl (ih x3 (x4 + 1) (sA (sA (sA (sA st a1 (x3 + x4 : Int32).toNatClampNeg (gA st r_1 (x4 : Int32).toNatClampNeg)) a1 ((x3 + 9) + x4 : Int32).toNatClampNeg (gA (sA st a1 (x3 + x4 : Int32).toNatClampNeg (gA st r_1 (x4 : Int32).toNatClampNeg)) r_2 (x4 : Int32).toNatClampNeg)) a1 ((x3 + 18) + x4 : Int32).toNatClampNeg (gA (sA (sA st a1 (x3 + x4 : Int32).toNatClampNeg (gA st r_1 (x4 : Int32).toNatClampNeg)) a1 ((x3 + 9) + x4 : Int32).toNatClampNeg (gA (sA st a1 (x3 + x4 : Int32).toNatClampNeg (gA st r_1 (x4 : Int32).toNatClampNeg)) r_2 (x4 : Int32).toNatClampNeg)) r_3 (x4 : Int32).toNatClampNeg)) a1 ((x3 + 27) + x4 : Int32).toNatClampNeg (gA (sA (sA (sA st a1 (x3 + x4 : Int32).toNatClampNeg (gA st r_1 (x4 : Int32).toNatClampNeg)) a1 ((x3 + 9) + x4 : Int32).toNatClampNeg (gA (sA st a1 (x3 + x4 : Int32).toNatClampNeg (gA st r_1 (x4 : Int32).toNatClampNeg)) r_2 (x4 : Int32).toNatClampNeg)) a1 ((x3 + 18) + x4 : Int32).toNatClampNeg (gA (sA (sA st a1 (x3 + x4 : Int32).toNatClampNeg (gA st r_1 (x4 : Int32).toNatClampNeg)) a1 ((x3 + 9) + x4 : Int32).toNatClampNeg (gA (sA st a1 (x3 + x4 : Int32).toNatClampNeg (gA st r_1 (x4 : Int32).toNatClampNeg)) r_2 (x4 : Int32).toNatClampNeg)) r_3 (x4 : Int32).toNatClampNeg)) r_4 (x4 : Int32).toNatClampNeg)) h)
set_option maxRecDepth 100000 in
set_option maxHeartbeats 4000000 in
theorem ct_X12_pack {l : Launch} {E : En}  {a0 : Nat} {a1 : Nat} {a2 : Int32} {st : St} {post : St → Prop} (h : P_X12_pack  a0 a1 a2 st post) : CtV l E (CFc E) 1 0 0 yX12_pack cX12_pack 5 none [.ref a0, .ref a1, .int a2] st post := by
  refine ctV_of (by decide) (Nat.le_of_ble_eq_true rfl) ?_
  show Jg l E (CFc E) (Rm 1 0 0) cX12_pack 5 RX12 none (fun _ => True) (QV E post 0 0) 0 0 0 [(0, .ref a0), (1, .ref a1), (2, .int a2)] [] st
  unfold P_X12_pack at h
  refine J_aload_n 1 dX12_pack_0 rfl rfl ?_
  refine J_iload_n 2 dX12_pack_1 rfl rfl ?_
  refine J_aload_n 0 dX12_pack_2 rfl rfl ?_
  obtain ⟨hf, h⟩ := h
  refine J_getI fl_RX12_342 dX12_pack_3 hf ?_
  obtain ⟨hi, h⟩ := h
  refine J_iast dX12_pack_6 hi ?_
  refine J_aload_n 1 dX12_pack_7 rfl rfl ?_
  refine J_iload_n 2 dX12_pack_8 rfl rfl ?_
  refine J_iconst 1 dX12_pack_9 (by decide) ?_
  refine J_iadd dX12_pack_10 ?_
  refine J_aload_n 0 dX12_pack_11 rfl rfl ?_
  obtain ⟨hf, h⟩ := h
  refine J_getI fl_RX12_344 dX12_pack_12 hf ?_
  obtain ⟨hi, h⟩ := h
  refine J_iast dX12_pack_15 hi ?_
  refine J_iload_n 2 dX12_pack_16 rfl rfl ?_
  refine J_iconst 2 dX12_pack_17 (by decide) ?_
  refine J_iadd dX12_pack_18 ?_
  refine J_istore_n _ dX12_pack_19 rfl (by decide) rfl ?_
  refine J_iconst 0 dX12_pack_20 (by decide) ?_
  refine J_istore _ dX12_pack_21 (by decide) rfl ?_
  obtain ⟨n8, h⟩ := h
  exact J_lv [2, 3, 4, 1, 0] rfl (K_X12_pack_23   a0 a1 a2  n8 (a2 + 2) 0 (sA (sA st a1 (a2 : Int32).toNatClampNeg (gI st a0 36)) a1 (a2 + 1 : Int32).toNatClampNeg (gI (sA st a1 (a2 : Int32).toNatClampNeg (gI st a0 36)) a0 37)) h)
/-! X12_unpack -/
def P_X12_unpack_167  (a0 : Nat) (a1 : Nat) (a2 : Int32)  (post : St → Prop) : Nat → Int32 → Int32 → St → Prop
  | 0, _, _, _ => False
  | n9 + 1, x3, x4, st => ∃ r_1, rv st a0 12 34 = some r_1 ∧ 0 < al 0 r_1 ∧ (((Int32.ofNat (al 0 r_1)) ≤ x4 → post st) ∧ (¬ (Int32.ofNat (al 0 r_1)) ≤ x4 → ∃ r_2, rv st a0 12 34 = some r_2 ∧ vp_in (x3 + x4) (al 0 a1) ∧ vp_in x4 (al 0 r_2) ∧ P_X12_unpack_167  a0 a1 a2  post n9 x3 (x4 + 1) (sA st r_2 (x4 : Int32).toNatClampNeg (gA st a1 (x3 + x4 : Int32).toNatClampNeg))))
def P_X12_unpack_103  (a0 : Nat) (a1 : Nat) (a2 : Int32)  (post : St → Prop) : Nat → Int32 → Int32 → St → Prop
  | 0, _, _, _ => False
  | n9 + 1, x3, x4, st => ((6 ≤ x4 → ∃ n8, P_X12_unpack_167  a0 a1 a2  post n8 (x3 + 18) 0 st) ∧ (¬ 6 ≤ x4 → ∃ r_1, rv st a0 12 31 = some r_1 ∧ vp_in (x3 + x4) (al 0 a1) ∧ vp_in x4 (al 0 r_1) ∧ ∃ r_2, rv (sA st r_1 (x4 : Int32).toNatClampNeg (gA st a1 (x3 + x4 : Int32).toNatClampNeg)) a0 12 32 = some r_2 ∧ vp_in ((x3 + 6) + x4) (al 0 a1) ∧ vp_in x4 (al 0 r_2) ∧ ∃ r_3, rv (sA (sA st r_1 (x4 : Int32).toNatClampNeg (gA st a1 (x3 + x4 : Int32).toNatClampNeg)) r_2 (x4 : Int32).toNatClampNeg (gA (sA st r_1 (x4 : Int32).toNatClampNeg (gA st a1 (x3 + x4 : Int32).toNatClampNeg)) a1 ((x3 + 6) + x4 : Int32).toNatClampNeg)) a0 12 33 = some r_3 ∧ vp_in ((x3 + 12) + x4) (al 0 a1) ∧ vp_in x4 (al 0 r_3) ∧ P_X12_unpack_103  a0 a1 a2  post n9 x3 (x4 + 1) (sA (sA (sA st r_1 (x4 : Int32).toNatClampNeg (gA st a1 (x3 + x4 : Int32).toNatClampNeg)) r_2 (x4 : Int32).toNatClampNeg (gA (sA st r_1 (x4 : Int32).toNatClampNeg (gA st a1 (x3 + x4 : Int32).toNatClampNeg)) a1 ((x3 + 6) + x4 : Int32).toNatClampNeg)) r_3 (x4 : Int32).toNatClampNeg (gA (sA (sA st r_1 (x4 : Int32).toNatClampNeg (gA st a1 (x3 + x4 : Int32).toNatClampNeg)) r_2 (x4 : Int32).toNatClampNeg (gA (sA st r_1 (x4 : Int32).toNatClampNeg (gA st a1 (x3 + x4 : Int32).toNatClampNeg)) a1 ((x3 + 6) + x4 : Int32).toNatClampNeg)) a1 ((x3 + 12) + x4 : Int32).toNatClampNeg))))
def P_X12_unpack_23  (a0 : Nat) (a1 : Nat) (a2 : Int32)  (post : St → Prop) : Nat → Int32 → Int32 → St → Prop
  | 0, _, _, _ => False
  | n9 + 1, x3, x4, st => ((9 ≤ x4 → ∃ n8, P_X12_unpack_103  a0 a1 a2  post n8 (x3 + 36) 0 st) ∧ (¬ 9 ≤ x4 → ∃ r_1, rv st a0 12 27 = some r_1 ∧ vp_in (x3 + x4) (al 0 a1) ∧ vp_in x4 (al 0 r_1) ∧ ∃ r_2, rv (sA st r_1 (x4 : Int32).toNatClampNeg (gA st a1 (x3 + x4 : Int32).toNatClampNeg)) a0 12 28 = some r_2 ∧ vp_in ((x3 + 9) + x4) (al 0 a1) ∧ vp_in x4 (al 0 r_2) ∧ ∃ r_3, rv (sA (sA st r_1 (x4 : Int32).toNatClampNeg (gA st a1 (x3 + x4 : Int32).toNatClampNeg)) r_2 (x4 : Int32).toNatClampNeg (gA (sA st r_1 (x4 : Int32).toNatClampNeg (gA st a1 (x3 + x4 : Int32).toNatClampNeg)) a1 ((x3 + 9) + x4 : Int32).toNatClampNeg)) a0 12 29 = some r_3 ∧ vp_in ((x3 + 18) + x4) (al 0 a1) ∧ vp_in x4 (al 0 r_3) ∧ ∃ r_4, rv (sA (sA (sA st r_1 (x4 : Int32).toNatClampNeg (gA st a1 (x3 + x4 : Int32).toNatClampNeg)) r_2 (x4 : Int32).toNatClampNeg (gA (sA st r_1 (x4 : Int32).toNatClampNeg (gA st a1 (x3 + x4 : Int32).toNatClampNeg)) a1 ((x3 + 9) + x4 : Int32).toNatClampNeg)) r_3 (x4 : Int32).toNatClampNeg (gA (sA (sA st r_1 (x4 : Int32).toNatClampNeg (gA st a1 (x3 + x4 : Int32).toNatClampNeg)) r_2 (x4 : Int32).toNatClampNeg (gA (sA st r_1 (x4 : Int32).toNatClampNeg (gA st a1 (x3 + x4 : Int32).toNatClampNeg)) a1 ((x3 + 9) + x4 : Int32).toNatClampNeg)) a1 ((x3 + 18) + x4 : Int32).toNatClampNeg)) a0 12 30 = some r_4 ∧ vp_in ((x3 + 27) + x4) (al 0 a1) ∧ vp_in x4 (al 0 r_4) ∧ P_X12_unpack_23  a0 a1 a2  post n9 x3 (x4 + 1) (sA (sA (sA (sA st r_1 (x4 : Int32).toNatClampNeg (gA st a1 (x3 + x4 : Int32).toNatClampNeg)) r_2 (x4 : Int32).toNatClampNeg (gA (sA st r_1 (x4 : Int32).toNatClampNeg (gA st a1 (x3 + x4 : Int32).toNatClampNeg)) a1 ((x3 + 9) + x4 : Int32).toNatClampNeg)) r_3 (x4 : Int32).toNatClampNeg (gA (sA (sA st r_1 (x4 : Int32).toNatClampNeg (gA st a1 (x3 + x4 : Int32).toNatClampNeg)) r_2 (x4 : Int32).toNatClampNeg (gA (sA st r_1 (x4 : Int32).toNatClampNeg (gA st a1 (x3 + x4 : Int32).toNatClampNeg)) a1 ((x3 + 9) + x4 : Int32).toNatClampNeg)) a1 ((x3 + 18) + x4 : Int32).toNatClampNeg)) r_4 (x4 : Int32).toNatClampNeg (gA (sA (sA (sA st r_1 (x4 : Int32).toNatClampNeg (gA st a1 (x3 + x4 : Int32).toNatClampNeg)) r_2 (x4 : Int32).toNatClampNeg (gA (sA st r_1 (x4 : Int32).toNatClampNeg (gA st a1 (x3 + x4 : Int32).toNatClampNeg)) a1 ((x3 + 9) + x4 : Int32).toNatClampNeg)) r_3 (x4 : Int32).toNatClampNeg (gA (sA (sA st r_1 (x4 : Int32).toNatClampNeg (gA st a1 (x3 + x4 : Int32).toNatClampNeg)) r_2 (x4 : Int32).toNatClampNeg (gA (sA st r_1 (x4 : Int32).toNatClampNeg (gA st a1 (x3 + x4 : Int32).toNatClampNeg)) a1 ((x3 + 9) + x4 : Int32).toNatClampNeg)) a1 ((x3 + 18) + x4 : Int32).toNatClampNeg)) a1 ((x3 + 27) + x4 : Int32).toNatClampNeg))))
def P_X12_unpack  (a0 : Nat) (a1 : Nat) (a2 : Int32) (st : St) (post : St → Prop) : Prop := vp_in a2 (al 0 a1) ∧ fk a0 12 36 = some 0 ∧ vp_in (a2 + 1) (al 0 a1) ∧ fk a0 12 37 = some 0 ∧ ∃ n8, P_X12_unpack_23  a0 a1 a2  post n8 (a2 + 2) 0 (sI (sI st a0 36 (gA st a1 (a2 : Int32).toNatClampNeg)) a0 37 (gA (sI st a0 36 (gA st a1 (a2 : Int32).toNatClampNeg)) a1 (a2 + 1 : Int32).toNatClampNeg))
set_option maxRecDepth 100000 in
set_option maxHeartbeats 4000000 in
theorem K_X12_unpack_167 {l : Launch} {E : En}   (a0 : Nat) (a1 : Nat) (a2 : Int32)  {post : St → Prop}   : ∀ (n9 : Nat) (x3 : Int32) (x4 : Int32) (st : St), P_X12_unpack_167  a0 a1 a2  post n9 x3 x4 st → Jg l E (CFc E) (Rm 1 0 0) cX12_unpack 5 RX12 none (fun _ => True) (QV E post 0 0) 0 0 167 [(0, .ref a0), (1, .ref a1), (2, .int a2), (3, .int x3), (4, .int x4)] [] st := by
  intro n9
  induction n9 with
  | zero => intro x3 x4 st h; exact h.elim
  | succ n9 ih =>
    intro x3 x4 st h
    unfold P_X12_unpack_167 at h
    refine J_iload 4 dX12_unpack_167 rfl ?_
    refine J_aload_n 0 dX12_unpack_169 rfl rfl ?_
    obtain ⟨r_1, hf, h⟩ := h
    refine J_getR fl_RX12_105 dX12_unpack_170 hf ?_
    obtain ⟨hf, h⟩ := h
    refine J_alenI dX12_unpack_173 hf ?_
    refine J_icmp_ge 196 dX12_unpack_174 (by decide) (fun hc => ?_) (fun hc => ?_)
    · have h := h.1 hc
      exact J_retv rfl dX12_unpack_196 h
    · have h := h.2 hc
      refine J_aload_n 0 dX12_unpack_177 rfl rfl ?_
      obtain ⟨r_2, hf, h⟩ := h
      refine J_getR fl_RX12_105 dX12_unpack_178 hf ?_
      refine J_iload 4 dX12_unpack_181 rfl ?_
      refine J_aload_n 1 dX12_unpack_183 rfl rfl ?_
      refine J_iload_n 3 dX12_unpack_184 rfl rfl ?_
      refine J_iload 4 dX12_unpack_185 rfl ?_
      refine J_iadd dX12_unpack_187 ?_
      obtain ⟨hi, h⟩ := h
      refine J_iald dX12_unpack_188 hi ?_
      obtain ⟨hi, h⟩ := h
      refine J_iast dX12_unpack_189 hi ?_
      refine J_iinc 4 (x4 + 1) _ dX12_unpack_190 rfl (by rfl) (by decide) rfl ?_
      refine J_goto 167 dX12_unpack_193 (by decide) ?_
      exact J_lv [1, 2, 3, 4, 0] rfl (ih x3 (x4 + 1) (sA st r_2 (x4 : Int32).toNatClampNeg (gA st a1 (x3 + x4 : Int32).toNatClampNeg)) h)
set_option maxRecDepth 100000 in
set_option maxHeartbeats 4000000 in
theorem K_X12_unpack_103 {l : Launch} {E : En}   (a0 : Nat) (a1 : Nat) (a2 : Int32)  {post : St → Prop}   : ∀ (n9 : Nat) (x3 : Int32) (x4 : Int32) (st : St), P_X12_unpack_103  a0 a1 a2  post n9 x3 x4 st → Jg l E (CFc E) (Rm 1 0 0) cX12_unpack 5 RX12 none (fun _ => True) (QV E post 0 0) 0 0 103 [(0, .ref a0), (1, .ref a1), (2, .int a2), (3, .int x3), (4, .int x4)] [] st := by
  intro n9
  induction n9 with
  | zero => intro x3 x4 st h; exact h.elim
  | succ n9 ih =>
    intro x3 x4 st h
    unfold P_X12_unpack_103 at h
    refine J_iload 4 dX12_unpack_103 rfl ?_
    refine J_bipush 6 dX12_unpack_105 (by decide) ?_
    refine J_icmp_ge 161 dX12_unpack_107 (by decide) (fun hc => ?_) (fun hc => ?_)
    · have h := h.1 hc
      refine J_iinc 3 (x3 + 18) _ dX12_unpack_161 rfl (by rfl) (by decide) rfl ?_
      refine J_iconst 0 dX12_unpack_164 (by decide) ?_
      refine J_istore _ dX12_unpack_165 (by decide) rfl ?_
      obtain ⟨n8, h⟩ := h
      exact J_lv [2, 3, 4, 1, 0] rfl (K_X12_unpack_167   a0 a1 a2  n8 (x3 + 18) 0 st h)
    · have h := h.2 hc
      refine J_aload_n 0 dX12_unpack_110 rfl rfl ?_
      obtain ⟨r_1, hf, h⟩ := h
      refine J_getR fl_RX12_96 dX12_unpack_111 hf ?_
      refine J_iload 4 dX12_unpack_114 rfl ?_
      refine J_aload_n 1 dX12_unpack_116 rfl rfl ?_
      refine J_iload_n 3 dX12_unpack_117 rfl rfl ?_
      refine J_iload 4 dX12_unpack_118 rfl ?_
      refine J_iadd dX12_unpack_120 ?_
      obtain ⟨hi, h⟩ := h
      refine J_iald dX12_unpack_121 hi ?_
      obtain ⟨hi, h⟩ := h
      refine J_iast dX12_unpack_122 hi ?_
      refine J_aload_n 0 dX12_unpack_123 rfl rfl ?_
      obtain ⟨r_2, hf, h⟩ := h
      refine J_getR fl_RX12_99 dX12_unpack_124 hf ?_
      refine J_iload 4 dX12_unpack_127 rfl ?_
      refine J_aload_n 1 dX12_unpack_129 rfl rfl ?_
      refine J_iload_n 3 dX12_unpack_130 rfl rfl ?_
      refine J_bipush 6 dX12_unpack_131 (by decide) ?_
      refine J_iadd dX12_unpack_133 ?_
      refine J_iload 4 dX12_unpack_134 rfl ?_
      refine J_iadd dX12_unpack_136 ?_
      obtain ⟨hi, h⟩ := h
      refine J_iald dX12_unpack_137 hi ?_
      obtain ⟨hi, h⟩ := h
      refine J_iast dX12_unpack_138 hi ?_
      refine J_aload_n 0 dX12_unpack_139 rfl rfl ?_
      obtain ⟨r_3, hf, h⟩ := h
      refine J_getR fl_RX12_102 dX12_unpack_140 hf ?_
      refine J_iload 4 dX12_unpack_143 rfl ?_
      refine J_aload_n 1 dX12_unpack_145 rfl rfl ?_
      refine J_iload_n 3 dX12_unpack_146 rfl rfl ?_
      refine J_bipush 12 dX12_unpack_147 (by decide) ?_
      refine J_iadd dX12_unpack_149 ?_
      refine J_iload 4 dX12_unpack_150 rfl ?_
      refine J_iadd dX12_unpack_152 ?_
      obtain ⟨hi, h⟩ := h
      refine J_iald dX12_unpack_153 hi ?_
      obtain ⟨hi, h⟩ := h
      refine J_iast dX12_unpack_154 hi ?_
      refine J_iinc 4 (x4 + 1) _ dX12_unpack_155 rfl (by rfl) (by decide) rfl ?_
      refine J_goto 103 dX12_unpack_158 (by decide) ?_
      exact J_lv [1, 2, 3, 4, 0] rfl (ih x3 (x4 + 1) (sA (sA (sA st r_1 (x4 : Int32).toNatClampNeg (gA st a1 (x3 + x4 : Int32).toNatClampNeg)) r_2 (x4 : Int32).toNatClampNeg (gA (sA st r_1 (x4 : Int32).toNatClampNeg (gA st a1 (x3 + x4 : Int32).toNatClampNeg)) a1 ((x3 + 6) + x4 : Int32).toNatClampNeg)) r_3 (x4 : Int32).toNatClampNeg (gA (sA (sA st r_1 (x4 : Int32).toNatClampNeg (gA st a1 (x3 + x4 : Int32).toNatClampNeg)) r_2 (x4 : Int32).toNatClampNeg (gA (sA st r_1 (x4 : Int32).toNatClampNeg (gA st a1 (x3 + x4 : Int32).toNatClampNeg)) a1 ((x3 + 6) + x4 : Int32).toNatClampNeg)) a1 ((x3 + 12) + x4 : Int32).toNatClampNeg)) h)
set_option maxRecDepth 100000 in
set_option maxHeartbeats 4000000 in
theorem K_X12_unpack_23 {l : Launch} {E : En}   (a0 : Nat) (a1 : Nat) (a2 : Int32)  {post : St → Prop}   : ∀ (n9 : Nat) (x3 : Int32) (x4 : Int32) (st : St), P_X12_unpack_23  a0 a1 a2  post n9 x3 x4 st → Jg l E (CFc E) (Rm 1 0 0) cX12_unpack 5 RX12 none (fun _ => True) (QV E post 0 0) 0 0 23 [(0, .ref a0), (1, .ref a1), (2, .int a2), (3, .int x3), (4, .int x4)] [] st := by
  intro n9
  induction n9 with
  | zero => intro x3 x4 st h; exact h.elim
  | succ n9 ih =>
    intro x3 x4 st h
    unfold P_X12_unpack_23 at h
    refine J_iload 4 dX12_unpack_23 rfl ?_
    refine J_bipush 9 dX12_unpack_25 (by decide) ?_
    refine J_icmp_ge 97 dX12_unpack_27 (by decide) (fun hc => ?_) (fun hc => ?_)
    · have h := h.1 hc
      refine J_iinc 3 (x3 + 36) _ dX12_unpack_97 rfl (by rfl) (by decide) rfl ?_
      refine J_iconst 0 dX12_unpack_100 (by decide) ?_
      refine J_istore _ dX12_unpack_101 (by decide) rfl ?_
      obtain ⟨n8, h⟩ := h
      exact J_lv [2, 3, 4, 1, 0] rfl (K_X12_unpack_103   a0 a1 a2  n8 (x3 + 36) 0 st h)
    · have h := h.2 hc
      refine J_aload_n 0 dX12_unpack_30 rfl rfl ?_
      obtain ⟨r_1, hf, h⟩ := h
      refine J_getR fl_RX12_85 dX12_unpack_31 hf ?_
      refine J_iload 4 dX12_unpack_34 rfl ?_
      refine J_aload_n 1 dX12_unpack_36 rfl rfl ?_
      refine J_iload_n 3 dX12_unpack_37 rfl rfl ?_
      refine J_iload 4 dX12_unpack_38 rfl ?_
      refine J_iadd dX12_unpack_40 ?_
      obtain ⟨hi, h⟩ := h
      refine J_iald dX12_unpack_41 hi ?_
      obtain ⟨hi, h⟩ := h
      refine J_iast dX12_unpack_42 hi ?_
      refine J_aload_n 0 dX12_unpack_43 rfl rfl ?_
      obtain ⟨r_2, hf, h⟩ := h
      refine J_getR fl_RX12_87 dX12_unpack_44 hf ?_
      refine J_iload 4 dX12_unpack_47 rfl ?_
      refine J_aload_n 1 dX12_unpack_49 rfl rfl ?_
      refine J_iload_n 3 dX12_unpack_50 rfl rfl ?_
      refine J_bipush 9 dX12_unpack_51 (by decide) ?_
      refine J_iadd dX12_unpack_53 ?_
      refine J_iload 4 dX12_unpack_54 rfl ?_
      refine J_iadd dX12_unpack_56 ?_
      obtain ⟨hi, h⟩ := h
      refine J_iald dX12_unpack_57 hi ?_
      obtain ⟨hi, h⟩ := h
      refine J_iast dX12_unpack_58 hi ?_
      refine J_aload_n 0 dX12_unpack_59 rfl rfl ?_
      obtain ⟨r_3, hf, h⟩ := h
      refine J_getR fl_RX12_90 dX12_unpack_60 hf ?_
      refine J_iload 4 dX12_unpack_63 rfl ?_
      refine J_aload_n 1 dX12_unpack_65 rfl rfl ?_
      refine J_iload_n 3 dX12_unpack_66 rfl rfl ?_
      refine J_bipush 18 dX12_unpack_67 (by decide) ?_
      refine J_iadd dX12_unpack_69 ?_
      refine J_iload 4 dX12_unpack_70 rfl ?_
      refine J_iadd dX12_unpack_72 ?_
      obtain ⟨hi, h⟩ := h
      refine J_iald dX12_unpack_73 hi ?_
      obtain ⟨hi, h⟩ := h
      refine J_iast dX12_unpack_74 hi ?_
      refine J_aload_n 0 dX12_unpack_75 rfl rfl ?_
      obtain ⟨r_4, hf, h⟩ := h
      refine J_getR fl_RX12_93 dX12_unpack_76 hf ?_
      refine J_iload 4 dX12_unpack_79 rfl ?_
      refine J_aload_n 1 dX12_unpack_81 rfl rfl ?_
      refine J_iload_n 3 dX12_unpack_82 rfl rfl ?_
      refine J_bipush 27 dX12_unpack_83 (by decide) ?_
      refine J_iadd dX12_unpack_85 ?_
      refine J_iload 4 dX12_unpack_86 rfl ?_
      refine J_iadd dX12_unpack_88 ?_
      obtain ⟨hi, h⟩ := h
      refine J_iald dX12_unpack_89 hi ?_
      obtain ⟨hi, h⟩ := h
      refine J_iast dX12_unpack_90 hi ?_
      refine J_iinc 4 (x4 + 1) _ dX12_unpack_91 rfl (by rfl) (by decide) rfl ?_
      refine J_goto 23 dX12_unpack_94 (by decide) ?_
      exact J_lv [1, 2, 3, 4, 0] rfl (ih x3 (x4 + 1) (sA (sA (sA (sA st r_1 (x4 : Int32).toNatClampNeg (gA st a1 (x3 + x4 : Int32).toNatClampNeg)) r_2 (x4 : Int32).toNatClampNeg (gA (sA st r_1 (x4 : Int32).toNatClampNeg (gA st a1 (x3 + x4 : Int32).toNatClampNeg)) a1 ((x3 + 9) + x4 : Int32).toNatClampNeg)) r_3 (x4 : Int32).toNatClampNeg (gA (sA (sA st r_1 (x4 : Int32).toNatClampNeg (gA st a1 (x3 + x4 : Int32).toNatClampNeg)) r_2 (x4 : Int32).toNatClampNeg (gA (sA st r_1 (x4 : Int32).toNatClampNeg (gA st a1 (x3 + x4 : Int32).toNatClampNeg)) a1 ((x3 + 9) + x4 : Int32).toNatClampNeg)) a1 ((x3 + 18) + x4 : Int32).toNatClampNeg)) r_4 (x4 : Int32).toNatClampNeg (gA (sA (sA (sA st r_1 (x4 : Int32).toNatClampNeg (gA st a1 (x3 + x4 : Int32).toNatClampNeg)) r_2 (x4 : Int32).toNatClampNeg (gA (sA st r_1 (x4 : Int32).toNatClampNeg (gA st a1 (x3 + x4 : Int32).toNatClampNeg)) a1 ((x3 + 9) + x4 : Int32).toNatClampNeg)) r_3 (x4 : Int32).toNatClampNeg (gA (sA (sA st r_1 (x4 : Int32).toNatClampNeg (gA st a1 (x3 + x4 : Int32).toNatClampNeg)) r_2 (x4 : Int32).toNatClampNeg (gA (sA st r_1 (x4 : Int32).toNatClampNeg (gA st a1 (x3 + x4 : Int32).toNatClampNeg)) a1 ((x3 + 9) + x4 : Int32).toNatClampNeg)) a1 ((x3 + 18) + x4 : Int32).toNatClampNeg)) a1 ((x3 + 27) + x4 : Int32).toNatClampNeg)) h)
set_option maxRecDepth 100000 in
set_option maxHeartbeats 4000000 in
theorem ct_X12_unpack {l : Launch} {E : En}  {a0 : Nat} {a1 : Nat} {a2 : Int32} {st : St} {post : St → Prop} (h : P_X12_unpack  a0 a1 a2 st post) : CtV l E (CFc E) 1 0 0 yX12_unpack cX12_unpack 5 none [.ref a0, .ref a1, .int a2] st post := by
  refine ctV_of (by decide) (Nat.le_of_ble_eq_true rfl) ?_
  show Jg l E (CFc E) (Rm 1 0 0) cX12_unpack 5 RX12 none (fun _ => True) (QV E post 0 0) 0 0 0 [(0, .ref a0), (1, .ref a1), (2, .int a2)] [] st
  unfold P_X12_unpack at h
  refine J_aload_n 0 dX12_unpack_0 rfl rfl ?_
  refine J_aload_n 1 dX12_unpack_1 rfl rfl ?_
  refine J_iload_n 2 dX12_unpack_2 rfl rfl ?_
  obtain ⟨hi, h⟩ := h
  refine J_iald dX12_unpack_3 hi ?_
  obtain ⟨hf, h⟩ := h
  refine J_putI fp_RX12_342 dX12_unpack_4 rfl hf ?_
  refine J_aload_n 0 dX12_unpack_7 rfl rfl ?_
  refine J_aload_n 1 dX12_unpack_8 rfl rfl ?_
  refine J_iload_n 2 dX12_unpack_9 rfl rfl ?_
  refine J_iconst 1 dX12_unpack_10 (by decide) ?_
  refine J_iadd dX12_unpack_11 ?_
  obtain ⟨hi, h⟩ := h
  refine J_iald dX12_unpack_12 hi ?_
  obtain ⟨hf, h⟩ := h
  refine J_putI fp_RX12_344 dX12_unpack_13 rfl hf ?_
  refine J_iload_n 2 dX12_unpack_16 rfl rfl ?_
  refine J_iconst 2 dX12_unpack_17 (by decide) ?_
  refine J_iadd dX12_unpack_18 ?_
  refine J_istore_n _ dX12_unpack_19 rfl (by decide) rfl ?_
  refine J_iconst 0 dX12_unpack_20 (by decide) ?_
  refine J_istore _ dX12_unpack_21 (by decide) rfl ?_
  obtain ⟨n8, h⟩ := h
  exact J_lv [2, 3, 4, 1, 0] rfl (K_X12_unpack_23   a0 a1 a2  n8 (a2 + 2) 0 (sI (sI st a0 36 (gA st a1 (a2 : Int32).toNatClampNeg)) a0 37 (gA (sI st a0 36 (gA st a1 (a2 : Int32).toNatClampNeg)) a1 (a2 + 1 : Int32).toNatClampNeg)) h)
/-! X12_reckon -/
def P_X12_reckon_117  (a0 : Int32) (a1 : Int32) (a2 : Int32)  (post : Int32 → St → Prop) (s0 : Int32) (st : St) : Prop := post s0 st
def P_X12_reckon_112  (a0 : Int32) (a1 : Int32) (a2 : Int32)  (post : Int32 → St → Prop)  (st : St) : Prop := P_X12_reckon_117  a0 a1 a2  post 1 st
def P_X12_reckon_103  (a0 : Int32) (a1 : Int32) (a2 : Int32)  (post : Int32 → St → Prop) (s0 : Int32) (st : St) : Prop := post s0 st
def P_X12_reckon_102  (a0 : Int32) (a1 : Int32) (a2 : Int32)  (post : Int32 → St → Prop)  (st : St) : Prop := P_X12_reckon_103  a0 a1 a2  post 0 st
def P_X12_reckon_89  (a0 : Int32) (a1 : Int32) (a2 : Int32)  (post : Int32 → St → Prop) (s0 : Int32) (st : St) : Prop := post s0 st
def P_X12_reckon_78  (a0 : Int32) (a1 : Int32) (a2 : Int32)  (post : Int32 → St → Prop) (s0 : Int32) (st : St) : Prop := post s0 st
def P_X12_reckon_67  (a0 : Int32) (a1 : Int32) (a2 : Int32)  (post : Int32 → St → Prop) (s0 : Int32) (st : St) : Prop := post s0 st
def P_X12_reckon  (a0 : Int32) (a1 : Int32) (a2 : Int32) (st : St) (post : Int32 → St → Prop) : Prop := ((((a0 : Int32).toInt < -26 ∨ -20 < (a0 : Int32).toInt) → ((¬ a1 = 0 → P_X12_reckon_112  a0 a1 a2  post st) ∧ (a1 = 0 → ((a2 = 0 → P_X12_reckon_117  a0 a1 a2  post 0 st) ∧ (¬ a2 = 0 → P_X12_reckon_112  a0 a1 a2  post st))))) ∧ ((a0 : Int32).toInt = -26 → ((a1 = 0 → P_X12_reckon_102  a0 a1 a2  post st) ∧ (¬ a1 = 0 → ((a2 = 0 → P_X12_reckon_102  a0 a1 a2  post st) ∧ (¬ a2 = 0 → P_X12_reckon_103  a0 a1 a2  post 1 st))))) ∧ ((a0 : Int32).toInt = -25 → ((¬ a1 = a2 → P_X12_reckon_89  a0 a1 a2  post 0 st) ∧ (a1 = a2 → P_X12_reckon_89  a0 a1 a2  post 1 st))) ∧ ((a0 : Int32).toInt = -24 → ((a2 ≤ a1 → P_X12_reckon_78  a0 a1 a2  post 0 st) ∧ (¬ a2 ≤ a1 → P_X12_reckon_78  a0 a1 a2  post 1 st))) ∧ ((a0 : Int32).toInt = -23 → ((¬ a2 = 0 → (¬ a2 = 0) ∧ P_X12_reckon_67  a0 a1 a2  post (a1 / a2) st) ∧ (a2 = 0 → P_X12_reckon_67  a0 a1 a2  post 0 st))) ∧ ((a0 : Int32).toInt = -22 → post (a1 * a2) st) ∧ ((a0 : Int32).toInt = -21 → post (a1 - a2) st) ∧ ((a0 : Int32).toInt = -20 → post (a1 + a2) st) ∧ True)
set_option maxRecDepth 100000 in
set_option maxHeartbeats 4000000 in
theorem K_X12_reckon_117 {l : Launch} {E : En}   (a0 : Int32) (a1 : Int32) (a2 : Int32)  {post : Int32 → St → Prop}   (s0 : Int32) (st : St) (h : P_X12_reckon_117  a0 a1 a2  post s0 st) : Jg l E (CFc E) (Rm 1 0 0) cX12_reckon 3 RX12 (some .int) (fun _ => True) (QI E post 0 0) 0 0 117 [(0, .int a0), (1, .int a1), (2, .int a2)] [.int s0] st := by
  unfold P_X12_reckon_117 at h
  exact J_reti rfl dX12_reckon_117 h
set_option maxRecDepth 100000 in
set_option maxHeartbeats 4000000 in
theorem K_X12_reckon_112 {l : Launch} {E : En}   (a0 : Int32) (a1 : Int32) (a2 : Int32)  {post : Int32 → St → Prop}    (st : St) (h : P_X12_reckon_112  a0 a1 a2  post  st) : Jg l E (CFc E) (Rm 1 0 0) cX12_reckon 3 RX12 (some .int) (fun _ => True) (QI E post 0 0) 0 0 112 [(0, .int a0), (1, .int a1), (2, .int a2)] [] st := by
  unfold P_X12_reckon_112 at h
  refine J_iconst 1 dX12_reckon_112 (by decide) ?_
  refine J_goto 117 dX12_reckon_113 (by decide) ?_
  exact J_lv [0, 1, 2] rfl (K_X12_reckon_117   a0 a1 a2  1 st h)
set_option maxRecDepth 100000 in
set_option maxHeartbeats 4000000 in
theorem K_X12_reckon_103 {l : Launch} {E : En}   (a0 : Int32) (a1 : Int32) (a2 : Int32)  {post : Int32 → St → Prop}   (s0 : Int32) (st : St) (h : P_X12_reckon_103  a0 a1 a2  post s0 st) : Jg l E (CFc E) (Rm 1 0 0) cX12_reckon 3 RX12 (some .int) (fun _ => True) (QI E post 0 0) 0 0 103 [(0, .int a0), (1, .int a1), (2, .int a2)] [.int s0] st := by
  unfold P_X12_reckon_103 at h
  exact J_reti rfl dX12_reckon_103 h
set_option maxRecDepth 100000 in
set_option maxHeartbeats 4000000 in
theorem K_X12_reckon_102 {l : Launch} {E : En}   (a0 : Int32) (a1 : Int32) (a2 : Int32)  {post : Int32 → St → Prop}    (st : St) (h : P_X12_reckon_102  a0 a1 a2  post  st) : Jg l E (CFc E) (Rm 1 0 0) cX12_reckon 3 RX12 (some .int) (fun _ => True) (QI E post 0 0) 0 0 102 [(0, .int a0), (1, .int a1), (2, .int a2)] [] st := by
  unfold P_X12_reckon_102 at h
  refine J_iconst 0 dX12_reckon_102 (by decide) ?_
  exact J_lv [0, 1, 2] rfl (K_X12_reckon_103   a0 a1 a2  0 st h)
set_option maxRecDepth 100000 in
set_option maxHeartbeats 4000000 in
theorem K_X12_reckon_89 {l : Launch} {E : En}   (a0 : Int32) (a1 : Int32) (a2 : Int32)  {post : Int32 → St → Prop}   (s0 : Int32) (st : St) (h : P_X12_reckon_89  a0 a1 a2  post s0 st) : Jg l E (CFc E) (Rm 1 0 0) cX12_reckon 3 RX12 (some .int) (fun _ => True) (QI E post 0 0) 0 0 89 [(0, .int a0), (1, .int a1), (2, .int a2)] [.int s0] st := by
  unfold P_X12_reckon_89 at h
  exact J_reti rfl dX12_reckon_89 h
set_option maxRecDepth 100000 in
set_option maxHeartbeats 4000000 in
theorem K_X12_reckon_78 {l : Launch} {E : En}   (a0 : Int32) (a1 : Int32) (a2 : Int32)  {post : Int32 → St → Prop}   (s0 : Int32) (st : St) (h : P_X12_reckon_78  a0 a1 a2  post s0 st) : Jg l E (CFc E) (Rm 1 0 0) cX12_reckon 3 RX12 (some .int) (fun _ => True) (QI E post 0 0) 0 0 78 [(0, .int a0), (1, .int a1), (2, .int a2)] [.int s0] st := by
  unfold P_X12_reckon_78 at h
  exact J_reti rfl dX12_reckon_78 h
set_option maxRecDepth 100000 in
set_option maxHeartbeats 4000000 in
theorem K_X12_reckon_67 {l : Launch} {E : En}   (a0 : Int32) (a1 : Int32) (a2 : Int32)  {post : Int32 → St → Prop}   (s0 : Int32) (st : St) (h : P_X12_reckon_67  a0 a1 a2  post s0 st) : Jg l E (CFc E) (Rm 1 0 0) cX12_reckon 3 RX12 (some .int) (fun _ => True) (QI E post 0 0) 0 0 67 [(0, .int a0), (1, .int a1), (2, .int a2)] [.int s0] st := by
  unfold P_X12_reckon_67 at h
  exact J_reti rfl dX12_reckon_67 h
set_option maxRecDepth 100000 in
set_option maxHeartbeats 4000000 in
theorem ct_X12_reckon {l : Launch} {E : En}  {a0 : Int32} {a1 : Int32} {a2 : Int32} {st : St} {post : Int32 → St → Prop} (h : P_X12_reckon  a0 a1 a2 st post) : CtI l E (CFc E) 1 0 0 yX12_reckon cX12_reckon 3 (some .int) [.int a0, .int a1, .int a2] st post := by
  refine ctI_of (by decide) (Nat.le_of_ble_eq_true rfl) ?_
  show Jg l E (CFc E) (Rm 1 0 0) cX12_reckon 3 RX12 (some .int) (fun _ => True) (QI E post 0 0) 0 0 0 [(0, .int a0), (1, .int a1), (2, .int a2)] [] st
  unfold P_X12_reckon at h
  refine J_iload_n 0 dX12_reckon_0 rfl rfl ?_
  rcases (show (a0 : Int32).toInt < -26 ∨ (a0 : Int32).toInt = -26 ∨ (a0 : Int32).toInt = -25 ∨ (a0 : Int32).toInt = -24 ∨ (a0 : Int32).toInt = -23 ∨ (a0 : Int32).toInt = -22 ∨ (a0 : Int32).toInt = -21 ∨ (a0 : Int32).toInt = -20 ∨ -20 < (a0 : Int32).toInt by omega) with hc | hc | hc | hc | hc | hc | hc | hc | hc
  · have h := h.1 (Or.inl hc)
    refine J_tsOut 104 dX12_reckon_1 (Or.inl hc) (by decide) ?_
    refine J_iload_n 1 dX12_reckon_104 rfl rfl ?_
    refine J_if_ne 112 dX12_reckon_105 (by decide) (fun hc => ?_) (fun hc => ?_)
    · have h := h.1 hc
      exact J_lv [0, 1, 2] rfl (K_X12_reckon_112   a0 a1 a2  st h)
    · have h := h.2 hc
      refine J_iload_n 2 dX12_reckon_108 rfl rfl ?_
      refine J_if_eq 116 dX12_reckon_109 (by decide) (fun hc => ?_) (fun hc => ?_)
      · have h := h.1 hc
        refine J_iconst 0 dX12_reckon_116 (by decide) ?_
        exact J_lv [0, 1, 2] rfl (K_X12_reckon_117   a0 a1 a2  0 st h)
      · have h := h.2 hc
        exact J_lv [0, 1, 2] rfl (K_X12_reckon_112   a0 a1 a2  st h)
  · have h := h.2.1 hc
    refine J_tsIn 90 (-26) dX12_reckon_1 hc (by decide) (by decide) rfl (by decide) ?_
    refine J_iload_n 1 dX12_reckon_90 rfl rfl ?_
    refine J_if_eq 102 dX12_reckon_91 (by decide) (fun hc => ?_) (fun hc => ?_)
    · have h := h.1 hc
      exact J_lv [0, 1, 2] rfl (K_X12_reckon_102   a0 a1 a2  st h)
    · have h := h.2 hc
      refine J_iload_n 2 dX12_reckon_94 rfl rfl ?_
      refine J_if_eq 102 dX12_reckon_95 (by decide) (fun hc => ?_) (fun hc => ?_)
      · have h := h.1 hc
        exact J_lv [0, 1, 2] rfl (K_X12_reckon_102   a0 a1 a2  st h)
      · have h := h.2 hc
        refine J_iconst 1 dX12_reckon_98 (by decide) ?_
        refine J_goto 103 dX12_reckon_99 (by decide) ?_
        exact J_lv [0, 1, 2] rfl (K_X12_reckon_103   a0 a1 a2  1 st h)
  · have h := h.2.2.1 hc
    refine J_tsIn 79 (-25) dX12_reckon_1 hc (by decide) (by decide) rfl (by decide) ?_
    refine J_iload_n 1 dX12_reckon_79 rfl rfl ?_
    refine J_iload_n 2 dX12_reckon_80 rfl rfl ?_
    refine J_icmp_ne 88 dX12_reckon_81 (by decide) (fun hc => ?_) (fun hc => ?_)
    · have h := h.1 hc
      refine J_iconst 0 dX12_reckon_88 (by decide) ?_
      exact J_lv [0, 1, 2] rfl (K_X12_reckon_89   a0 a1 a2  0 st h)
    · have h := h.2 hc
      refine J_iconst 1 dX12_reckon_84 (by decide) ?_
      refine J_goto 89 dX12_reckon_85 (by decide) ?_
      exact J_lv [0, 1, 2] rfl (K_X12_reckon_89   a0 a1 a2  1 st h)
  · have h := h.2.2.2.1 hc
    refine J_tsIn 68 (-24) dX12_reckon_1 hc (by decide) (by decide) rfl (by decide) ?_
    refine J_iload_n 1 dX12_reckon_68 rfl rfl ?_
    refine J_iload_n 2 dX12_reckon_69 rfl rfl ?_
    refine J_icmp_ge 77 dX12_reckon_70 (by decide) (fun hc => ?_) (fun hc => ?_)
    · have h := h.1 hc
      refine J_iconst 0 dX12_reckon_77 (by decide) ?_
      exact J_lv [0, 1, 2] rfl (K_X12_reckon_78   a0 a1 a2  0 st h)
    · have h := h.2 hc
      refine J_iconst 1 dX12_reckon_73 (by decide) ?_
      refine J_goto 78 dX12_reckon_74 (by decide) ?_
      exact J_lv [0, 1, 2] rfl (K_X12_reckon_78   a0 a1 a2  1 st h)
  · have h := h.2.2.2.2.1 hc
    refine J_tsIn 56 (-23) dX12_reckon_1 hc (by decide) (by decide) rfl (by decide) ?_
    refine J_iload_n 2 dX12_reckon_56 rfl rfl ?_
    refine J_if_ne 64 dX12_reckon_57 (by decide) (fun hc => ?_) (fun hc => ?_)
    · have h := h.1 hc
      refine J_iload_n 1 dX12_reckon_64 rfl rfl ?_
      refine J_iload_n 2 dX12_reckon_65 rfl rfl ?_
      obtain ⟨hz, h⟩ := h
      refine J_idiv dX12_reckon_66 hz ?_
      exact J_lv [0, 1, 2] rfl (K_X12_reckon_67   a0 a1 a2  (a1 / a2) st h)
    · have h := h.2 hc
      refine J_iconst 0 dX12_reckon_60 (by decide) ?_
      refine J_goto 67 dX12_reckon_61 (by decide) ?_
      exact J_lv [0, 1, 2] rfl (K_X12_reckon_67   a0 a1 a2  0 st h)
  · have h := h.2.2.2.2.2.1 hc
    refine J_tsIn 52 (-22) dX12_reckon_1 hc (by decide) (by decide) rfl (by decide) ?_
    refine J_iload_n 1 dX12_reckon_52 rfl rfl ?_
    refine J_iload_n 2 dX12_reckon_53 rfl rfl ?_
    refine J_imul dX12_reckon_54 ?_
    exact J_reti rfl dX12_reckon_55 h
  · have h := h.2.2.2.2.2.2.1 hc
    refine J_tsIn 48 (-21) dX12_reckon_1 hc (by decide) (by decide) rfl (by decide) ?_
    refine J_iload_n 1 dX12_reckon_48 rfl rfl ?_
    refine J_iload_n 2 dX12_reckon_49 rfl rfl ?_
    refine J_isub dX12_reckon_50 ?_
    exact J_reti rfl dX12_reckon_51 h
  · have h := h.2.2.2.2.2.2.2.1 hc
    refine J_tsIn 44 (-20) dX12_reckon_1 hc (by decide) (by decide) rfl (by decide) ?_
    refine J_iload_n 1 dX12_reckon_44 rfl rfl ?_
    refine J_iload_n 2 dX12_reckon_45 rfl rfl ?_
    refine J_iadd dX12_reckon_46 ?_
    exact J_reti rfl dX12_reckon_47 h
  · have h := h.1 (Or.inr hc)
    refine J_tsOut 104 dX12_reckon_1 (Or.inr hc) (by decide) ?_
    refine J_iload_n 1 dX12_reckon_104 rfl rfl ?_
    refine J_if_ne 112 dX12_reckon_105 (by decide) (fun hc => ?_) (fun hc => ?_)
    · have h := h.1 hc
      exact J_lv [0, 1, 2] rfl (K_X12_reckon_112   a0 a1 a2  st h)
    · have h := h.2 hc
      refine J_iload_n 2 dX12_reckon_108 rfl rfl ?_
      refine J_if_eq 116 dX12_reckon_109 (by decide) (fun hc => ?_) (fun hc => ?_)
      · have h := h.1 hc
        refine J_iconst 0 dX12_reckon_116 (by decide) ?_
        exact J_lv [0, 1, 2] rfl (K_X12_reckon_117   a0 a1 a2  0 st h)
      · have h := h.2 hc
        exact J_lv [0, 1, 2] rfl (K_X12_reckon_112   a0 a1 a2  st h)
/-! X12_valueNow -/
def P_X12_valueNow_119  (a0 : Nat) (a1 : Nat) (a2 : Int32) (k5 : Int32 → Int32 → St → Prop) (post : Int32 → St → Prop) (x3 : Int32) (x4 : Int32) (st : St) : Prop := k5 x3 (x4 + 1) st
def P_X12_valueNow_85  (a0 : Nat) (a1 : Nat) (a2 : Int32) (k5 : Int32 → Int32 → St → Prop) (post : Int32 → St → Prop) (x3 : Int32) (x4 : Int32) (s0 : Int32) (s1 : Int32) (s2 : Nat) (st : St) : Prop := vp_in s1 (al 0 s2) ∧ P_X12_valueNow_119  a0 a1 a2 k5 post x3 x4 (sA st s2 (s1 : Int32).toNatClampNeg s0)
def P_X12_valueNow_48  (a0 : Nat) (a1 : Nat) (a2 : Int32) (k5 : Int32 → Int32 → St → Prop) (post : Int32 → St → Prop) (x3 : Int32) (x4 : Int32) (s0 : Int32) (s1 : Int32) (s2 : Nat) (st : St) : Prop := vp_in s1 (al 0 s2) ∧ P_X12_valueNow_119  a0 a1 a2 k5 post (x3 + 1) x4 (sA st s2 (s1 : Int32).toNatClampNeg s0)
def P_X12_valueNow_5  (a0 : Nat) (a1 : Nat) (a2 : Int32)  (post : Int32 → St → Prop) : Nat → Int32 → Int32 → St → Prop
  | 0, _, _, _ => False
  | n9 + 1, x3, x4, st => ((a2 ≤ x4 → ∃ r_1, rv st a0 12 41 = some r_1 ∧ vp_in 0 (al 0 r_1) ∧ post (gA st r_1 (0 : Int32).toNatClampNeg) st) ∧ (¬ a2 ≤ x4 → vp_in x4 (al 0 a1) ∧ (((gA st a1 (x4 : Int32).toNatClampNeg) ≤ (-20) → ((¬ (gA st a1 (x4 : Int32).toNatClampNeg) = (-28) → ∃ r_2, rv st a0 12 41 = some r_2 ∧ ∃ r_3, rv st a0 12 41 = some r_3 ∧ vp_in ((x3 + (-1)) - 1) (al 0 r_3) ∧ ∃ r_4, rv st a0 12 41 = some r_4 ∧ vp_in (x3 + (-1)) (al 0 r_4) ∧ P_X12_reckon  (gA st a1 (x4 : Int32).toNatClampNeg) (gA st r_3 ((x3 + (-1)) - 1 : Int32).toNatClampNeg) (gA st r_4 (x3 + (-1) : Int32).toNatClampNeg) st (fun z_5 st_6 => vp_in ((x3 + (-1)) - 1) (al 0 r_2) ∧ P_X12_valueNow_119  a0 a1 a2 (fun x3 x4 st => P_X12_valueNow_5  a0 a1 a2  post n9 x3 x4 st) post (x3 + (-1)) x4 (sA st_6 r_2 ((x3 + (-1)) - 1 : Int32).toNatClampNeg z_5))) ∧ ((gA st a1 (x4 : Int32).toNatClampNeg) = (-28) → ∃ r_7, rv st a0 12 41 = some r_7 ∧ ∃ r_8, rv st a0 12 41 = some r_8 ∧ vp_in (x3 - 1) (al 0 r_8) ∧ (((gA st r_8 (x3 - 1 : Int32).toNatClampNeg) = 0 → P_X12_valueNow_85  a0 a1 a2 (fun x3 x4 st => P_X12_valueNow_5  a0 a1 a2  post n9 x3 x4 st) post x3 x4 1 (x3 - 1) r_7 st) ∧ (¬ (gA st r_8 (x3 - 1 : Int32).toNatClampNeg) = 0 → P_X12_valueNow_85  a0 a1 a2 (fun x3 x4 st => P_X12_valueNow_5  a0 a1 a2  post n9 x3 x4 st) post x3 x4 0 (x3 - 1) r_7 st))))) ∧ (¬ (gA st a1 (x4 : Int32).toNatClampNeg) ≤ (-20) → ∃ r_9, rv st a0 12 41 = some r_9 ∧ (((gA st a1 (x4 : Int32).toNatClampNeg) < 0 → ∃ r_10, rv st a0 12 40 = some r_10 ∧ vp_in ((-1) - (gA st a1 (x4 : Int32).toNatClampNeg)) (al 0 r_10) ∧ P_X12_valueNow_48  a0 a1 a2 (fun x3 x4 st => P_X12_valueNow_5  a0 a1 a2  post n9 x3 x4 st) post x3 x4 (gA st r_10 ((-1) - (gA st a1 (x4 : Int32).toNatClampNeg) : Int32).toNatClampNeg) x3 r_9 st) ∧ (¬ (gA st a1 (x4 : Int32).toNatClampNeg) < 0 → P_X12_valueNow_48  a0 a1 a2 (fun x3 x4 st => P_X12_valueNow_5  a0 a1 a2  post n9 x3 x4 st) post x3 x4 (gA st a1 (x4 : Int32).toNatClampNeg) x3 r_9 st))))))
def P_X12_valueNow  (a0 : Nat) (a1 : Nat) (a2 : Int32) (st : St) (post : Int32 → St → Prop) : Prop := ∃ n8, P_X12_valueNow_5  a0 a1 a2  post n8 0 0 st
set_option maxRecDepth 100000 in
set_option maxHeartbeats 4000000 in
theorem K_X12_valueNow_119 {l : Launch} {E : En}   (a0 : Nat) (a1 : Nat) (a2 : Int32) {k5 : Int32 → Int32 → St → Prop} {post : Int32 → St → Prop}  (hk5 : ∀ (x3 : Int32) (x4 : Int32) (st : St), k5 x3 x4 st → Jg l E (CFc E) (Rm 2 0 0) cX12_valueNow 6 RX12 (some .int) (fun _ => True) (QI E post 0 0) 0 0 5 [(0, .ref a0), (1, .ref a1), (2, .int a2), (3, .int x3), (4, .int x4)] [] st) (x3 : Int32) (x4 : Int32) (st : St) (h : P_X12_valueNow_119  a0 a1 a2 k5 post x3 x4 st) : Jg l E (CFc E) (Rm 2 0 0) cX12_valueNow 6 RX12 (some .int) (fun _ => True) (QI E post 0 0) 0 0 119 [(0, .ref a0), (1, .ref a1), (2, .int a2), (3, .int x3), (4, .int x4)] [] st := by
  unfold P_X12_valueNow_119 at h
  refine J_iinc 4 (x4 + 1) _ dX12_valueNow_119 rfl (by rfl) (by decide) rfl ?_
  refine J_goto 5 dX12_valueNow_122 (by decide) ?_
  exact J_lv [1, 2, 3, 4, 0] rfl (hk5 x3 (x4 + 1) st h)
set_option maxRecDepth 100000 in
set_option maxHeartbeats 4000000 in
theorem K_X12_valueNow_85 {l : Launch} {E : En}   (a0 : Nat) (a1 : Nat) (a2 : Int32) {k5 : Int32 → Int32 → St → Prop} {post : Int32 → St → Prop}  (hk5 : ∀ (x3 : Int32) (x4 : Int32) (st : St), k5 x3 x4 st → Jg l E (CFc E) (Rm 2 0 0) cX12_valueNow 6 RX12 (some .int) (fun _ => True) (QI E post 0 0) 0 0 5 [(0, .ref a0), (1, .ref a1), (2, .int a2), (3, .int x3), (4, .int x4)] [] st) (x3 : Int32) (x4 : Int32) (s0 : Int32) (s1 : Int32) (s2 : Nat) (st : St) (h : P_X12_valueNow_85  a0 a1 a2 k5 post x3 x4 s0 s1 s2 st) : Jg l E (CFc E) (Rm 2 0 0) cX12_valueNow 6 RX12 (some .int) (fun _ => True) (QI E post 0 0) 0 0 85 [(0, .ref a0), (1, .ref a1), (2, .int a2), (3, .int x3), (4, .int x4)] [.int s0, .int s1, .ref s2] st := by
  unfold P_X12_valueNow_85 at h
  obtain ⟨hi, h⟩ := h
  refine J_iast dX12_valueNow_85 hi ?_
  refine J_goto 119 dX12_valueNow_86 (by decide) ?_
  exact J_lv [0, 1, 2, 3, 4] rfl (K_X12_valueNow_119   a0 a1 a2 hk5 x3 x4 (sA st s2 (s1 : Int32).toNatClampNeg s0) h)
set_option maxRecDepth 100000 in
set_option maxHeartbeats 4000000 in
theorem K_X12_valueNow_48 {l : Launch} {E : En}   (a0 : Nat) (a1 : Nat) (a2 : Int32) {k5 : Int32 → Int32 → St → Prop} {post : Int32 → St → Prop}  (hk5 : ∀ (x3 : Int32) (x4 : Int32) (st : St), k5 x3 x4 st → Jg l E (CFc E) (Rm 2 0 0) cX12_valueNow 6 RX12 (some .int) (fun _ => True) (QI E post 0 0) 0 0 5 [(0, .ref a0), (1, .ref a1), (2, .int a2), (3, .int x3), (4, .int x4)] [] st) (x3 : Int32) (x4 : Int32) (s0 : Int32) (s1 : Int32) (s2 : Nat) (st : St) (h : P_X12_valueNow_48  a0 a1 a2 k5 post x3 x4 s0 s1 s2 st) : Jg l E (CFc E) (Rm 2 0 0) cX12_valueNow 6 RX12 (some .int) (fun _ => True) (QI E post 0 0) 0 0 48 [(0, .ref a0), (1, .ref a1), (2, .int a2), (3, .int x3), (4, .int x4)] [.int s0, .int s1, .ref s2] st := by
  unfold P_X12_valueNow_48 at h
  obtain ⟨hi, h⟩ := h
  refine J_iast dX12_valueNow_48 hi ?_
  refine J_iinc 3 (x3 + 1) _ dX12_valueNow_49 rfl (by rfl) (by decide) rfl ?_
  refine J_goto 119 dX12_valueNow_52 (by decide) ?_
  exact J_lv [1, 2, 3, 0, 4] rfl (K_X12_valueNow_119   a0 a1 a2 hk5 (x3 + 1) x4 (sA st s2 (s1 : Int32).toNatClampNeg s0) h)
set_option maxRecDepth 100000 in
set_option maxHeartbeats 4000000 in
theorem K_X12_valueNow_5 {l : Launch} {E : En}   (a0 : Nat) (a1 : Nat) (a2 : Int32)  {post : Int32 → St → Prop}   : ∀ (n9 : Nat) (x3 : Int32) (x4 : Int32) (st : St), P_X12_valueNow_5  a0 a1 a2  post n9 x3 x4 st → Jg l E (CFc E) (Rm 2 0 0) cX12_valueNow 6 RX12 (some .int) (fun _ => True) (QI E post 0 0) 0 0 5 [(0, .ref a0), (1, .ref a1), (2, .int a2), (3, .int x3), (4, .int x4)] [] st := by
  intro n9
  induction n9 with
  | zero => intro x3 x4 st h; exact h.elim
  | succ n9 ih =>
    intro x3 x4 st h
    unfold P_X12_valueNow_5 at h
    refine J_iload 4 dX12_valueNow_5 rfl ?_
    refine J_iload_n 2 dX12_valueNow_7 rfl rfl ?_
    refine J_icmp_ge 125 dX12_valueNow_8 (by decide) (fun hc => ?_) (fun hc => ?_)
    · have h := h.1 hc
      refine J_aload_n 0 dX12_valueNow_125 rfl rfl ?_
      obtain ⟨r_1, hf, h⟩ := h
      refine J_getR fl_RX12_114 dX12_valueNow_126 hf ?_
      refine J_iconst 0 dX12_valueNow_129 (by decide) ?_
      obtain ⟨hi, h⟩ := h
      refine J_iald dX12_valueNow_130 hi ?_
      exact J_reti rfl dX12_valueNow_131 h
    · have h := h.2 hc
      refine J_aload_n 1 dX12_valueNow_11 rfl rfl ?_
      refine J_iload 4 dX12_valueNow_12 rfl ?_
      obtain ⟨hi, h⟩ := h
      refine J_iald dX12_valueNow_14 hi ?_
      refine J_istore _ dX12_valueNow_15 (by decide) rfl ?_
      refine J_iload 0 dX12_valueNow_17 rfl ?_
      refine J_bipush (-20) dX12_valueNow_19 (by decide) ?_
      refine J_icmp_le 55 dX12_valueNow_21 (by decide) (fun hc => ?_) (fun hc => ?_)
      · have h := h.1 hc
        refine J_iload 0 dX12_valueNow_55 rfl ?_
        refine J_bipush (-28) dX12_valueNow_57 (by decide) ?_
        refine J_icmp_ne 89 dX12_valueNow_59 (by decide) (fun hc => ?_) (fun hc => ?_)
        · have h := h.1 hc
          refine J_iinc 4 (x3 + (-1)) _ dX12_valueNow_89 rfl (by rfl) (by decide) rfl ?_
          refine J_aload_n 2 dX12_valueNow_92 rfl rfl ?_
          obtain ⟨r_2, hf, h⟩ := h
          refine J_getR fl_RX12_114 dX12_valueNow_93 hf ?_
          refine J_iload_n 0 dX12_valueNow_96 rfl rfl ?_
          refine J_iconst 1 dX12_valueNow_97 (by decide) ?_
          refine J_isub dX12_valueNow_98 ?_
          refine J_iload 1 dX12_valueNow_99 rfl ?_
          refine J_aload_n 2 dX12_valueNow_101 rfl rfl ?_
          obtain ⟨r_3, hf, h⟩ := h
          refine J_getR fl_RX12_114 dX12_valueNow_102 hf ?_
          refine J_iload_n 0 dX12_valueNow_105 rfl rfl ?_
          refine J_iconst 1 dX12_valueNow_106 (by decide) ?_
          refine J_isub dX12_valueNow_107 ?_
          obtain ⟨hi, h⟩ := h
          refine J_iald dX12_valueNow_108 hi ?_
          refine J_aload_n 2 dX12_valueNow_109 rfl rfl ?_
          obtain ⟨r_4, hf, h⟩ := h
          refine J_getR fl_RX12_114 dX12_valueNow_110 hf ?_
          refine J_iload_n 0 dX12_valueNow_113 rfl rfl ?_
          obtain ⟨hi, h⟩ := h
          refine J_iald dX12_valueNow_114 hi ?_
          refine J_csi (As := [_, _, _]) md_X12_reckon k_1108 rfl rfl ⟨Nat.le_of_ble_eq_true rfl, Nat.le_of_ble_eq_true rfl⟩ ⟨Nat.le_of_ble_eq_true rfl, Nat.le_of_ble_eq_true rfl⟩ (Nat.le_of_ble_eq_true rfl) dX12_valueNow_115 (ct_X12_reckon  h) (fun z_5 st_6 h => ?_)
          obtain ⟨hi, h⟩ := h
          refine J_iast dX12_valueNow_118 hi ?_
          exact J_lv [2, 3, 4, 0, 5] rfl (K_X12_valueNow_119   a0 a1 a2 (fun x3 x4 st h => ih x3 x4 st h) (x3 + (-1)) x4 (sA st_6 r_2 ((x3 + (-1)) - 1 : Int32).toNatClampNeg z_5) h)
        · have h := h.2 hc
          refine J_aload_n 1 dX12_valueNow_62 rfl rfl ?_
          obtain ⟨r_7, hf, h⟩ := h
          refine J_getR fl_RX12_114 dX12_valueNow_63 hf ?_
          refine J_iload_n 4 dX12_valueNow_66 rfl rfl ?_
          refine J_iconst 1 dX12_valueNow_67 (by decide) ?_
          refine J_isub dX12_valueNow_68 ?_
          refine J_aload_n 1 dX12_valueNow_69 rfl rfl ?_
          obtain ⟨r_8, hf, h⟩ := h
          refine J_getR fl_RX12_114 dX12_valueNow_70 hf ?_
          refine J_iload_n 4 dX12_valueNow_73 rfl rfl ?_
          refine J_iconst 1 dX12_valueNow_74 (by decide) ?_
          refine J_isub dX12_valueNow_75 ?_
          obtain ⟨hi, h⟩ := h
          refine J_iald dX12_valueNow_76 hi ?_
          refine J_if_eq 84 dX12_valueNow_77 (by decide) (fun hc => ?_) (fun hc => ?_)
          · have h := h.1 hc
            refine J_iconst 1 dX12_valueNow_84 (by decide) ?_
            exact J_lv [1, 2, 3, 4, 5] rfl (K_X12_valueNow_85   a0 a1 a2 (fun x3 x4 st h => ih x3 x4 st h) x3 x4 1 (x3 - 1) r_7 st h)
          · have h := h.2 hc
            refine J_iconst 0 dX12_valueNow_80 (by decide) ?_
            refine J_goto 85 dX12_valueNow_81 (by decide) ?_
            exact J_lv [1, 2, 3, 4, 5] rfl (K_X12_valueNow_85   a0 a1 a2 (fun x3 x4 st h => ih x3 x4 st h) x3 x4 0 (x3 - 1) r_7 st h)
      · have h := h.2 hc
        refine J_aload_n 1 dX12_valueNow_24 rfl rfl ?_
        obtain ⟨r_9, hf, h⟩ := h
        refine J_getR fl_RX12_114 dX12_valueNow_25 hf ?_
        refine J_iload_n 4 dX12_valueNow_28 rfl rfl ?_
        refine J_iload 0 dX12_valueNow_29 rfl ?_
        refine J_if_lt 39 dX12_valueNow_31 (by decide) (fun hc => ?_) (fun hc => ?_)
        · have h := h.1 hc
          refine J_aload_n 1 dX12_valueNow_39 rfl rfl ?_
          obtain ⟨r_10, hf, h⟩ := h
          refine J_getR fl_RX12_111 dX12_valueNow_40 hf ?_
          refine J_iconst (-1) dX12_valueNow_43 (by decide) ?_
          refine J_iload 0 dX12_valueNow_44 rfl ?_
          refine J_isub dX12_valueNow_46 ?_
          obtain ⟨hi, h⟩ := h
          refine J_iald dX12_valueNow_47 hi ?_
          exact J_lv [1, 2, 3, 4, 5] rfl (K_X12_valueNow_48   a0 a1 a2 (fun x3 x4 st h => ih x3 x4 st h) x3 x4 (gA st r_10 ((-1) - (gA st a1 (x4 : Int32).toNatClampNeg) : Int32).toNatClampNeg) x3 r_9 st h)
        · have h := h.2 hc
          refine J_iload 0 dX12_valueNow_34 rfl ?_
          refine J_goto 48 dX12_valueNow_36 (by decide) ?_
          exact J_lv [1, 2, 3, 4, 5] rfl (K_X12_valueNow_48   a0 a1 a2 (fun x3 x4 st h => ih x3 x4 st h) x3 x4 (gA st a1 (x4 : Int32).toNatClampNeg) x3 r_9 st h)
set_option maxRecDepth 100000 in
set_option maxHeartbeats 4000000 in
theorem ct_X12_valueNow {l : Launch} {E : En}  {a0 : Nat} {a1 : Nat} {a2 : Int32} {st : St} {post : Int32 → St → Prop} (h : P_X12_valueNow  a0 a1 a2 st post) : CtI l E (CFc E) 2 0 0 yX12_valueNow cX12_valueNow 6 (some .int) [.ref a0, .ref a1, .int a2] st post := by
  refine ctI_of (by decide) (Nat.le_of_ble_eq_true rfl) ?_
  show Jg l E (CFc E) (Rm 2 0 0) cX12_valueNow 6 RX12 (some .int) (fun _ => True) (QI E post 0 0) 0 0 0 [(0, .ref a0), (1, .ref a1), (2, .int a2)] [] st
  unfold P_X12_valueNow at h
  refine J_iconst 0 dX12_valueNow_0 (by decide) ?_
  refine J_istore_n _ dX12_valueNow_1 rfl (by decide) rfl ?_
  refine J_iconst 0 dX12_valueNow_2 (by decide) ?_
  refine J_istore _ dX12_valueNow_3 (by decide) rfl ?_
  obtain ⟨n8, h⟩ := h
  exact J_lv [2, 3, 4, 1, 0] rfl (K_X12_valueNow_5   a0 a1 a2  n8 0 0 st h)
/-! X12_ask -/
def P_X12_ask  (a0 : Nat) (a1 : Int32) (st : St) (post : St → Prop) : Prop := ∃ r_1, rv st a0 12 40 = some r_1 ∧ ∃ r_2, rv st a0 12 27 = some r_2 ∧ vp_in a1 (al 0 r_2) ∧ vp_in 0 (al 0 r_1) ∧ ∃ r_3, rv (sA st r_1 (0 : Int32).toNatClampNeg (gA st r_2 (a1 : Int32).toNatClampNeg)) a0 12 40 = some r_3 ∧ ∃ r_4, rv (sA st r_1 (0 : Int32).toNatClampNeg (gA st r_2 (a1 : Int32).toNatClampNeg)) a0 12 29 = some r_4 ∧ vp_in a1 (al 0 r_4) ∧ vp_in 1 (al 0 r_3) ∧ ∃ r_5, rv (sA (sA st r_1 (0 : Int32).toNatClampNeg (gA st r_2 (a1 : Int32).toNatClampNeg)) r_3 (1 : Int32).toNatClampNeg (gA (sA st r_1 (0 : Int32).toNatClampNeg (gA st r_2 (a1 : Int32).toNatClampNeg)) r_4 (a1 : Int32).toNatClampNeg)) a0 12 40 = some r_5 ∧ ∃ r_6, rv (sA (sA st r_1 (0 : Int32).toNatClampNeg (gA st r_2 (a1 : Int32).toNatClampNeg)) r_3 (1 : Int32).toNatClampNeg (gA (sA st r_1 (0 : Int32).toNatClampNeg (gA st r_2 (a1 : Int32).toNatClampNeg)) r_4 (a1 : Int32).toNatClampNeg)) a0 12 6 = some r_6 ∧ vp_in a1 (al 0 r_6) ∧ vp_in 2 (al 0 r_5) ∧ ∃ r_7, rv (sA (sA (sA st r_1 (0 : Int32).toNatClampNeg (gA st r_2 (a1 : Int32).toNatClampNeg)) r_3 (1 : Int32).toNatClampNeg (gA (sA st r_1 (0 : Int32).toNatClampNeg (gA st r_2 (a1 : Int32).toNatClampNeg)) r_4 (a1 : Int32).toNatClampNeg)) r_5 (2 : Int32).toNatClampNeg (gA (sA (sA st r_1 (0 : Int32).toNatClampNeg (gA st r_2 (a1 : Int32).toNatClampNeg)) r_3 (1 : Int32).toNatClampNeg (gA (sA st r_1 (0 : Int32).toNatClampNeg (gA st r_2 (a1 : Int32).toNatClampNeg)) r_4 (a1 : Int32).toNatClampNeg)) r_6 (a1 : Int32).toNatClampNeg)) a0 12 40 = some r_7 ∧ ∃ r_8, rv (sA (sA (sA st r_1 (0 : Int32).toNatClampNeg (gA st r_2 (a1 : Int32).toNatClampNeg)) r_3 (1 : Int32).toNatClampNeg (gA (sA st r_1 (0 : Int32).toNatClampNeg (gA st r_2 (a1 : Int32).toNatClampNeg)) r_4 (a1 : Int32).toNatClampNeg)) r_5 (2 : Int32).toNatClampNeg (gA (sA (sA st r_1 (0 : Int32).toNatClampNeg (gA st r_2 (a1 : Int32).toNatClampNeg)) r_3 (1 : Int32).toNatClampNeg (gA (sA st r_1 (0 : Int32).toNatClampNeg (gA st r_2 (a1 : Int32).toNatClampNeg)) r_4 (a1 : Int32).toNatClampNeg)) r_6 (a1 : Int32).toNatClampNeg)) a0 12 30 = some r_8 ∧ vp_in a1 (al 0 r_8) ∧ P_X12_bitsOf  (gA (sA (sA (sA st r_1 (0 : Int32).toNatClampNeg (gA st r_2 (a1 : Int32).toNatClampNeg)) r_3 (1 : Int32).toNatClampNeg (gA (sA st r_1 (0 : Int32).toNatClampNeg (gA st r_2 (a1 : Int32).toNatClampNeg)) r_4 (a1 : Int32).toNatClampNeg)) r_5 (2 : Int32).toNatClampNeg (gA (sA (sA st r_1 (0 : Int32).toNatClampNeg (gA st r_2 (a1 : Int32).toNatClampNeg)) r_3 (1 : Int32).toNatClampNeg (gA (sA st r_1 (0 : Int32).toNatClampNeg (gA st r_2 (a1 : Int32).toNatClampNeg)) r_4 (a1 : Int32).toNatClampNeg)) r_6 (a1 : Int32).toNatClampNeg)) r_8 (a1 : Int32).toNatClampNeg) (sA (sA (sA st r_1 (0 : Int32).toNatClampNeg (gA st r_2 (a1 : Int32).toNatClampNeg)) r_3 (1 : Int32).toNatClampNeg (gA (sA st r_1 (0 : Int32).toNatClampNeg (gA st r_2 (a1 : Int32).toNatClampNeg)) r_4 (a1 : Int32).toNatClampNeg)) r_5 (2 : Int32).toNatClampNeg (gA (sA (sA st r_1 (0 : Int32).toNatClampNeg (gA st r_2 (a1 : Int32).toNatClampNeg)) r_3 (1 : Int32).toNatClampNeg (gA (sA st r_1 (0 : Int32).toNatClampNeg (gA st r_2 (a1 : Int32).toNatClampNeg)) r_4 (a1 : Int32).toNatClampNeg)) r_6 (a1 : Int32).toNatClampNeg)) (fun z_9 st_10 => vp_in 3 (al 0 r_7) ∧ ∃ r_11, rv (sA st_10 r_7 (3 : Int32).toNatClampNeg z_9) a0 12 40 = some r_11 ∧ fk a0 12 36 = some 0 ∧ vp_in 4 (al 0 r_11) ∧ post (sA (sA st_10 r_7 (3 : Int32).toNatClampNeg z_9) r_11 (4 : Int32).toNatClampNeg (gI (sA st_10 r_7 (3 : Int32).toNatClampNeg z_9) a0 36)))
set_option maxRecDepth 100000 in
set_option maxHeartbeats 4000000 in
theorem ct_X12_ask {l : Launch} {E : En}  {a0 : Nat} {a1 : Int32} {st : St} {post : St → Prop} (h : P_X12_ask  a0 a1 st post) : CtV l E (CFc E) 2 0 0 yX12_ask cX12_ask 2 none [.ref a0, .int a1] st post := by
  refine ctV_of (by decide) (Nat.le_of_ble_eq_true rfl) ?_
  show Jg l E (CFc E) (Rm 2 0 0) cX12_ask 2 RX12 none (fun _ => True) (QV E post 0 0) 0 0 0 [(0, .ref a0), (1, .int a1)] [] st
  unfold P_X12_ask at h
  refine J_aload_n 0 dX12_ask_0 rfl rfl ?_
  obtain ⟨r_1, hf, h⟩ := h
  refine J_getR fl_RX12_111 dX12_ask_1 hf ?_
  refine J_iconst 0 dX12_ask_4 (by decide) ?_
  refine J_aload_n 0 dX12_ask_5 rfl rfl ?_
  obtain ⟨r_2, hf, h⟩ := h
  refine J_getR fl_RX12_85 dX12_ask_6 hf ?_
  refine J_iload_n 1 dX12_ask_9 rfl rfl ?_
  obtain ⟨hi, h⟩ := h
  refine J_iald dX12_ask_10 hi ?_
  obtain ⟨hi, h⟩ := h
  refine J_iast dX12_ask_11 hi ?_
  refine J_aload_n 0 dX12_ask_12 rfl rfl ?_
  obtain ⟨r_3, hf, h⟩ := h
  refine J_getR fl_RX12_111 dX12_ask_13 hf ?_
  refine J_iconst 1 dX12_ask_16 (by decide) ?_
  refine J_aload_n 0 dX12_ask_17 rfl rfl ?_
  obtain ⟨r_4, hf, h⟩ := h
  refine J_getR fl_RX12_90 dX12_ask_18 hf ?_
  refine J_iload_n 1 dX12_ask_21 rfl rfl ?_
  obtain ⟨hi, h⟩ := h
  refine J_iald dX12_ask_22 hi ?_
  obtain ⟨hi, h⟩ := h
  refine J_iast dX12_ask_23 hi ?_
  refine J_aload_n 0 dX12_ask_24 rfl rfl ?_
  obtain ⟨r_5, hf, h⟩ := h
  refine J_getR fl_RX12_111 dX12_ask_25 hf ?_
  refine J_iconst 2 dX12_ask_28 (by decide) ?_
  refine J_aload_n 0 dX12_ask_29 rfl rfl ?_
  obtain ⟨r_6, hf, h⟩ := h
  refine J_getR fl_RX12_52 dX12_ask_30 hf ?_
  refine J_iload_n 1 dX12_ask_33 rfl rfl ?_
  obtain ⟨hi, h⟩ := h
  refine J_iald dX12_ask_34 hi ?_
  obtain ⟨hi, h⟩ := h
  refine J_iast dX12_ask_35 hi ?_
  refine J_aload_n 0 dX12_ask_36 rfl rfl ?_
  obtain ⟨r_7, hf, h⟩ := h
  refine J_getR fl_RX12_111 dX12_ask_37 hf ?_
  refine J_iconst 3 dX12_ask_40 (by decide) ?_
  refine J_aload_n 0 dX12_ask_41 rfl rfl ?_
  obtain ⟨r_8, hf, h⟩ := h
  refine J_getR fl_RX12_93 dX12_ask_42 hf ?_
  refine J_iload_n 1 dX12_ask_45 rfl rfl ?_
  obtain ⟨hi, h⟩ := h
  refine J_iald dX12_ask_46 hi ?_
  refine J_csi (As := [_]) md_X12_bitsOf k_1111 rfl rfl ⟨Nat.le_of_ble_eq_true rfl, Nat.le_of_ble_eq_true rfl⟩ ⟨Nat.le_of_ble_eq_true rfl, Nat.le_of_ble_eq_true rfl⟩ (Nat.le_of_ble_eq_true rfl) dX12_ask_47 (ct_X12_bitsOf  h) (fun z_9 st_10 h => ?_)
  obtain ⟨hi, h⟩ := h
  refine J_iast dX12_ask_50 hi ?_
  refine J_aload_n 0 dX12_ask_51 rfl rfl ?_
  obtain ⟨r_11, hf, h⟩ := h
  refine J_getR fl_RX12_111 dX12_ask_52 hf ?_
  refine J_iconst 4 dX12_ask_55 (by decide) ?_
  refine J_aload_n 0 dX12_ask_56 rfl rfl ?_
  obtain ⟨hf, h⟩ := h
  refine J_getI fl_RX12_342 dX12_ask_57 hf ?_
  obtain ⟨hi, h⟩ := h
  refine J_iast dX12_ask_60 hi ?_
  exact J_retv rfl dX12_ask_61 h
/-! X12_tiedTo -/
def P_X12_tiedTo_36  (a0 : Nat) (a1 : Int32) (k4 : Int32 → Int32 → St → Prop) (post : Int32 → St → Prop) (x3 : Int32) (s0 : Int32) (s1 : Int32) (st : St) : Prop := k4 (s1 ||| s0) (x3 + 1) st
def P_X12_tiedTo_4  (a0 : Nat) (a1 : Int32)  (post : Int32 → St → Prop) : Nat → Int32 → Int32 → St → Prop
  | 0, _, _, _ => False
  | n9 + 1, x2, x3, st => ∃ r_1, rv st a0 12 5 = some r_1 ∧ vp_in 0 (al 0 r_1) ∧ (((gA st r_1 (0 : Int32).toNatClampNeg) ≤ x3 → post x2 st) ∧ (¬ (gA st r_1 (0 : Int32).toNatClampNeg) ≤ x3 → ∃ r_2, rv st a0 12 34 = some r_2 ∧ vp_in ((6 * x3) + a1) (al 0 r_2) ∧ (((gA st r_2 ((6 * x3) + a1 : Int32).toNatClampNeg) ≤ 0 → P_X12_tiedTo_36  a0 a1 (fun x2 x3 st => P_X12_tiedTo_4  a0 a1  post n9 x2 x3 st) post x3 0 x2 st) ∧ (¬ (gA st r_2 ((6 * x3) + a1 : Int32).toNatClampNeg) ≤ 0 → P_X12_tiedTo_36  a0 a1 (fun x2 x3 st => P_X12_tiedTo_4  a0 a1  post n9 x2 x3 st) post x3 ((1 : Int32) <<< ((x3 : Int32) &&& 31)) x2 st))))
def P_X12_tiedTo  (a0 : Nat) (a1 : Int32) (st : St) (post : Int32 → St → Prop) : Prop := ∃ n8, P_X12_tiedTo_4  a0 a1  post n8 0 0 st
set_option maxRecDepth 100000 in
set_option maxHeartbeats 4000000 in
theorem K_X12_tiedTo_36 {l : Launch} {E : En}   (a0 : Nat) (a1 : Int32) {k4 : Int32 → Int32 → St → Prop} {post : Int32 → St → Prop}  (hk4 : ∀ (x2 : Int32) (x3 : Int32) (st : St), k4 x2 x3 st → Jg l E (CFc E) (Rm 1 0 0) cX12_tiedTo 4 RX12 (some .int) (fun _ => True) (QI E post 0 0) 0 0 4 [(0, .ref a0), (1, .int a1), (2, .int x2), (3, .int x3)] [] st) (x3 : Int32) (s0 : Int32) (s1 : Int32) (st : St) (h : P_X12_tiedTo_36  a0 a1 k4 post x3 s0 s1 st) : Jg l E (CFc E) (Rm 1 0 0) cX12_tiedTo 4 RX12 (some .int) (fun _ => True) (QI E post 0 0) 0 0 36 [(0, .ref a0), (1, .int a1), (3, .int x3)] [.int s0, .int s1] st := by
  unfold P_X12_tiedTo_36 at h
  refine J_ior dX12_tiedTo_36 ?_
  refine J_istore_n _ dX12_tiedTo_37 rfl (by decide) rfl ?_
  refine J_iinc 3 (x3 + 1) _ dX12_tiedTo_38 rfl (by rfl) (by decide) rfl ?_
  refine J_goto 4 dX12_tiedTo_41 (by decide) ?_
  exact J_lv [2, 3, 1, 0] rfl (hk4 (s1 ||| s0) (x3 + 1) st h)
set_option maxRecDepth 100000 in
set_option maxHeartbeats 4000000 in
theorem K_X12_tiedTo_4 {l : Launch} {E : En}   (a0 : Nat) (a1 : Int32)  {post : Int32 → St → Prop}   : ∀ (n9 : Nat) (x2 : Int32) (x3 : Int32) (st : St), P_X12_tiedTo_4  a0 a1  post n9 x2 x3 st → Jg l E (CFc E) (Rm 1 0 0) cX12_tiedTo 4 RX12 (some .int) (fun _ => True) (QI E post 0 0) 0 0 4 [(0, .ref a0), (1, .int a1), (2, .int x2), (3, .int x3)] [] st := by
  intro n9
  induction n9 with
  | zero => intro x2 x3 st h; exact h.elim
  | succ n9 ih =>
    intro x2 x3 st h
    unfold P_X12_tiedTo_4 at h
    refine J_iload_n 3 dX12_tiedTo_4 rfl rfl ?_
    refine J_aload_n 0 dX12_tiedTo_5 rfl rfl ?_
    obtain ⟨r_1, hf, h⟩ := h
    refine J_getR fl_RX12_48 dX12_tiedTo_6 hf ?_
    refine J_iconst 0 dX12_tiedTo_9 (by decide) ?_
    obtain ⟨hi, h⟩ := h
    refine J_iald dX12_tiedTo_10 hi ?_
    refine J_icmp_ge 44 dX12_tiedTo_11 (by decide) (fun hc => ?_) (fun hc => ?_)
    · have h := h.1 hc
      refine J_iload_n 2 dX12_tiedTo_44 rfl rfl ?_
      exact J_reti rfl dX12_tiedTo_45 h
    · have h := h.2 hc
      refine J_iload_n 2 dX12_tiedTo_14 rfl rfl ?_
      refine J_aload_n 0 dX12_tiedTo_15 rfl rfl ?_
      obtain ⟨r_2, hf, h⟩ := h
      refine J_getR fl_RX12_105 dX12_tiedTo_16 hf ?_
      refine J_bipush 6 dX12_tiedTo_19 (by decide) ?_
      refine J_iload_n 3 dX12_tiedTo_21 rfl rfl ?_
      refine J_imul dX12_tiedTo_22 ?_
      refine J_iload_n 1 dX12_tiedTo_23 rfl rfl ?_
      refine J_iadd dX12_tiedTo_24 ?_
      obtain ⟨hi, h⟩ := h
      refine J_iald dX12_tiedTo_25 hi ?_
      refine J_if_le 35 dX12_tiedTo_26 (by decide) (fun hc => ?_) (fun hc => ?_)
      · have h := h.1 hc
        refine J_iconst 0 dX12_tiedTo_35 (by decide) ?_
        exact J_lv [0, 1, 3] rfl (K_X12_tiedTo_36   a0 a1 (fun x2 x3 st h => ih x2 x3 st h) x3 0 x2 st h)
      · have h := h.2 hc
        refine J_iconst 1 dX12_tiedTo_29 (by decide) ?_
        refine J_iload_n 3 dX12_tiedTo_30 rfl rfl ?_
        refine J_ishl dX12_tiedTo_31 ?_
        refine J_goto 36 dX12_tiedTo_32 (by decide) ?_
        exact J_lv [0, 1, 3] rfl (K_X12_tiedTo_36   a0 a1 (fun x2 x3 st h => ih x2 x3 st h) x3 ((1 : Int32) <<< ((x3 : Int32) &&& 31)) x2 st h)
set_option maxRecDepth 100000 in
set_option maxHeartbeats 4000000 in
theorem ct_X12_tiedTo {l : Launch} {E : En}  {a0 : Nat} {a1 : Int32} {st : St} {post : Int32 → St → Prop} (h : P_X12_tiedTo  a0 a1 st post) : CtI l E (CFc E) 1 0 0 yX12_tiedTo cX12_tiedTo 4 (some .int) [.ref a0, .int a1] st post := by
  refine ctI_of (by decide) (Nat.le_of_ble_eq_true rfl) ?_
  show Jg l E (CFc E) (Rm 1 0 0) cX12_tiedTo 4 RX12 (some .int) (fun _ => True) (QI E post 0 0) 0 0 0 [(0, .ref a0), (1, .int a1)] [] st
  unfold P_X12_tiedTo at h
  refine J_iconst 0 dX12_tiedTo_0 (by decide) ?_
  refine J_istore_n _ dX12_tiedTo_1 rfl (by decide) rfl ?_
  refine J_iconst 0 dX12_tiedTo_2 (by decide) ?_
  refine J_istore_n _ dX12_tiedTo_3 rfl (by decide) rfl ?_
  obtain ⟨n8, h⟩ := h
  exact J_lv [2, 3, 1, 0] rfl (K_X12_tiedTo_4   a0 a1  n8 0 0 st h)
/-! X12_tiesOf -/
def P_X12_tiesOf_36  (a0 : Nat) (a1 : Int32) (k4 : Int32 → Int32 → St → Prop) (post : Int32 → St → Prop) (x3 : Int32) (s0 : Int32) (s1 : Int32) (st : St) : Prop := k4 (s1 ||| s0) (x3 + 1) st
def P_X12_tiesOf_4  (a0 : Nat) (a1 : Int32)  (post : Int32 → St → Prop) : Nat → Int32 → Int32 → St → Prop
  | 0, _, _, _ => False
  | n9 + 1, x2, x3, st => ∃ r_1, rv st a0 12 5 = some r_1 ∧ vp_in 1 (al 0 r_1) ∧ (((gA st r_1 (1 : Int32).toNatClampNeg) ≤ x3 → post x2 st) ∧ (¬ (gA st r_1 (1 : Int32).toNatClampNeg) ≤ x3 → ∃ r_2, rv st a0 12 34 = some r_2 ∧ vp_in ((6 * a1) + x3) (al 0 r_2) ∧ (((gA st r_2 ((6 * a1) + x3 : Int32).toNatClampNeg) ≤ 0 → P_X12_tiesOf_36  a0 a1 (fun x2 x3 st => P_X12_tiesOf_4  a0 a1  post n9 x2 x3 st) post x3 0 x2 st) ∧ (¬ (gA st r_2 ((6 * a1) + x3 : Int32).toNatClampNeg) ≤ 0 → P_X12_tiesOf_36  a0 a1 (fun x2 x3 st => P_X12_tiesOf_4  a0 a1  post n9 x2 x3 st) post x3 ((1 : Int32) <<< ((x3 : Int32) &&& 31)) x2 st))))
def P_X12_tiesOf  (a0 : Nat) (a1 : Int32) (st : St) (post : Int32 → St → Prop) : Prop := ∃ n8, P_X12_tiesOf_4  a0 a1  post n8 0 0 st
set_option maxRecDepth 100000 in
set_option maxHeartbeats 4000000 in
theorem K_X12_tiesOf_36 {l : Launch} {E : En}   (a0 : Nat) (a1 : Int32) {k4 : Int32 → Int32 → St → Prop} {post : Int32 → St → Prop}  (hk4 : ∀ (x2 : Int32) (x3 : Int32) (st : St), k4 x2 x3 st → Jg l E (CFc E) (Rm 1 0 0) cX12_tiesOf 4 RX12 (some .int) (fun _ => True) (QI E post 0 0) 0 0 4 [(0, .ref a0), (1, .int a1), (2, .int x2), (3, .int x3)] [] st) (x3 : Int32) (s0 : Int32) (s1 : Int32) (st : St) (h : P_X12_tiesOf_36  a0 a1 k4 post x3 s0 s1 st) : Jg l E (CFc E) (Rm 1 0 0) cX12_tiesOf 4 RX12 (some .int) (fun _ => True) (QI E post 0 0) 0 0 36 [(0, .ref a0), (1, .int a1), (3, .int x3)] [.int s0, .int s1] st := by
  unfold P_X12_tiesOf_36 at h
  refine J_ior dX12_tiesOf_36 ?_
  refine J_istore_n _ dX12_tiesOf_37 rfl (by decide) rfl ?_
  refine J_iinc 3 (x3 + 1) _ dX12_tiesOf_38 rfl (by rfl) (by decide) rfl ?_
  refine J_goto 4 dX12_tiesOf_41 (by decide) ?_
  exact J_lv [2, 3, 1, 0] rfl (hk4 (s1 ||| s0) (x3 + 1) st h)
set_option maxRecDepth 100000 in
set_option maxHeartbeats 4000000 in
theorem K_X12_tiesOf_4 {l : Launch} {E : En}   (a0 : Nat) (a1 : Int32)  {post : Int32 → St → Prop}   : ∀ (n9 : Nat) (x2 : Int32) (x3 : Int32) (st : St), P_X12_tiesOf_4  a0 a1  post n9 x2 x3 st → Jg l E (CFc E) (Rm 1 0 0) cX12_tiesOf 4 RX12 (some .int) (fun _ => True) (QI E post 0 0) 0 0 4 [(0, .ref a0), (1, .int a1), (2, .int x2), (3, .int x3)] [] st := by
  intro n9
  induction n9 with
  | zero => intro x2 x3 st h; exact h.elim
  | succ n9 ih =>
    intro x2 x3 st h
    unfold P_X12_tiesOf_4 at h
    refine J_iload_n 3 dX12_tiesOf_4 rfl rfl ?_
    refine J_aload_n 0 dX12_tiesOf_5 rfl rfl ?_
    obtain ⟨r_1, hf, h⟩ := h
    refine J_getR fl_RX12_48 dX12_tiesOf_6 hf ?_
    refine J_iconst 1 dX12_tiesOf_9 (by decide) ?_
    obtain ⟨hi, h⟩ := h
    refine J_iald dX12_tiesOf_10 hi ?_
    refine J_icmp_ge 44 dX12_tiesOf_11 (by decide) (fun hc => ?_) (fun hc => ?_)
    · have h := h.1 hc
      refine J_iload_n 2 dX12_tiesOf_44 rfl rfl ?_
      exact J_reti rfl dX12_tiesOf_45 h
    · have h := h.2 hc
      refine J_iload_n 2 dX12_tiesOf_14 rfl rfl ?_
      refine J_aload_n 0 dX12_tiesOf_15 rfl rfl ?_
      obtain ⟨r_2, hf, h⟩ := h
      refine J_getR fl_RX12_105 dX12_tiesOf_16 hf ?_
      refine J_bipush 6 dX12_tiesOf_19 (by decide) ?_
      refine J_iload_n 1 dX12_tiesOf_21 rfl rfl ?_
      refine J_imul dX12_tiesOf_22 ?_
      refine J_iload_n 3 dX12_tiesOf_23 rfl rfl ?_
      refine J_iadd dX12_tiesOf_24 ?_
      obtain ⟨hi, h⟩ := h
      refine J_iald dX12_tiesOf_25 hi ?_
      refine J_if_le 35 dX12_tiesOf_26 (by decide) (fun hc => ?_) (fun hc => ?_)
      · have h := h.1 hc
        refine J_iconst 0 dX12_tiesOf_35 (by decide) ?_
        exact J_lv [0, 1, 3] rfl (K_X12_tiesOf_36   a0 a1 (fun x2 x3 st h => ih x2 x3 st h) x3 0 x2 st h)
      · have h := h.2 hc
        refine J_iconst 1 dX12_tiesOf_29 (by decide) ?_
        refine J_iload_n 3 dX12_tiesOf_30 rfl rfl ?_
        refine J_ishl dX12_tiesOf_31 ?_
        refine J_goto 36 dX12_tiesOf_32 (by decide) ?_
        exact J_lv [0, 1, 3] rfl (K_X12_tiesOf_36   a0 a1 (fun x2 x3 st h => ih x2 x3 st h) x3 ((1 : Int32) <<< ((x3 : Int32) &&& 31)) x2 st h)
set_option maxRecDepth 100000 in
set_option maxHeartbeats 4000000 in
theorem ct_X12_tiesOf {l : Launch} {E : En}  {a0 : Nat} {a1 : Int32} {st : St} {post : Int32 → St → Prop} (h : P_X12_tiesOf  a0 a1 st post) : CtI l E (CFc E) 1 0 0 yX12_tiesOf cX12_tiesOf 4 (some .int) [.ref a0, .int a1] st post := by
  refine ctI_of (by decide) (Nat.le_of_ble_eq_true rfl) ?_
  show Jg l E (CFc E) (Rm 1 0 0) cX12_tiesOf 4 RX12 (some .int) (fun _ => True) (QI E post 0 0) 0 0 0 [(0, .ref a0), (1, .int a1)] [] st
  unfold P_X12_tiesOf at h
  refine J_iconst 0 dX12_tiesOf_0 (by decide) ?_
  refine J_istore_n _ dX12_tiesOf_1 rfl (by decide) rfl ?_
  refine J_iconst 0 dX12_tiesOf_2 (by decide) ?_
  refine J_istore_n _ dX12_tiesOf_3 rfl (by decide) rfl ?_
  obtain ⟨n8, h⟩ := h
  exact J_lv [2, 3, 1, 0] rfl (K_X12_tiesOf_4   a0 a1  n8 0 0 st h)
/-! X12_weightOf -/
def P_X12_weightOf_113  (a0 : Nat) (a1 : Int32) (a2 : Int32)  (post : Int32 → St → Prop) (x4 : Int32) (st : St) : Prop := post (if (0 : Int32) < (if (x4 : Int32) < 999 then x4 else 999) then (if (x4 : Int32) < 999 then x4 else 999) else 0) st
def P_X12_weightOf  (a0 : Nat) (a1 : Int32) (a2 : Int32) (st : St) (post : Int32 → St → Prop) : Prop := ∃ r_1, rv st a0 12 34 = some r_1 ∧ vp_in ((6 * a1) + a2) (al 0 r_1) ∧ ((¬ (gA st r_1 ((6 * a1) + a2 : Int32).toNatClampNeg) = 0 → ∃ r_2, rv st a0 12 27 = some r_2 ∧ vp_in a1 (al 0 r_2) ∧ ∃ r_3, rv st a0 12 29 = some r_3 ∧ vp_in a1 (al 0 r_3) ∧ ∃ r_4, rv st a0 12 5 = some r_4 ∧ vp_in 3 (al 0 r_4) ∧ (((gA st r_4 (3 : Int32).toNatClampNeg) ≤ 0 → P_X12_weightOf_113  a0 a1 a2  post (((gA st r_2 (a1 : Int32).toNatClampNeg) + (gA st r_1 ((6 * a1) + a2 : Int32).toNatClampNeg)) - (2 * (gA st r_3 (a1 : Int32).toNatClampNeg))) st) ∧ (¬ (gA st r_4 (3 : Int32).toNatClampNeg) ≤ 0 → oC a0 12 ∧ P_X12_ask  a0 a1 st (fun st_6 => ∃ r_7, rv st_6 a0 12 40 = some r_7 ∧ vp_in 5 (al 0 r_7) ∧ ∃ r_8, rv (sA st_6 r_7 (5 : Int32).toNatClampNeg (gA st r_1 ((6 * a1) + a2 : Int32).toNatClampNeg)) a0 12 40 = some r_8 ∧ ∃ r_9, rv (sA st_6 r_7 (5 : Int32).toNatClampNeg (gA st r_1 ((6 * a1) + a2 : Int32).toNatClampNeg)) a0 12 31 = some r_9 ∧ vp_in a2 (al 0 r_9) ∧ fk a0 12 36 = some 0 ∧ vp_in 6 (al 0 r_8) ∧ ∃ r_10, rv (sA (sA st_6 r_7 (5 : Int32).toNatClampNeg (gA st r_1 ((6 * a1) + a2 : Int32).toNatClampNeg)) r_8 (6 : Int32).toNatClampNeg (if (0 : Int32) < ((gA (sA st_6 r_7 (5 : Int32).toNatClampNeg (gA st r_1 ((6 * a1) + a2 : Int32).toNatClampNeg)) r_9 (a2 : Int32).toNatClampNeg) - (gI (sA st_6 r_7 (5 : Int32).toNatClampNeg (gA st r_1 ((6 * a1) + a2 : Int32).toNatClampNeg)) a0 36)) then ((gA (sA st_6 r_7 (5 : Int32).toNatClampNeg (gA st r_1 ((6 * a1) + a2 : Int32).toNatClampNeg)) r_9 (a2 : Int32).toNatClampNeg) - (gI (sA st_6 r_7 (5 : Int32).toNatClampNeg (gA st r_1 ((6 * a1) + a2 : Int32).toNatClampNeg)) a0 36)) else 0)) a0 12 40 = some r_10 ∧ oC a0 12 ∧ P_X12_tiedTo  a0 a2 (sA (sA st_6 r_7 (5 : Int32).toNatClampNeg (gA st r_1 ((6 * a1) + a2 : Int32).toNatClampNeg)) r_8 (6 : Int32).toNatClampNeg (if (0 : Int32) < ((gA (sA st_6 r_7 (5 : Int32).toNatClampNeg (gA st r_1 ((6 * a1) + a2 : Int32).toNatClampNeg)) r_9 (a2 : Int32).toNatClampNeg) - (gI (sA st_6 r_7 (5 : Int32).toNatClampNeg (gA st r_1 ((6 * a1) + a2 : Int32).toNatClampNeg)) a0 36)) then ((gA (sA st_6 r_7 (5 : Int32).toNatClampNeg (gA st r_1 ((6 * a1) + a2 : Int32).toNatClampNeg)) r_9 (a2 : Int32).toNatClampNeg) - (gI (sA st_6 r_7 (5 : Int32).toNatClampNeg (gA st r_1 ((6 * a1) + a2 : Int32).toNatClampNeg)) a0 36)) else 0)) (fun z_11 st_12 => P_X12_bitsOf  z_11 st_12 (fun z_13 st_14 => vp_in 7 (al 0 r_10) ∧ ∃ r_15, rv (sA st_14 r_10 (7 : Int32).toNatClampNeg (z_13 - 1)) a0 12 12 = some r_15 ∧ ∃ r_16, rv (sA st_14 r_10 (7 : Int32).toNatClampNeg (z_13 - 1)) a0 12 5 = some r_16 ∧ vp_in 3 (al 0 r_16) ∧ oC a0 12 ∧ P_X12_valueNow  a0 r_15 (gA (sA st_14 r_10 (7 : Int32).toNatClampNeg (z_13 - 1)) r_16 (3 : Int32).toNatClampNeg) (sA st_14 r_10 (7 : Int32).toNatClampNeg (z_13 - 1)) (fun z_17 st_18 => P_X12_weightOf_113  a0 a1 a2  post z_17 st_18))))))) ∧ ((gA st r_1 ((6 * a1) + a2 : Int32).toNatClampNeg) = 0 → post (-1) st))
set_option maxRecDepth 100000 in
set_option maxHeartbeats 4000000 in
theorem K_X12_weightOf_113 {l : Launch} {E : En}   (a0 : Nat) (a1 : Int32) (a2 : Int32)  {post : Int32 → St → Prop}   (x4 : Int32) (st : St) (h : P_X12_weightOf_113  a0 a1 a2  post x4 st) : Jg l E (CFc E) (Rm 3 0 0) cX12_weightOf 5 RX12 (some .int) (fun _ => True) (QI E post 0 0) 0 0 113 [(0, .ref a0), (1, .int a1), (2, .int a2), (4, .int x4)] [] st := by
  unfold P_X12_weightOf_113 at h
  refine J_iconst 0 dX12_weightOf_113 (by decide) ?_
  refine J_sipush 999 dX12_weightOf_114 (by decide) ?_
  refine J_iload 3 dX12_weightOf_117 rfl ?_
  refine J_mmin k_987 k_162 k_158 k_163 ⟨Nat.le_of_ble_eq_true rfl, Nat.le_of_ble_eq_true rfl, Nat.le_of_ble_eq_true rfl, Nat.le_of_ble_eq_true rfl⟩ dX12_weightOf_119 ?_
  refine J_mmax k_1115 k_157 k_158 k_159 ⟨Nat.le_of_ble_eq_true rfl, Nat.le_of_ble_eq_true rfl, Nat.le_of_ble_eq_true rfl, Nat.le_of_ble_eq_true rfl⟩ dX12_weightOf_122 ?_
  exact J_reti rfl dX12_weightOf_125 h
set_option maxRecDepth 100000 in
set_option maxHeartbeats 4000000 in
theorem ct_X12_weightOf {l : Launch} {E : En}  {a0 : Nat} {a1 : Int32} {a2 : Int32} {st : St} {post : Int32 → St → Prop} (h : P_X12_weightOf  a0 a1 a2 st post) : CtI l E (CFc E) 3 0 0 yX12_weightOf cX12_weightOf 5 (some .int) [.ref a0, .int a1, .int a2] st post := by
  refine ctI_of (by decide) (Nat.le_of_ble_eq_true rfl) ?_
  show Jg l E (CFc E) (Rm 3 0 0) cX12_weightOf 5 RX12 (some .int) (fun _ => True) (QI E post 0 0) 0 0 0 [(0, .ref a0), (1, .int a1), (2, .int a2)] [] st
  unfold P_X12_weightOf at h
  refine J_aload_n 0 dX12_weightOf_0 rfl rfl ?_
  obtain ⟨r_1, hf, h⟩ := h
  refine J_getR fl_RX12_105 dX12_weightOf_1 hf ?_
  refine J_bipush 6 dX12_weightOf_4 (by decide) ?_
  refine J_iload_n 1 dX12_weightOf_6 rfl rfl ?_
  refine J_imul dX12_weightOf_7 ?_
  refine J_iload_n 2 dX12_weightOf_8 rfl rfl ?_
  refine J_iadd dX12_weightOf_9 ?_
  obtain ⟨hi, h⟩ := h
  refine J_iald dX12_weightOf_10 hi ?_
  refine J_istore_n _ dX12_weightOf_11 rfl (by decide) rfl ?_
  refine J_iload_n 0 dX12_weightOf_12 rfl rfl ?_
  refine J_if_ne 18 dX12_weightOf_13 (by decide) (fun hc => ?_) (fun hc => ?_)
  · have h := h.1 hc
    refine J_aload_n 1 dX12_weightOf_18 rfl rfl ?_
    obtain ⟨r_2, hf, h⟩ := h
    refine J_getR fl_RX12_85 dX12_weightOf_19 hf ?_
    refine J_iload_n 2 dX12_weightOf_22 rfl rfl ?_
    obtain ⟨hi, h⟩ := h
    refine J_iald dX12_weightOf_23 hi ?_
    refine J_iload_n 0 dX12_weightOf_24 rfl rfl ?_
    refine J_iadd dX12_weightOf_25 ?_
    refine J_iconst 2 dX12_weightOf_26 (by decide) ?_
    refine J_aload_n 1 dX12_weightOf_27 rfl rfl ?_
    obtain ⟨r_3, hf, h⟩ := h
    refine J_getR fl_RX12_90 dX12_weightOf_28 hf ?_
    refine J_iload_n 2 dX12_weightOf_31 rfl rfl ?_
    obtain ⟨hi, h⟩ := h
    refine J_iald dX12_weightOf_32 hi ?_
    refine J_imul dX12_weightOf_33 ?_
    refine J_isub dX12_weightOf_34 ?_
    refine J_istore _ dX12_weightOf_35 (by decide) rfl ?_
    refine J_aload_n 2 dX12_weightOf_37 rfl rfl ?_
    obtain ⟨r_4, hf, h⟩ := h
    refine J_getR fl_RX12_48 dX12_weightOf_38 hf ?_
    refine J_iconst 3 dX12_weightOf_41 (by decide) ?_
    obtain ⟨hi, h⟩ := h
    refine J_iald dX12_weightOf_42 hi ?_
    refine J_if_le 113 dX12_weightOf_43 (by decide) (fun hc => ?_) (fun hc => ?_)
    · have h := h.1 hc
      exact J_lv [2, 3, 4, 0] rfl (K_X12_weightOf_113   a0 a1 a2  (((gA st r_2 (a1 : Int32).toNatClampNeg) + (gA st r_1 ((6 * a1) + a2 : Int32).toNatClampNeg)) - (2 * (gA st r_3 (a1 : Int32).toNatClampNeg))) st h)
    · have h := h.2 hc
      refine J_aload_n 2 dX12_weightOf_46 rfl rfl ?_
      refine J_iload_n 3 dX12_weightOf_47 rfl rfl ?_
      obtain ⟨ho, h⟩ := h
      refine J_cvv (As := [_]) md_X12_ask k_1116 (rc_obj cl_12 ho) rfl rfl ⟨Nat.le_of_ble_eq_true rfl, Nat.le_of_ble_eq_true rfl⟩ ⟨Nat.le_of_ble_eq_true rfl, Nat.le_of_ble_eq_true rfl⟩ (Nat.le_of_ble_eq_true rfl) dX12_weightOf_48 (ct_X12_ask  h) (fun st_6 h => ?_)
      refine J_aload_n 2 dX12_weightOf_51 rfl rfl ?_
      obtain ⟨r_7, hf, h⟩ := h
      refine J_getR fl_RX12_111 dX12_weightOf_52 hf ?_
      refine J_iconst 5 dX12_weightOf_55 (by decide) ?_
      refine J_iload_n 1 dX12_weightOf_56 rfl rfl ?_
      obtain ⟨hi, h⟩ := h
      refine J_iast dX12_weightOf_57 hi ?_
      refine J_aload_n 2 dX12_weightOf_58 rfl rfl ?_
      obtain ⟨r_8, hf, h⟩ := h
      refine J_getR fl_RX12_111 dX12_weightOf_59 hf ?_
      refine J_bipush 6 dX12_weightOf_62 (by decide) ?_
      refine J_iconst 0 dX12_weightOf_64 (by decide) ?_
      refine J_aload_n 2 dX12_weightOf_65 rfl rfl ?_
      obtain ⟨r_9, hf, h⟩ := h
      refine J_getR fl_RX12_96 dX12_weightOf_66 hf ?_
      refine J_iload_n 4 dX12_weightOf_69 rfl rfl ?_
      obtain ⟨hi, h⟩ := h
      refine J_iald dX12_weightOf_70 hi ?_
      refine J_aload_n 2 dX12_weightOf_71 rfl rfl ?_
      obtain ⟨hf, h⟩ := h
      refine J_getI fl_RX12_342 dX12_weightOf_72 hf ?_
      refine J_isub dX12_weightOf_75 ?_
      refine J_mmax k_1115 k_157 k_158 k_159 ⟨Nat.le_of_ble_eq_true rfl, Nat.le_of_ble_eq_true rfl, Nat.le_of_ble_eq_true rfl, Nat.le_of_ble_eq_true rfl⟩ dX12_weightOf_76 ?_
      obtain ⟨hi, h⟩ := h
      refine J_iast dX12_weightOf_79 hi ?_
      refine J_aload_n 2 dX12_weightOf_80 rfl rfl ?_
      obtain ⟨r_10, hf, h⟩ := h
      refine J_getR fl_RX12_111 dX12_weightOf_81 hf ?_
      refine J_bipush 7 dX12_weightOf_84 (by decide) ?_
      refine J_aload_n 2 dX12_weightOf_86 rfl rfl ?_
      refine J_iload_n 4 dX12_weightOf_87 rfl rfl ?_
      obtain ⟨ho, h⟩ := h
      refine J_cvi (As := [_]) md_X12_tiedTo k_1119 (rc_obj cl_12 ho) rfl rfl ⟨Nat.le_of_ble_eq_true rfl, Nat.le_of_ble_eq_true rfl⟩ ⟨Nat.le_of_ble_eq_true rfl, Nat.le_of_ble_eq_true rfl⟩ (Nat.le_of_ble_eq_true rfl) dX12_weightOf_88 (ct_X12_tiedTo  h) (fun z_11 st_12 h => ?_)
      refine J_csi (As := [_]) md_X12_bitsOf k_1111 rfl rfl ⟨Nat.le_of_ble_eq_true rfl, Nat.le_of_ble_eq_true rfl⟩ ⟨Nat.le_of_ble_eq_true rfl, Nat.le_of_ble_eq_true rfl⟩ (Nat.le_of_ble_eq_true rfl) dX12_weightOf_91 (ct_X12_bitsOf  h) (fun z_13 st_14 h => ?_)
      refine J_iconst 1 dX12_weightOf_94 (by decide) ?_
      refine J_isub dX12_weightOf_95 ?_
      obtain ⟨hi, h⟩ := h
      refine J_iast dX12_weightOf_96 hi ?_
      refine J_aload_n 2 dX12_weightOf_97 rfl rfl ?_
      refine J_aload_n 2 dX12_weightOf_98 rfl rfl ?_
      obtain ⟨r_15, hf, h⟩ := h
      refine J_getR fl_RX12_69 dX12_weightOf_99 hf ?_
      refine J_aload_n 2 dX12_weightOf_102 rfl rfl ?_
      obtain ⟨r_16, hf, h⟩ := h
      refine J_getR fl_RX12_48 dX12_weightOf_103 hf ?_
      refine J_iconst 3 dX12_weightOf_106 (by decide) ?_
      obtain ⟨hi, h⟩ := h
      refine J_iald dX12_weightOf_107 hi ?_
      obtain ⟨ho, h⟩ := h
      refine J_cvi (As := [_, _]) md_X12_valueNow k_1122 (rc_obj cl_12 ho) rfl rfl ⟨Nat.le_of_ble_eq_true rfl, Nat.le_of_ble_eq_true rfl⟩ ⟨Nat.le_of_ble_eq_true rfl, Nat.le_of_ble_eq_true rfl⟩ (Nat.le_of_ble_eq_true rfl) dX12_weightOf_108 (ct_X12_valueNow  h) (fun z_17 st_18 h => ?_)
      refine J_istore _ dX12_weightOf_111 (by decide) rfl ?_
      exact J_lv [2, 3, 4, 0] rfl (K_X12_weightOf_113   a0 a1 a2  z_17 st_18 h)
  · have h := h.2 hc
    refine J_iconst (-1) dX12_weightOf_16 (by decide) ?_
    exact J_reti rfl dX12_weightOf_17 h
/-! X12_heaviest -/
def P_X12_heaviest_42  (a0 : Nat) (a1 : Int32) (k7 : Int32 → Int32 → Int32 → St → Prop) (post : Int32 → St → Prop) (x2 : Int32) (x3 : Int32) (x4 : Int32) (st : St) : Prop := k7 x2 x3 (x4 + 1) st
def P_X12_heaviest_7  (a0 : Nat) (a1 : Int32)  (post : Int32 → St → Prop) : Nat → Int32 → Int32 → Int32 → St → Prop
  | 0, _, _, _, _ => False
  | n9 + 1, x2, x3, x4, st => ∃ r_1, rv st a0 12 5 = some r_1 ∧ vp_in 0 (al 0 r_1) ∧ (((gA st r_1 (0 : Int32).toNatClampNeg) ≤ x4 → post x2 st) ∧ (¬ (gA st r_1 (0 : Int32).toNatClampNeg) ≤ x4 → oC a0 12 ∧ P_X12_weightOf  a0 x4 a1 st (fun z_2 st_3 => ((x3 < z_2 → P_X12_heaviest_42  a0 a1 (fun x2 x3 x4 st => P_X12_heaviest_7  a0 a1  post n9 x2 x3 x4 st) post x4 z_2 x4 st_3) ∧ (¬ x3 < z_2 → P_X12_heaviest_42  a0 a1 (fun x2 x3 x4 st => P_X12_heaviest_7  a0 a1  post n9 x2 x3 x4 st) post x2 x3 x4 st_3)))))
def P_X12_heaviest  (a0 : Nat) (a1 : Int32) (st : St) (post : Int32 → St → Prop) : Prop := ∃ n8, P_X12_heaviest_7  a0 a1  post n8 (-1) (-1) 0 st
set_option maxRecDepth 100000 in
set_option maxHeartbeats 4000000 in
theorem K_X12_heaviest_42 {l : Launch} {E : En}   (a0 : Nat) (a1 : Int32) {k7 : Int32 → Int32 → Int32 → St → Prop} {post : Int32 → St → Prop}  (hk7 : ∀ (x2 : Int32) (x3 : Int32) (x4 : Int32) (st : St), k7 x2 x3 x4 st → Jg l E (CFc E) (Rm 4 0 0) cX12_heaviest 6 RX12 (some .int) (fun _ => True) (QI E post 0 0) 0 0 7 [(0, .ref a0), (1, .int a1), (2, .int x2), (3, .int x3), (4, .int x4)] [] st) (x2 : Int32) (x3 : Int32) (x4 : Int32) (st : St) (h : P_X12_heaviest_42  a0 a1 k7 post x2 x3 x4 st) : Jg l E (CFc E) (Rm 4 0 0) cX12_heaviest 6 RX12 (some .int) (fun _ => True) (QI E post 0 0) 0 0 42 [(0, .ref a0), (1, .int a1), (2, .int x2), (3, .int x3), (4, .int x4)] [] st := by
  unfold P_X12_heaviest_42 at h
  refine J_iinc 4 (x4 + 1) _ dX12_heaviest_42 rfl (by rfl) (by decide) rfl ?_
  refine J_goto 7 dX12_heaviest_45 (by decide) ?_
  exact J_lv [1, 2, 3, 4, 0] rfl (hk7 x2 x3 (x4 + 1) st h)
set_option maxRecDepth 100000 in
set_option maxHeartbeats 4000000 in
theorem K_X12_heaviest_7 {l : Launch} {E : En}   (a0 : Nat) (a1 : Int32)  {post : Int32 → St → Prop}   : ∀ (n9 : Nat) (x2 : Int32) (x3 : Int32) (x4 : Int32) (st : St), P_X12_heaviest_7  a0 a1  post n9 x2 x3 x4 st → Jg l E (CFc E) (Rm 4 0 0) cX12_heaviest 6 RX12 (some .int) (fun _ => True) (QI E post 0 0) 0 0 7 [(0, .ref a0), (1, .int a1), (2, .int x2), (3, .int x3), (4, .int x4)] [] st := by
  intro n9
  induction n9 with
  | zero => intro x2 x3 x4 st h; exact h.elim
  | succ n9 ih =>
    intro x2 x3 x4 st h
    unfold P_X12_heaviest_7 at h
    refine J_iload 4 dX12_heaviest_7 rfl ?_
    refine J_aload_n 0 dX12_heaviest_9 rfl rfl ?_
    obtain ⟨r_1, hf, h⟩ := h
    refine J_getR fl_RX12_48 dX12_heaviest_10 hf ?_
    refine J_iconst 0 dX12_heaviest_13 (by decide) ?_
    obtain ⟨hi, h⟩ := h
    refine J_iald dX12_heaviest_14 hi ?_
    refine J_icmp_ge 48 dX12_heaviest_15 (by decide) (fun hc => ?_) (fun hc => ?_)
    · have h := h.1 hc
      refine J_iload_n 2 dX12_heaviest_48 rfl rfl ?_
      exact J_reti rfl dX12_heaviest_49 h
    · have h := h.2 hc
      refine J_aload_n 0 dX12_heaviest_18 rfl rfl ?_
      refine J_iload 4 dX12_heaviest_19 rfl ?_
      refine J_iload_n 1 dX12_heaviest_21 rfl rfl ?_
      obtain ⟨ho, h⟩ := h
      refine J_cvi (As := [_, _]) md_X12_weightOf k_1126 (rc_obj cl_12 ho) rfl rfl ⟨Nat.le_of_ble_eq_true rfl, Nat.le_of_ble_eq_true rfl⟩ ⟨Nat.le_of_ble_eq_true rfl, Nat.le_of_ble_eq_true rfl⟩ (Nat.le_of_ble_eq_true rfl) dX12_heaviest_22 (ct_X12_weightOf  h) (fun z_2 st_3 h => ?_)
      refine J_istore _ dX12_heaviest_25 (by decide) rfl ?_
      refine J_iload 0 dX12_heaviest_27 rfl ?_
      refine J_iload_n 4 dX12_heaviest_29 rfl rfl ?_
      refine J_icmp_gt 36 dX12_heaviest_30 (by decide) (fun hc => ?_) (fun hc => ?_)
      · have h := h.1 hc
        refine J_iload 5 dX12_heaviest_36 rfl ?_
        refine J_istore_n _ dX12_heaviest_38 rfl (by decide) rfl ?_
        refine J_iload 1 dX12_heaviest_39 rfl ?_
        refine J_istore_n _ dX12_heaviest_41 rfl (by decide) rfl ?_
        exact J_lv [3, 4, 1, 0, 5] rfl (K_X12_heaviest_42   a0 a1 (fun x2 x3 x4 st h => ih x2 x3 x4 st h) x4 z_2 x4 st_3 h)
      · have h := h.2 hc
        refine J_goto 42 dX12_heaviest_33 (by decide) ?_
        exact J_lv [1, 2, 3, 4, 5] rfl (K_X12_heaviest_42   a0 a1 (fun x2 x3 x4 st h => ih x2 x3 x4 st h) x2 x3 x4 st_3 h)
set_option maxRecDepth 100000 in
set_option maxHeartbeats 4000000 in
theorem ct_X12_heaviest {l : Launch} {E : En}  {a0 : Nat} {a1 : Int32} {st : St} {post : Int32 → St → Prop} (h : P_X12_heaviest  a0 a1 st post) : CtI l E (CFc E) 4 0 0 yX12_heaviest cX12_heaviest 6 (some .int) [.ref a0, .int a1] st post := by
  refine ctI_of (by decide) (Nat.le_of_ble_eq_true rfl) ?_
  show Jg l E (CFc E) (Rm 4 0 0) cX12_heaviest 6 RX12 (some .int) (fun _ => True) (QI E post 0 0) 0 0 0 [(0, .ref a0), (1, .int a1)] [] st
  unfold P_X12_heaviest at h
  refine J_iconst (-1) dX12_heaviest_0 (by decide) ?_
  refine J_istore_n _ dX12_heaviest_1 rfl (by decide) rfl ?_
  refine J_iconst (-1) dX12_heaviest_2 (by decide) ?_
  refine J_istore_n _ dX12_heaviest_3 rfl (by decide) rfl ?_
  refine J_iconst 0 dX12_heaviest_4 (by decide) ?_
  refine J_istore _ dX12_heaviest_5 (by decide) rfl ?_
  obtain ⟨n8, h⟩ := h
  exact J_lv [3, 4, 2, 1, 0] rfl (K_X12_heaviest_7   a0 a1  n8 (-1) (-1) 0 st h)
/-! X12_leaderNow -/
def P_X12_leaderNow_25  (a0 : Nat) (a1 : Int32)  (post : Int32 → St → Prop) (s0 : Int32) (st : St) : Prop := post s0 st
def P_X12_leaderNow_20  (a0 : Nat) (a1 : Int32)  (post : Int32 → St → Prop)  (st : St) : Prop := P_X12_leaderNow_25  a0 a1  post (-1) st
def P_X12_leaderNow  (a0 : Nat) (a1 : Int32) (st : St) (post : Int32 → St → Prop) : Prop := oC a0 12 ∧ P_X12_heaviest  a0 a1 st (fun z_1 st_2 => ((z_1 = (-1) → P_X12_leaderNow_20  a0 a1  post st_2) ∧ (¬ z_1 = (-1) → oC a0 12 ∧ P_X12_weightOf  a0 z_1 a1 st_2 (fun z_3 st_4 => ((¬ z_3 = 0 → P_X12_leaderNow_25  a0 a1  post z_1 st_4) ∧ (z_3 = 0 → P_X12_leaderNow_20  a0 a1  post st_4))))))
set_option maxRecDepth 100000 in
set_option maxHeartbeats 4000000 in
theorem K_X12_leaderNow_25 {l : Launch} {E : En}   (a0 : Nat) (a1 : Int32)  {post : Int32 → St → Prop}   (s0 : Int32) (st : St) (h : P_X12_leaderNow_25  a0 a1  post s0 st) : Jg l E (CFc E) (Rm 5 0 0) cX12_leaderNow 3 RX12 (some .int) (fun _ => True) (QI E post 0 0) 0 0 25 [(0, .ref a0), (1, .int a1)] [.int s0] st := by
  unfold P_X12_leaderNow_25 at h
  exact J_reti rfl dX12_leaderNow_25 h
set_option maxRecDepth 100000 in
set_option maxHeartbeats 4000000 in
theorem K_X12_leaderNow_20 {l : Launch} {E : En}   (a0 : Nat) (a1 : Int32)  {post : Int32 → St → Prop}    (st : St) (h : P_X12_leaderNow_20  a0 a1  post  st) : Jg l E (CFc E) (Rm 5 0 0) cX12_leaderNow 3 RX12 (some .int) (fun _ => True) (QI E post 0 0) 0 0 20 [(0, .ref a0), (1, .int a1)] [] st := by
  unfold P_X12_leaderNow_20 at h
  refine J_iconst (-1) dX12_leaderNow_20 (by decide) ?_
  refine J_goto 25 dX12_leaderNow_21 (by decide) ?_
  exact J_lv [0, 1] rfl (K_X12_leaderNow_25   a0 a1  (-1) st h)
set_option maxRecDepth 100000 in
set_option maxHeartbeats 4000000 in
theorem ct_X12_leaderNow {l : Launch} {E : En}  {a0 : Nat} {a1 : Int32} {st : St} {post : Int32 → St → Prop} (h : P_X12_leaderNow  a0 a1 st post) : CtI l E (CFc E) 5 0 0 yX12_leaderNow cX12_leaderNow 3 (some .int) [.ref a0, .int a1] st post := by
  refine ctI_of (by decide) (Nat.le_of_ble_eq_true rfl) ?_
  show Jg l E (CFc E) (Rm 5 0 0) cX12_leaderNow 3 RX12 (some .int) (fun _ => True) (QI E post 0 0) 0 0 0 [(0, .ref a0), (1, .int a1)] [] st
  unfold P_X12_leaderNow at h
  refine J_aload_n 0 dX12_leaderNow_0 rfl rfl ?_
  refine J_iload_n 1 dX12_leaderNow_1 rfl rfl ?_
  obtain ⟨ho, h⟩ := h
  refine J_cvi (As := [_]) md_X12_heaviest k_1130 (rc_obj cl_12 ho) rfl rfl ⟨Nat.le_of_ble_eq_true rfl, Nat.le_of_ble_eq_true rfl⟩ ⟨Nat.le_of_ble_eq_true rfl, Nat.le_of_ble_eq_true rfl⟩ (Nat.le_of_ble_eq_true rfl) dX12_leaderNow_2 (ct_X12_heaviest  h) (fun z_1 st_2 h => ?_)
  refine J_istore_n _ dX12_leaderNow_5 rfl (by decide) rfl ?_
  refine J_iload_n 0 dX12_leaderNow_6 rfl rfl ?_
  refine J_iconst (-1) dX12_leaderNow_7 (by decide) ?_
  refine J_icmp_eq 20 dX12_leaderNow_8 (by decide) (fun hc => ?_) (fun hc => ?_)
  · have h := h.1 hc
    exact J_lv [1, 2] rfl (K_X12_leaderNow_20   a0 a1  st_2 h)
  · have h := h.2 hc
    refine J_aload_n 1 dX12_leaderNow_11 rfl rfl ?_
    refine J_iload_n 0 dX12_leaderNow_12 rfl rfl ?_
    refine J_iload_n 2 dX12_leaderNow_13 rfl rfl ?_
    obtain ⟨ho, h⟩ := h
    refine J_cvi (As := [_, _]) md_X12_weightOf k_1126 (rc_obj cl_12 ho) rfl rfl ⟨Nat.le_of_ble_eq_true rfl, Nat.le_of_ble_eq_true rfl⟩ ⟨Nat.le_of_ble_eq_true rfl, Nat.le_of_ble_eq_true rfl⟩ (Nat.le_of_ble_eq_true rfl) dX12_leaderNow_14 (ct_X12_weightOf  h) (fun z_3 st_4 h => ?_)
    refine J_if_ne 24 dX12_leaderNow_17 (by decide) (fun hc => ?_) (fun hc => ?_)
    · have h := h.1 hc
      refine J_iload_n 0 dX12_leaderNow_24 rfl rfl ?_
      exact J_lv [1, 2] rfl (K_X12_leaderNow_25   a0 a1  z_1 st_4 h)
    · have h := h.2 hc
      exact J_lv [1, 2] rfl (K_X12_leaderNow_20   a0 a1  st_4 h)
/-! X12_lead -/
def P_X12_lead_40  (a0 : Nat) (a1 : Int32)  (post : St → Prop) (x2 : Int32) (s0 : Int32) (s1 : Int32) (s2 : Nat) (st : St) : Prop := vp_in s1 (al 0 s2) ∧ ((¬ x2 = (-1) → ∃ r_1, rv (sA st s2 (s1 : Int32).toNatClampNeg s0) a0 12 27 = some r_1 ∧ vp_in x2 (al 0 r_1) ∧ vp_in x2 (al 0 r_1) ∧ ∃ r_2, rv (sA (sA st s2 (s1 : Int32).toNatClampNeg s0) r_1 (x2 : Int32).toNatClampNeg ((gA (sA st s2 (s1 : Int32).toNatClampNeg s0) r_1 (x2 : Int32).toNatClampNeg) / 2)) a0 12 30 = some r_2 ∧ vp_in x2 (al 0 r_2) ∧ vp_in x2 (al 0 r_2) ∧ post (sA (sA (sA st s2 (s1 : Int32).toNatClampNeg s0) r_1 (x2 : Int32).toNatClampNeg ((gA (sA st s2 (s1 : Int32).toNatClampNeg s0) r_1 (x2 : Int32).toNatClampNeg) / 2)) r_2 (x2 : Int32).toNatClampNeg ((gA (sA (sA st s2 (s1 : Int32).toNatClampNeg s0) r_1 (x2 : Int32).toNatClampNeg ((gA (sA st s2 (s1 : Int32).toNatClampNeg s0) r_1 (x2 : Int32).toNatClampNeg) / 2)) r_2 (x2 : Int32).toNatClampNeg) ||| ((1 : Int32) <<< ((a1 : Int32) &&& 31))))) ∧ (x2 = (-1) → fk a0 12 37 = some 0 ∧ fk a0 12 37 = some 0 ∧ post (sI (sA st s2 (s1 : Int32).toNatClampNeg s0) a0 37 ((gI (sA st s2 (s1 : Int32).toNatClampNeg s0) a0 37) + 1))))
def P_X12_lead  (a0 : Nat) (a1 : Int32) (st : St) (post : St → Prop) : Prop := oC a0 12 ∧ P_X12_leaderNow  a0 a1 st (fun z_1 st_2 => ∃ r_3, rv st_2 a0 12 32 = some r_3 ∧ vp_in a1 (al 0 r_3) ∧ ∃ r_4, rv (sA st_2 r_3 (a1 : Int32).toNatClampNeg 0) a0 12 33 = some r_4 ∧ vp_in a1 (al 0 r_4) ∧ ∃ r_5, rv (sA (sA st_2 r_3 (a1 : Int32).toNatClampNeg 0) r_4 (a1 : Int32).toNatClampNeg z_1) a0 12 42 = some r_5 ∧ ((¬ z_1 = (-1) → oC a0 12 ∧ P_X12_weightOf  a0 z_1 a1 (sA (sA st_2 r_3 (a1 : Int32).toNatClampNeg 0) r_4 (a1 : Int32).toNatClampNeg z_1) (fun z_6 st_7 => P_X12_lead_40  a0 a1  post z_1 z_6 a1 r_5 st_7)) ∧ (z_1 = (-1) → P_X12_lead_40  a0 a1  post z_1 0 a1 r_5 (sA (sA st_2 r_3 (a1 : Int32).toNatClampNeg 0) r_4 (a1 : Int32).toNatClampNeg z_1))))
set_option maxRecDepth 100000 in
set_option maxHeartbeats 4000000 in
theorem K_X12_lead_40 {l : Launch} {E : En}   (a0 : Nat) (a1 : Int32)  {post : St → Prop}   (x2 : Int32) (s0 : Int32) (s1 : Int32) (s2 : Nat) (st : St) (h : P_X12_lead_40  a0 a1  post x2 s0 s1 s2 st) : Jg l E (CFc E) (Rm 6 0 0) cX12_lead 3 RX12 none (fun _ => True) (QV E post 0 0) 0 0 40 [(0, .ref a0), (1, .int a1), (2, .int x2)] [.int s0, .int s1, .ref s2] st := by
  unfold P_X12_lead_40 at h
  obtain ⟨hi, h⟩ := h
  refine J_iast dX12_lead_40 hi ?_
  refine J_iload_n 2 dX12_lead_41 rfl rfl ?_
  refine J_iconst (-1) dX12_lead_42 (by decide) ?_
  refine J_icmp_ne 57 dX12_lead_43 (by decide) (fun hc => ?_) (fun hc => ?_)
  · have h := h.1 hc
    refine J_aload_n 0 dX12_lead_57 rfl rfl ?_
    obtain ⟨r_1, hf, h⟩ := h
    refine J_getR fl_RX12_85 dX12_lead_58 hf ?_
    refine J_iload_n 2 dX12_lead_61 rfl rfl ?_
    refine J_dup2 dX12_lead_62 rfl rfl ?_
    obtain ⟨hi, h⟩ := h
    refine J_iald dX12_lead_63 hi ?_
    refine J_iconst 2 dX12_lead_64 (by decide) ?_
    refine J_idiv dX12_lead_65 (by decide) ?_
    obtain ⟨hi, h⟩ := h
    refine J_iast dX12_lead_66 hi ?_
    refine J_aload_n 0 dX12_lead_67 rfl rfl ?_
    obtain ⟨r_2, hf, h⟩ := h
    refine J_getR fl_RX12_93 dX12_lead_68 hf ?_
    refine J_iload_n 2 dX12_lead_71 rfl rfl ?_
    refine J_dup2 dX12_lead_72 rfl rfl ?_
    obtain ⟨hi, h⟩ := h
    refine J_iald dX12_lead_73 hi ?_
    refine J_iconst 1 dX12_lead_74 (by decide) ?_
    refine J_iload_n 1 dX12_lead_75 rfl rfl ?_
    refine J_ishl dX12_lead_76 ?_
    refine J_ior dX12_lead_77 ?_
    obtain ⟨hi, h⟩ := h
    refine J_iast dX12_lead_78 hi ?_
    exact J_retv rfl dX12_lead_79 h
  · have h := h.2 hc
    refine J_aload_n 0 dX12_lead_46 rfl rfl ?_
    refine J_dup dX12_lead_47 rfl ?_
    obtain ⟨hf, h⟩ := h
    refine J_getI fl_RX12_344 dX12_lead_48 hf ?_
    refine J_iconst 1 dX12_lead_51 (by decide) ?_
    refine J_iadd dX12_lead_52 ?_
    obtain ⟨hf, h⟩ := h
    refine J_putI fp_RX12_344 dX12_lead_53 rfl hf ?_
    exact J_retv rfl dX12_lead_56 h
set_option maxRecDepth 100000 in
set_option maxHeartbeats 4000000 in
theorem ct_X12_lead {l : Launch} {E : En}  {a0 : Nat} {a1 : Int32} {st : St} {post : St → Prop} (h : P_X12_lead  a0 a1 st post) : CtV l E (CFc E) 6 0 0 yX12_lead cX12_lead 3 none [.ref a0, .int a1] st post := by
  refine ctV_of (by decide) (Nat.le_of_ble_eq_true rfl) ?_
  show Jg l E (CFc E) (Rm 6 0 0) cX12_lead 3 RX12 none (fun _ => True) (QV E post 0 0) 0 0 0 [(0, .ref a0), (1, .int a1)] [] st
  unfold P_X12_lead at h
  refine J_aload_n 0 dX12_lead_0 rfl rfl ?_
  refine J_iload_n 1 dX12_lead_1 rfl rfl ?_
  obtain ⟨ho, h⟩ := h
  refine J_cvi (As := [_]) md_X12_leaderNow k_1134 (rc_obj cl_12 ho) rfl rfl ⟨Nat.le_of_ble_eq_true rfl, Nat.le_of_ble_eq_true rfl⟩ ⟨Nat.le_of_ble_eq_true rfl, Nat.le_of_ble_eq_true rfl⟩ (Nat.le_of_ble_eq_true rfl) dX12_lead_2 (ct_X12_leaderNow  h) (fun z_1 st_2 h => ?_)
  refine J_istore_n _ dX12_lead_5 rfl (by decide) rfl ?_
  refine J_aload_n 1 dX12_lead_6 rfl rfl ?_
  obtain ⟨r_3, hf, h⟩ := h
  refine J_getR fl_RX12_99 dX12_lead_7 hf ?_
  refine J_iload_n 2 dX12_lead_10 rfl rfl ?_
  refine J_iconst 0 dX12_lead_11 (by decide) ?_
  obtain ⟨hi, h⟩ := h
  refine J_iast dX12_lead_12 hi ?_
  refine J_aload_n 1 dX12_lead_13 rfl rfl ?_
  obtain ⟨r_4, hf, h⟩ := h
  refine J_getR fl_RX12_102 dX12_lead_14 hf ?_
  refine J_iload_n 2 dX12_lead_17 rfl rfl ?_
  refine J_iload_n 0 dX12_lead_18 rfl rfl ?_
  obtain ⟨hi, h⟩ := h
  refine J_iast dX12_lead_19 hi ?_
  refine J_aload_n 1 dX12_lead_20 rfl rfl ?_
  obtain ⟨r_5, hf, h⟩ := h
  refine J_getR fl_RX12_117 dX12_lead_21 hf ?_
  refine J_iload_n 2 dX12_lead_24 rfl rfl ?_
  refine J_iload_n 0 dX12_lead_25 rfl rfl ?_
  refine J_iconst (-1) dX12_lead_26 (by decide) ?_
  refine J_icmp_ne 34 dX12_lead_27 (by decide) (fun hc => ?_) (fun hc => ?_)
  · have h := h.1 hc
    refine J_aload_n 1 dX12_lead_34 rfl rfl ?_
    refine J_iload_n 0 dX12_lead_35 rfl rfl ?_
    refine J_iload_n 2 dX12_lead_36 rfl rfl ?_
    obtain ⟨ho, h⟩ := h
    refine J_cvi (As := [_, _]) md_X12_weightOf k_1126 (rc_obj cl_12 ho) rfl rfl ⟨Nat.le_of_ble_eq_true rfl, Nat.le_of_ble_eq_true rfl⟩ ⟨Nat.le_of_ble_eq_true rfl, Nat.le_of_ble_eq_true rfl⟩ (Nat.le_of_ble_eq_true rfl) dX12_lead_37 (ct_X12_weightOf  h) (fun z_6 st_7 h => ?_)
    exact J_lv [1, 2, 0] rfl (K_X12_lead_40   a0 a1  z_1 z_6 a1 r_5 st_7 h)
  · have h := h.2 hc
    refine J_iconst 0 dX12_lead_30 (by decide) ?_
    refine J_goto 40 dX12_lead_31 (by decide) ?_
    exact J_lv [1, 2, 0] rfl (K_X12_lead_40   a0 a1  z_1 0 a1 r_5 (sA (sA st_2 r_3 (a1 : Int32).toNatClampNeg 0) r_4 (a1 : Int32).toNatClampNeg z_1) h)
/-! X12_mournsOf -/
def P_X12_mournsOf_29  (a0 : Nat) (a1 : Int32)  (post : Int32 → St → Prop) (s0 : Int32) (st : St) : Prop := post s0 st
def P_X12_mournsOf  (a0 : Nat) (a1 : Int32) (st : St) (post : Int32 → St → Prop) : Prop := ∃ r_1, rv st a0 12 5 = some r_1 ∧ vp_in 4 (al 0 r_1) ∧ ((¬ (gA st r_1 (4 : Int32).toNatClampNeg) = 0 → oC a0 12 ∧ P_X12_ask  a0 a1 st (fun st_3 => ∃ r_4, rv st_3 a0 12 13 = some r_4 ∧ ∃ r_5, rv st_3 a0 12 5 = some r_5 ∧ vp_in 4 (al 0 r_5) ∧ oC a0 12 ∧ P_X12_valueNow  a0 r_4 (gA st_3 r_5 (4 : Int32).toNatClampNeg) st_3 (fun z_6 st_7 => post (if (0 : Int32) < (if (z_6 : Int32) < 20 then z_6 else 20) then (if (z_6 : Int32) < 20 then z_6 else 20) else 0) st_7))) ∧ ((gA st r_1 (4 : Int32).toNatClampNeg) = 0 → ∃ r_8, rv st a0 12 6 = some r_8 ∧ vp_in a1 (al 0 r_8) ∧ ((¬ (gA st r_8 (a1 : Int32).toNatClampNeg) = 3 → ∃ r_9, rv st a0 12 28 = some r_9 ∧ vp_in a1 (al 0 r_9) ∧ P_X12_mournsOf_29  a0 a1  post (gA st r_9 (a1 : Int32).toNatClampNeg) st) ∧ ((gA st r_8 (a1 : Int32).toNatClampNeg) = 3 → P_X12_mournsOf_29  a0 a1  post 0 st))))
set_option maxRecDepth 100000 in
set_option maxHeartbeats 4000000 in
theorem K_X12_mournsOf_29 {l : Launch} {E : En}   (a0 : Nat) (a1 : Int32)  {post : Int32 → St → Prop}   (s0 : Int32) (st : St) (h : P_X12_mournsOf_29  a0 a1  post s0 st) : Jg l E (CFc E) (Rm 3 0 0) cX12_mournsOf 2 RX12 (some .int) (fun _ => True) (QI E post 0 0) 0 0 29 [(0, .ref a0), (1, .int a1)] [.int s0] st := by
  unfold P_X12_mournsOf_29 at h
  exact J_reti rfl dX12_mournsOf_29 h
set_option maxRecDepth 100000 in
set_option maxHeartbeats 4000000 in
theorem ct_X12_mournsOf {l : Launch} {E : En}  {a0 : Nat} {a1 : Int32} {st : St} {post : Int32 → St → Prop} (h : P_X12_mournsOf  a0 a1 st post) : CtI l E (CFc E) 3 0 0 yX12_mournsOf cX12_mournsOf 2 (some .int) [.ref a0, .int a1] st post := by
  refine ctI_of (by decide) (Nat.le_of_ble_eq_true rfl) ?_
  show Jg l E (CFc E) (Rm 3 0 0) cX12_mournsOf 2 RX12 (some .int) (fun _ => True) (QI E post 0 0) 0 0 0 [(0, .ref a0), (1, .int a1)] [] st
  unfold P_X12_mournsOf at h
  refine J_aload_n 0 dX12_mournsOf_0 rfl rfl ?_
  obtain ⟨r_1, hf, h⟩ := h
  refine J_getR fl_RX12_48 dX12_mournsOf_1 hf ?_
  refine J_iconst 4 dX12_mournsOf_4 (by decide) ?_
  obtain ⟨hi, h⟩ := h
  refine J_iald dX12_mournsOf_5 hi ?_
  refine J_if_ne 30 dX12_mournsOf_6 (by decide) (fun hc => ?_) (fun hc => ?_)
  · have h := h.1 hc
    refine J_aload_n 0 dX12_mournsOf_30 rfl rfl ?_
    refine J_iload_n 1 dX12_mournsOf_31 rfl rfl ?_
    obtain ⟨ho, h⟩ := h
    refine J_cvv (As := [_]) md_X12_ask k_1116 (rc_obj cl_12 ho) rfl rfl ⟨Nat.le_of_ble_eq_true rfl, Nat.le_of_ble_eq_true rfl⟩ ⟨Nat.le_of_ble_eq_true rfl, Nat.le_of_ble_eq_true rfl⟩ (Nat.le_of_ble_eq_true rfl) dX12_mournsOf_32 (ct_X12_ask  h) (fun st_3 h => ?_)
    refine J_iconst 0 dX12_mournsOf_35 (by decide) ?_
    refine J_bipush 20 dX12_mournsOf_36 (by decide) ?_
    refine J_aload_n 0 dX12_mournsOf_38 rfl rfl ?_
    refine J_aload_n 0 dX12_mournsOf_39 rfl rfl ?_
    obtain ⟨r_4, hf, h⟩ := h
    refine J_getR fl_RX12_72 dX12_mournsOf_40 hf ?_
    refine J_aload_n 0 dX12_mournsOf_43 rfl rfl ?_
    obtain ⟨r_5, hf, h⟩ := h
    refine J_getR fl_RX12_48 dX12_mournsOf_44 hf ?_
    refine J_iconst 4 dX12_mournsOf_47 (by decide) ?_
    obtain ⟨hi, h⟩ := h
    refine J_iald dX12_mournsOf_48 hi ?_
    obtain ⟨ho, h⟩ := h
    refine J_cvi (As := [_, _]) md_X12_valueNow k_1122 (rc_obj cl_12 ho) rfl rfl ⟨Nat.le_of_ble_eq_true rfl, Nat.le_of_ble_eq_true rfl⟩ ⟨Nat.le_of_ble_eq_true rfl, Nat.le_of_ble_eq_true rfl⟩ (Nat.le_of_ble_eq_true rfl) dX12_mournsOf_49 (ct_X12_valueNow  h) (fun z_6 st_7 h => ?_)
    refine J_mmin k_987 k_162 k_158 k_163 ⟨Nat.le_of_ble_eq_true rfl, Nat.le_of_ble_eq_true rfl, Nat.le_of_ble_eq_true rfl, Nat.le_of_ble_eq_true rfl⟩ dX12_mournsOf_52 ?_
    refine J_mmax k_1115 k_157 k_158 k_159 ⟨Nat.le_of_ble_eq_true rfl, Nat.le_of_ble_eq_true rfl, Nat.le_of_ble_eq_true rfl, Nat.le_of_ble_eq_true rfl⟩ dX12_mournsOf_55 ?_
    exact J_reti rfl dX12_mournsOf_58 h
  · have h := h.2 hc
    refine J_aload_n 0 dX12_mournsOf_9 rfl rfl ?_
    obtain ⟨r_8, hf, h⟩ := h
    refine J_getR fl_RX12_52 dX12_mournsOf_10 hf ?_
    refine J_iload_n 1 dX12_mournsOf_13 rfl rfl ?_
    obtain ⟨hi, h⟩ := h
    refine J_iald dX12_mournsOf_14 hi ?_
    refine J_iconst 3 dX12_mournsOf_15 (by decide) ?_
    refine J_icmp_ne 23 dX12_mournsOf_16 (by decide) (fun hc => ?_) (fun hc => ?_)
    · have h := h.1 hc
      refine J_aload_n 0 dX12_mournsOf_23 rfl rfl ?_
      obtain ⟨r_9, hf, h⟩ := h
      refine J_getR fl_RX12_87 dX12_mournsOf_24 hf ?_
      refine J_iload_n 1 dX12_mournsOf_27 rfl rfl ?_
      obtain ⟨hi, h⟩ := h
      refine J_iald dX12_mournsOf_28 hi ?_
      exact J_lv [0, 1] rfl (K_X12_mournsOf_29   a0 a1  (gA st r_9 (a1 : Int32).toNatClampNeg) st h)
    · have h := h.2 hc
      refine J_iconst 0 dX12_mournsOf_19 (by decide) ?_
      refine J_goto 29 dX12_mournsOf_20 (by decide) ?_
      exact J_lv [0, 1] rfl (K_X12_mournsOf_29   a0 a1  0 st h)
/-! X12_aDay -/
def P_X12_aDay_48  (a0 : Nat)  (post : St → Prop) : Nat → Int32 → St → Prop
  | 0, _, _ => False
  | n9 + 1, x1, st => ∃ r_1, rv st a0 12 5 = some r_1 ∧ vp_in 0 (al 0 r_1) ∧ (((gA st r_1 (0 : Int32).toNatClampNeg) ≤ x1 → fk a0 12 36 = some 0 ∧ fk a0 12 36 = some 0 ∧ post (sI st a0 36 ((gI st a0 36) + 1))) ∧ (¬ (gA st r_1 (0 : Int32).toNatClampNeg) ≤ x1 → ∃ r_2, rv st a0 12 27 = some r_2 ∧ ∃ r_3, rv st a0 12 27 = some r_3 ∧ vp_in x1 (al 0 r_3) ∧ oC a0 12 ∧ P_X12_mournsOf  a0 x1 st (fun z_4 st_5 => vp_in x1 (al 0 r_2) ∧ ∃ r_6, rv (sA st_5 r_2 (x1 : Int32).toNatClampNeg (if (((gA st r_3 (x1 : Int32).toNatClampNeg) + z_4) : Int32) < 99 then ((gA st r_3 (x1 : Int32).toNatClampNeg) + z_4) else 99)) a0 12 29 = some r_6 ∧ ∃ r_7, rv (sA st_5 r_2 (x1 : Int32).toNatClampNeg (if (((gA st r_3 (x1 : Int32).toNatClampNeg) + z_4) : Int32) < 99 then ((gA st r_3 (x1 : Int32).toNatClampNeg) + z_4) else 99)) a0 12 29 = some r_7 ∧ vp_in x1 (al 0 r_7) ∧ vp_in x1 (al 0 r_6) ∧ P_X12_aDay_48  a0  post n9 (x1 + 1) (sA (sA st_5 r_2 (x1 : Int32).toNatClampNeg (if (((gA st r_3 (x1 : Int32).toNatClampNeg) + z_4) : Int32) < 99 then ((gA st r_3 (x1 : Int32).toNatClampNeg) + z_4) else 99)) r_6 (x1 : Int32).toNatClampNeg (if (0 : Int32) < ((gA (sA st_5 r_2 (x1 : Int32).toNatClampNeg (if (((gA st r_3 (x1 : Int32).toNatClampNeg) + z_4) : Int32) < 99 then ((gA st r_3 (x1 : Int32).toNatClampNeg) + z_4) else 99)) r_7 (x1 : Int32).toNatClampNeg) - 1) then ((gA (sA st_5 r_2 (x1 : Int32).toNatClampNeg (if (((gA st r_3 (x1 : Int32).toNatClampNeg) + z_4) : Int32) < 99 then ((gA st r_3 (x1 : Int32).toNatClampNeg) + z_4) else 99)) r_7 (x1 : Int32).toNatClampNeg) - 1) else 0)))))
def P_X12_aDay_40  (a0 : Nat) (k2 : Int32 → St → Prop) (post : St → Prop) (x1 : Int32) (st : St) : Prop := k2 (x1 + 1) st
def P_X12_aDay_2  (a0 : Nat)  (post : St → Prop) : Nat → Int32 → St → Prop
  | 0, _, _ => False
  | n9 + 1, x1, st => ∃ r_1, rv st a0 12 5 = some r_1 ∧ vp_in 1 (al 0 r_1) ∧ (((gA st r_1 (1 : Int32).toNatClampNeg) ≤ x1 → ∃ n8, P_X12_aDay_48  a0  post n8 0 st) ∧ (¬ (gA st r_1 (1 : Int32).toNatClampNeg) ≤ x1 → ∃ r_2, rv st a0 12 32 = some r_2 ∧ vp_in x1 (al 0 r_2) ∧ ((¬ (gA st r_2 (x1 : Int32).toNatClampNeg) = 1 → P_X12_aDay_40  a0 (fun x1 st => P_X12_aDay_2  a0  post n9 x1 st) post x1 st) ∧ ((gA st r_2 (x1 : Int32).toNatClampNeg) = 1 → ∃ r_3, rv st a0 12 31 = some r_3 ∧ vp_in x1 (al 0 r_3) ∧ fk a0 12 36 = some 0 ∧ ((¬ (gA st r_3 (x1 : Int32).toNatClampNeg) = (gI st a0 36) → P_X12_aDay_40  a0 (fun x1 st => P_X12_aDay_2  a0  post n9 x1 st) post x1 st) ∧ ((gA st r_3 (x1 : Int32).toNatClampNeg) = (gI st a0 36) → oC a0 12 ∧ P_X12_lead  a0 x1 st (fun st_5 => P_X12_aDay_40  a0 (fun x1 st => P_X12_aDay_2  a0  post n9 x1 st) post x1 st_5)))))))
def P_X12_aDay  (a0 : Nat) (st : St) (post : St → Prop) : Prop := ∃ n8, P_X12_aDay_2  a0  post n8 0 st
set_option maxRecDepth 100000 in
set_option maxHeartbeats 4000000 in
theorem K_X12_aDay_48 {l : Launch} {E : En}   (a0 : Nat)  {post : St → Prop}   : ∀ (n9 : Nat) (x1 : Int32) (st : St), P_X12_aDay_48  a0  post n9 x1 st → Jg l E (CFc E) (Rm 7 0 0) cX12_aDay 2 RX12 none (fun _ => True) (QV E post 0 0) 0 0 48 [(0, .ref a0), (1, .int x1)] [] st := by
  intro n9
  induction n9 with
  | zero => intro x1 st h; exact h.elim
  | succ n9 ih =>
    intro x1 st h
    unfold P_X12_aDay_48 at h
    refine J_iload_n 1 dX12_aDay_48 rfl rfl ?_
    refine J_aload_n 0 dX12_aDay_49 rfl rfl ?_
    obtain ⟨r_1, hf, h⟩ := h
    refine J_getR fl_RX12_48 dX12_aDay_50 hf ?_
    refine J_iconst 0 dX12_aDay_53 (by decide) ?_
    obtain ⟨hi, h⟩ := h
    refine J_iald dX12_aDay_54 hi ?_
    refine J_icmp_ge 105 dX12_aDay_55 (by decide) (fun hc => ?_) (fun hc => ?_)
    · have h := h.1 hc
      refine J_aload_n 0 dX12_aDay_105 rfl rfl ?_
      refine J_dup dX12_aDay_106 rfl ?_
      obtain ⟨hf, h⟩ := h
      refine J_getI fl_RX12_342 dX12_aDay_107 hf ?_
      refine J_iconst 1 dX12_aDay_110 (by decide) ?_
      refine J_iadd dX12_aDay_111 ?_
      obtain ⟨hf, h⟩ := h
      refine J_putI fp_RX12_342 dX12_aDay_112 rfl hf ?_
      exact J_retv rfl dX12_aDay_115 h
    · have h := h.2 hc
      refine J_aload_n 0 dX12_aDay_58 rfl rfl ?_
      obtain ⟨r_2, hf, h⟩ := h
      refine J_getR fl_RX12_85 dX12_aDay_59 hf ?_
      refine J_iload_n 1 dX12_aDay_62 rfl rfl ?_
      refine J_bipush 99 dX12_aDay_63 (by decide) ?_
      refine J_aload_n 0 dX12_aDay_65 rfl rfl ?_
      obtain ⟨r_3, hf, h⟩ := h
      refine J_getR fl_RX12_85 dX12_aDay_66 hf ?_
      refine J_iload_n 1 dX12_aDay_69 rfl rfl ?_
      obtain ⟨hi, h⟩ := h
      refine J_iald dX12_aDay_70 hi ?_
      refine J_aload_n 0 dX12_aDay_71 rfl rfl ?_
      refine J_iload_n 1 dX12_aDay_72 rfl rfl ?_
      obtain ⟨ho, h⟩ := h
      refine J_cvi (As := [_]) md_X12_mournsOf k_1142 (rc_obj cl_12 ho) rfl rfl ⟨Nat.le_of_ble_eq_true rfl, Nat.le_of_ble_eq_true rfl⟩ ⟨Nat.le_of_ble_eq_true rfl, Nat.le_of_ble_eq_true rfl⟩ (Nat.le_of_ble_eq_true rfl) dX12_aDay_73 (ct_X12_mournsOf  h) (fun z_4 st_5 h => ?_)
      refine J_iadd dX12_aDay_76 ?_
      refine J_mmin k_987 k_162 k_158 k_163 ⟨Nat.le_of_ble_eq_true rfl, Nat.le_of_ble_eq_true rfl, Nat.le_of_ble_eq_true rfl, Nat.le_of_ble_eq_true rfl⟩ dX12_aDay_77 ?_
      obtain ⟨hi, h⟩ := h
      refine J_iast dX12_aDay_80 hi ?_
      refine J_aload_n 0 dX12_aDay_81 rfl rfl ?_
      obtain ⟨r_6, hf, h⟩ := h
      refine J_getR fl_RX12_90 dX12_aDay_82 hf ?_
      refine J_iload_n 1 dX12_aDay_85 rfl rfl ?_
      refine J_iconst 0 dX12_aDay_86 (by decide) ?_
      refine J_aload_n 0 dX12_aDay_87 rfl rfl ?_
      obtain ⟨r_7, hf, h⟩ := h
      refine J_getR fl_RX12_90 dX12_aDay_88 hf ?_
      refine J_iload_n 1 dX12_aDay_91 rfl rfl ?_
      obtain ⟨hi, h⟩ := h
      refine J_iald dX12_aDay_92 hi ?_
      refine J_iconst 1 dX12_aDay_93 (by decide) ?_
      refine J_isub dX12_aDay_94 ?_
      refine J_mmax k_1115 k_157 k_158 k_159 ⟨Nat.le_of_ble_eq_true rfl, Nat.le_of_ble_eq_true rfl, Nat.le_of_ble_eq_true rfl, Nat.le_of_ble_eq_true rfl⟩ dX12_aDay_95 ?_
      obtain ⟨hi, h⟩ := h
      refine J_iast dX12_aDay_98 hi ?_
      refine J_iinc 1 (x1 + 1) _ dX12_aDay_99 rfl (by rfl) (by decide) rfl ?_
      refine J_goto 48 dX12_aDay_102 (by decide) ?_
      exact J_lv [1, 0] rfl (ih (x1 + 1) (sA (sA st_5 r_2 (x1 : Int32).toNatClampNeg (if (((gA st r_3 (x1 : Int32).toNatClampNeg) + z_4) : Int32) < 99 then ((gA st r_3 (x1 : Int32).toNatClampNeg) + z_4) else 99)) r_6 (x1 : Int32).toNatClampNeg (if (0 : Int32) < ((gA (sA st_5 r_2 (x1 : Int32).toNatClampNeg (if (((gA st r_3 (x1 : Int32).toNatClampNeg) + z_4) : Int32) < 99 then ((gA st r_3 (x1 : Int32).toNatClampNeg) + z_4) else 99)) r_7 (x1 : Int32).toNatClampNeg) - 1) then ((gA (sA st_5 r_2 (x1 : Int32).toNatClampNeg (if (((gA st r_3 (x1 : Int32).toNatClampNeg) + z_4) : Int32) < 99 then ((gA st r_3 (x1 : Int32).toNatClampNeg) + z_4) else 99)) r_7 (x1 : Int32).toNatClampNeg) - 1) else 0)) h)
set_option maxRecDepth 100000 in
set_option maxHeartbeats 4000000 in
theorem K_X12_aDay_40 {l : Launch} {E : En}   (a0 : Nat) {k2 : Int32 → St → Prop} {post : St → Prop}  (hk2 : ∀ (x1 : Int32) (st : St), k2 x1 st → Jg l E (CFc E) (Rm 7 0 0) cX12_aDay 2 RX12 none (fun _ => True) (QV E post 0 0) 0 0 2 [(0, .ref a0), (1, .int x1)] [] st) (x1 : Int32) (st : St) (h : P_X12_aDay_40  a0 k2 post x1 st) : Jg l E (CFc E) (Rm 7 0 0) cX12_aDay 2 RX12 none (fun _ => True) (QV E post 0 0) 0 0 40 [(0, .ref a0), (1, .int x1)] [] st := by
  unfold P_X12_aDay_40 at h
  refine J_iinc 1 (x1 + 1) _ dX12_aDay_40 rfl (by rfl) (by decide) rfl ?_
  refine J_goto 2 dX12_aDay_43 (by decide) ?_
  exact J_lv [1, 0] rfl (hk2 (x1 + 1) st h)
set_option maxRecDepth 100000 in
set_option maxHeartbeats 4000000 in
theorem K_X12_aDay_2 {l : Launch} {E : En}   (a0 : Nat)  {post : St → Prop}   : ∀ (n9 : Nat) (x1 : Int32) (st : St), P_X12_aDay_2  a0  post n9 x1 st → Jg l E (CFc E) (Rm 7 0 0) cX12_aDay 2 RX12 none (fun _ => True) (QV E post 0 0) 0 0 2 [(0, .ref a0), (1, .int x1)] [] st := by
  intro n9
  induction n9 with
  | zero => intro x1 st h; exact h.elim
  | succ n9 ih =>
    intro x1 st h
    unfold P_X12_aDay_2 at h
    refine J_iload_n 1 dX12_aDay_2 rfl rfl ?_
    refine J_aload_n 0 dX12_aDay_3 rfl rfl ?_
    obtain ⟨r_1, hf, h⟩ := h
    refine J_getR fl_RX12_48 dX12_aDay_4 hf ?_
    refine J_iconst 1 dX12_aDay_7 (by decide) ?_
    obtain ⟨hi, h⟩ := h
    refine J_iald dX12_aDay_8 hi ?_
    refine J_icmp_ge 46 dX12_aDay_9 (by decide) (fun hc => ?_) (fun hc => ?_)
    · have h := h.1 hc
      refine J_iconst 0 dX12_aDay_46 (by decide) ?_
      refine J_istore_n _ dX12_aDay_47 rfl (by decide) rfl ?_
      obtain ⟨n8, h⟩ := h
      exact J_lv [1, 0] rfl (K_X12_aDay_48   a0  n8 0 st h)
    · have h := h.2 hc
      refine J_aload_n 0 dX12_aDay_12 rfl rfl ?_
      obtain ⟨r_2, hf, h⟩ := h
      refine J_getR fl_RX12_99 dX12_aDay_13 hf ?_
      refine J_iload_n 1 dX12_aDay_16 rfl rfl ?_
      obtain ⟨hi, h⟩ := h
      refine J_iald dX12_aDay_17 hi ?_
      refine J_iconst 1 dX12_aDay_18 (by decide) ?_
      refine J_icmp_ne 40 dX12_aDay_19 (by decide) (fun hc => ?_) (fun hc => ?_)
      · have h := h.1 hc
        exact J_lv [0, 1] rfl (K_X12_aDay_40   a0 (fun x1 st h => ih x1 st h) x1 st h)
      · have h := h.2 hc
        refine J_aload_n 0 dX12_aDay_22 rfl rfl ?_
        obtain ⟨r_3, hf, h⟩ := h
        refine J_getR fl_RX12_96 dX12_aDay_23 hf ?_
        refine J_iload_n 1 dX12_aDay_26 rfl rfl ?_
        obtain ⟨hi, h⟩ := h
        refine J_iald dX12_aDay_27 hi ?_
        refine J_aload_n 0 dX12_aDay_28 rfl rfl ?_
        obtain ⟨hf, h⟩ := h
        refine J_getI fl_RX12_342 dX12_aDay_29 hf ?_
        refine J_icmp_ne 40 dX12_aDay_32 (by decide) (fun hc => ?_) (fun hc => ?_)
        · have h := h.1 hc
          exact J_lv [0, 1] rfl (K_X12_aDay_40   a0 (fun x1 st h => ih x1 st h) x1 st h)
        · have h := h.2 hc
          refine J_aload_n 0 dX12_aDay_35 rfl rfl ?_
          refine J_iload_n 1 dX12_aDay_36 rfl rfl ?_
          obtain ⟨ho, h⟩ := h
          refine J_cvv (As := [_]) md_X12_lead k_1139 (rc_obj cl_12 ho) rfl rfl ⟨Nat.le_of_ble_eq_true rfl, Nat.le_of_ble_eq_true rfl⟩ ⟨Nat.le_of_ble_eq_true rfl, Nat.le_of_ble_eq_true rfl⟩ (Nat.le_of_ble_eq_true rfl) dX12_aDay_37 (ct_X12_lead  h) (fun st_5 h => ?_)
          exact J_lv [0, 1] rfl (K_X12_aDay_40   a0 (fun x1 st h => ih x1 st h) x1 st_5 h)
set_option maxRecDepth 100000 in
set_option maxHeartbeats 4000000 in
theorem ct_X12_aDay {l : Launch} {E : En}  {a0 : Nat} {st : St} {post : St → Prop} (h : P_X12_aDay  a0 st post) : CtV l E (CFc E) 7 0 0 yX12_aDay cX12_aDay 2 none [.ref a0] st post := by
  refine ctV_of (by decide) (Nat.le_of_ble_eq_true rfl) ?_
  show Jg l E (CFc E) (Rm 7 0 0) cX12_aDay 2 RX12 none (fun _ => True) (QV E post 0 0) 0 0 0 [(0, .ref a0)] [] st
  unfold P_X12_aDay at h
  refine J_iconst 0 dX12_aDay_0 (by decide) ?_
  refine J_istore_n _ dX12_aDay_1 rfl (by decide) rfl ?_
  obtain ⟨n8, h⟩ := h
  exact J_lv [1, 0] rfl (K_X12_aDay_2   a0  n8 0 st h)
/-! X12_goOn -/
def P_X12_goOn_2  (a0 : Nat) (a1 : Int32)  (post : St → Prop) : Nat → Int32 → St → Prop
  | 0, _, _ => False
  | n9 + 1, x2, st => ((a1 ≤ x2 → post st) ∧ (¬ a1 ≤ x2 → oC a0 12 ∧ P_X12_aDay  a0 st (fun st_2 => P_X12_goOn_2  a0 a1  post n9 (x2 + 1) st_2)))
def P_X12_goOn  (a0 : Nat) (a1 : Int32) (st : St) (post : St → Prop) : Prop := ∃ n8, P_X12_goOn_2  a0 a1  post n8 0 st
set_option maxRecDepth 100000 in
set_option maxHeartbeats 4000000 in
theorem K_X12_goOn_2 {l : Launch} {E : En}   (a0 : Nat) (a1 : Int32)  {post : St → Prop}   : ∀ (n9 : Nat) (x2 : Int32) (st : St), P_X12_goOn_2  a0 a1  post n9 x2 st → Jg l E (CFc E) (Rm 8 0 0) cX12_goOn 3 RX12 none (fun _ => True) (QV E post 0 0) 0 0 2 [(0, .ref a0), (1, .int a1), (2, .int x2)] [] st := by
  intro n9
  induction n9 with
  | zero => intro x2 st h; exact h.elim
  | succ n9 ih =>
    intro x2 st h
    unfold P_X12_goOn_2 at h
    refine J_iload_n 2 dX12_goOn_2 rfl rfl ?_
    refine J_iload_n 1 dX12_goOn_3 rfl rfl ?_
    refine J_icmp_ge 17 dX12_goOn_4 (by decide) (fun hc => ?_) (fun hc => ?_)
    · have h := h.1 hc
      exact J_retv rfl dX12_goOn_17 h
    · have h := h.2 hc
      refine J_aload_n 0 dX12_goOn_7 rfl rfl ?_
      obtain ⟨ho, h⟩ := h
      refine J_cvv (As := []) md_X12_aDay k_1146 (rc_obj cl_12 ho) rfl rfl ⟨Nat.le_of_ble_eq_true rfl, Nat.le_of_ble_eq_true rfl⟩ ⟨Nat.le_of_ble_eq_true rfl, Nat.le_of_ble_eq_true rfl⟩ (Nat.le_of_ble_eq_true rfl) dX12_goOn_8 (ct_X12_aDay  h) (fun st_2 h => ?_)
      refine J_iinc 2 (x2 + 1) _ dX12_goOn_11 rfl (by rfl) (by decide) rfl ?_
      refine J_goto 2 dX12_goOn_14 (by decide) ?_
      exact J_lv [1, 2, 0] rfl (ih (x2 + 1) st_2 h)
set_option maxRecDepth 100000 in
set_option maxHeartbeats 4000000 in
theorem ct_X12_goOn {l : Launch} {E : En}  {a0 : Nat} {a1 : Int32} {st : St} {post : St → Prop} (h : P_X12_goOn  a0 a1 st post) : CtV l E (CFc E) 8 0 0 yX12_goOn cX12_goOn 3 none [.ref a0, .int a1] st post := by
  refine ctV_of (by decide) (Nat.le_of_ble_eq_true rfl) ?_
  show Jg l E (CFc E) (Rm 8 0 0) cX12_goOn 3 RX12 none (fun _ => True) (QV E post 0 0) 0 0 0 [(0, .ref a0), (1, .int a1)] [] st
  unfold P_X12_goOn at h
  refine J_iconst 0 dX12_goOn_0 (by decide) ?_
  refine J_istore_n _ dX12_goOn_1 rfl (by decide) rfl ?_
  obtain ⟨n8, h⟩ := h
  exact J_lv [1, 2, 0] rfl (K_X12_goOn_2   a0 a1  n8 0 st h)
/-! X12_atHome -/
def P_X12_atHome_32  (a0 : Nat) (k4 : Int32 → Int32 → St → Prop) (post : Int32 → St → Prop) (x2 : Int32) (s0 : Int32) (s1 : Int32) (st : St) : Prop := k4 (s1 ||| s0) (x2 + 1) st
def P_X12_atHome_4  (a0 : Nat)  (post : Int32 → St → Prop) : Nat → Int32 → Int32 → St → Prop
  | 0, _, _, _ => False
  | n9 + 1, x1, x2, st => ∃ r_1, rv st a0 12 5 = some r_1 ∧ vp_in 1 (al 0 r_1) ∧ (((gA st r_1 (1 : Int32).toNatClampNeg) ≤ x2 → post x1 st) ∧ (¬ (gA st r_1 (1 : Int32).toNatClampNeg) ≤ x2 → ∃ r_2, rv st a0 12 32 = some r_2 ∧ vp_in x2 (al 0 r_2) ∧ ((¬ (gA st r_2 (x2 : Int32).toNatClampNeg) = 1 → P_X12_atHome_32  a0 (fun x1 x2 st => P_X12_atHome_4  a0  post n9 x1 x2 st) post x2 0 x1 st) ∧ ((gA st r_2 (x2 : Int32).toNatClampNeg) = 1 → P_X12_atHome_32  a0 (fun x1 x2 st => P_X12_atHome_4  a0  post n9 x1 x2 st) post x2 ((1 : Int32) <<< ((x2 : Int32) &&& 31)) x1 st))))
def P_X12_atHome  (a0 : Nat) (st : St) (post : Int32 → St → Prop) : Prop := ∃ n8, P_X12_atHome_4  a0  post n8 0 0 st
set_option maxRecDepth 100000 in
set_option maxHeartbeats 4000000 in
theorem K_X12_atHome_32 {l : Launch} {E : En}   (a0 : Nat) {k4 : Int32 → Int32 → St → Prop} {post : Int32 → St → Prop}  (hk4 : ∀ (x1 : Int32) (x2 : Int32) (st : St), k4 x1 x2 st → Jg l E (CFc E) (Rm 1 0 0) cX12_atHome 3 RX12 (some .int) (fun _ => True) (QI E post 0 0) 0 0 4 [(0, .ref a0), (1, .int x1), (2, .int x2)] [] st) (x2 : Int32) (s0 : Int32) (s1 : Int32) (st : St) (h : P_X12_atHome_32  a0 k4 post x2 s0 s1 st) : Jg l E (CFc E) (Rm 1 0 0) cX12_atHome 3 RX12 (some .int) (fun _ => True) (QI E post 0 0) 0 0 32 [(0, .ref a0), (2, .int x2)] [.int s0, .int s1] st := by
  unfold P_X12_atHome_32 at h
  refine J_ior dX12_atHome_32 ?_
  refine J_istore_n _ dX12_atHome_33 rfl (by decide) rfl ?_
  refine J_iinc 2 (x2 + 1) _ dX12_atHome_34 rfl (by rfl) (by decide) rfl ?_
  refine J_goto 4 dX12_atHome_37 (by decide) ?_
  exact J_lv [2, 1, 0] rfl (hk4 (s1 ||| s0) (x2 + 1) st h)
set_option maxRecDepth 100000 in
set_option maxHeartbeats 4000000 in
theorem K_X12_atHome_4 {l : Launch} {E : En}   (a0 : Nat)  {post : Int32 → St → Prop}   : ∀ (n9 : Nat) (x1 : Int32) (x2 : Int32) (st : St), P_X12_atHome_4  a0  post n9 x1 x2 st → Jg l E (CFc E) (Rm 1 0 0) cX12_atHome 3 RX12 (some .int) (fun _ => True) (QI E post 0 0) 0 0 4 [(0, .ref a0), (1, .int x1), (2, .int x2)] [] st := by
  intro n9
  induction n9 with
  | zero => intro x1 x2 st h; exact h.elim
  | succ n9 ih =>
    intro x1 x2 st h
    unfold P_X12_atHome_4 at h
    refine J_iload_n 2 dX12_atHome_4 rfl rfl ?_
    refine J_aload_n 0 dX12_atHome_5 rfl rfl ?_
    obtain ⟨r_1, hf, h⟩ := h
    refine J_getR fl_RX12_48 dX12_atHome_6 hf ?_
    refine J_iconst 1 dX12_atHome_9 (by decide) ?_
    obtain ⟨hi, h⟩ := h
    refine J_iald dX12_atHome_10 hi ?_
    refine J_icmp_ge 40 dX12_atHome_11 (by decide) (fun hc => ?_) (fun hc => ?_)
    · have h := h.1 hc
      refine J_iload_n 1 dX12_atHome_40 rfl rfl ?_
      exact J_reti rfl dX12_atHome_41 h
    · have h := h.2 hc
      refine J_iload_n 1 dX12_atHome_14 rfl rfl ?_
      refine J_aload_n 0 dX12_atHome_15 rfl rfl ?_
      obtain ⟨r_2, hf, h⟩ := h
      refine J_getR fl_RX12_99 dX12_atHome_16 hf ?_
      refine J_iload_n 2 dX12_atHome_19 rfl rfl ?_
      obtain ⟨hi, h⟩ := h
      refine J_iald dX12_atHome_20 hi ?_
      refine J_iconst 1 dX12_atHome_21 (by decide) ?_
      refine J_icmp_ne 31 dX12_atHome_22 (by decide) (fun hc => ?_) (fun hc => ?_)
      · have h := h.1 hc
        refine J_iconst 0 dX12_atHome_31 (by decide) ?_
        exact J_lv [0, 2] rfl (K_X12_atHome_32   a0 (fun x1 x2 st h => ih x1 x2 st h) x2 0 x1 st h)
      · have h := h.2 hc
        refine J_iconst 1 dX12_atHome_25 (by decide) ?_
        refine J_iload_n 2 dX12_atHome_26 rfl rfl ?_
        refine J_ishl dX12_atHome_27 ?_
        refine J_goto 32 dX12_atHome_28 (by decide) ?_
        exact J_lv [0, 2] rfl (K_X12_atHome_32   a0 (fun x1 x2 st h => ih x1 x2 st h) x2 ((1 : Int32) <<< ((x2 : Int32) &&& 31)) x1 st h)
set_option maxRecDepth 100000 in
set_option maxHeartbeats 4000000 in
theorem ct_X12_atHome {l : Launch} {E : En}  {a0 : Nat} {st : St} {post : Int32 → St → Prop} (h : P_X12_atHome  a0 st post) : CtI l E (CFc E) 1 0 0 yX12_atHome cX12_atHome 3 (some .int) [.ref a0] st post := by
  refine ctI_of (by decide) (Nat.le_of_ble_eq_true rfl) ?_
  show Jg l E (CFc E) (Rm 1 0 0) cX12_atHome 3 RX12 (some .int) (fun _ => True) (QI E post 0 0) 0 0 0 [(0, .ref a0)] [] st
  unfold P_X12_atHome at h
  refine J_iconst 0 dX12_atHome_0 (by decide) ?_
  refine J_istore_n _ dX12_atHome_1 rfl (by decide) rfl ?_
  refine J_iconst 0 dX12_atHome_2 (by decide) ?_
  refine J_istore_n _ dX12_atHome_3 rfl (by decide) rfl ?_
  obtain ⟨n8, h⟩ := h
  exact J_lv [2, 1, 0] rfl (K_X12_atHome_4   a0  n8 0 0 st h)
/-! X12_allGrief -/
def P_X12_allGrief_4  (a0 : Nat)  (post : Int32 → St → Prop) : Nat → Int32 → Int32 → St → Prop
  | 0, _, _, _ => False
  | n9 + 1, x1, x2, st => ∃ r_1, rv st a0 12 5 = some r_1 ∧ vp_in 0 (al 0 r_1) ∧ (((gA st r_1 (0 : Int32).toNatClampNeg) ≤ x2 → post x1 st) ∧ (¬ (gA st r_1 (0 : Int32).toNatClampNeg) ≤ x2 → ∃ r_2, rv st a0 12 27 = some r_2 ∧ vp_in x2 (al 0 r_2) ∧ P_X12_allGrief_4  a0  post n9 (x1 + (gA st r_2 (x2 : Int32).toNatClampNeg)) (x2 + 1) st))
def P_X12_allGrief  (a0 : Nat) (st : St) (post : Int32 → St → Prop) : Prop := ∃ n8, P_X12_allGrief_4  a0  post n8 0 0 st
set_option maxRecDepth 100000 in
set_option maxHeartbeats 4000000 in
theorem K_X12_allGrief_4 {l : Launch} {E : En}   (a0 : Nat)  {post : Int32 → St → Prop}   : ∀ (n9 : Nat) (x1 : Int32) (x2 : Int32) (st : St), P_X12_allGrief_4  a0  post n9 x1 x2 st → Jg l E (CFc E) (Rm 1 0 0) cX12_allGrief 3 RX12 (some .int) (fun _ => True) (QI E post 0 0) 0 0 4 [(0, .ref a0), (1, .int x1), (2, .int x2)] [] st := by
  intro n9
  induction n9 with
  | zero => intro x1 x2 st h; exact h.elim
  | succ n9 ih =>
    intro x1 x2 st h
    unfold P_X12_allGrief_4 at h
    refine J_iload_n 2 dX12_allGrief_4 rfl rfl ?_
    refine J_aload_n 0 dX12_allGrief_5 rfl rfl ?_
    obtain ⟨r_1, hf, h⟩ := h
    refine J_getR fl_RX12_48 dX12_allGrief_6 hf ?_
    refine J_iconst 0 dX12_allGrief_9 (by decide) ?_
    obtain ⟨hi, h⟩ := h
    refine J_iald dX12_allGrief_10 hi ?_
    refine J_icmp_ge 29 dX12_allGrief_11 (by decide) (fun hc => ?_) (fun hc => ?_)
    · have h := h.1 hc
      refine J_iload_n 1 dX12_allGrief_29 rfl rfl ?_
      exact J_reti rfl dX12_allGrief_30 h
    · have h := h.2 hc
      refine J_iload_n 1 dX12_allGrief_14 rfl rfl ?_
      refine J_aload_n 0 dX12_allGrief_15 rfl rfl ?_
      obtain ⟨r_2, hf, h⟩ := h
      refine J_getR fl_RX12_85 dX12_allGrief_16 hf ?_
      refine J_iload_n 2 dX12_allGrief_19 rfl rfl ?_
      obtain ⟨hi, h⟩ := h
      refine J_iald dX12_allGrief_20 hi ?_
      refine J_iadd dX12_allGrief_21 ?_
      refine J_istore_n _ dX12_allGrief_22 rfl (by decide) rfl ?_
      refine J_iinc 2 (x2 + 1) _ dX12_allGrief_23 rfl (by rfl) (by decide) rfl ?_
      refine J_goto 4 dX12_allGrief_26 (by decide) ?_
      exact J_lv [2, 1, 0] rfl (ih (x1 + (gA st r_2 (x2 : Int32).toNatClampNeg)) (x2 + 1) st h)
set_option maxRecDepth 100000 in
set_option maxHeartbeats 4000000 in
theorem ct_X12_allGrief {l : Launch} {E : En}  {a0 : Nat} {st : St} {post : Int32 → St → Prop} (h : P_X12_allGrief  a0 st post) : CtI l E (CFc E) 1 0 0 yX12_allGrief cX12_allGrief 3 (some .int) [.ref a0] st post := by
  refine ctI_of (by decide) (Nat.le_of_ble_eq_true rfl) ?_
  show Jg l E (CFc E) (Rm 1 0 0) cX12_allGrief 3 RX12 (some .int) (fun _ => True) (QI E post 0 0) 0 0 0 [(0, .ref a0)] [] st
  unfold P_X12_allGrief at h
  refine J_iconst 0 dX12_allGrief_0 (by decide) ?_
  refine J_istore_n _ dX12_allGrief_1 rfl (by decide) rfl ?_
  refine J_iconst 0 dX12_allGrief_2 (by decide) ?_
  refine J_istore_n _ dX12_allGrief_3 rfl (by decide) rfl ?_
  obtain ⟨n8, h⟩ := h
  exact J_lv [2, 1, 0] rfl (K_X12_allGrief_4   a0  n8 0 0 st h)
/-! X12_tieMany -/
def P_X12_tieMany_4  (a0 : Nat)  (post : Int32 → St → Prop) : Nat → Int32 → Int32 → St → Prop
  | 0, _, _, _ => False
  | n9 + 1, x1, x2, st => ∃ r_1, rv st a0 12 5 = some r_1 ∧ vp_in 0 (al 0 r_1) ∧ (((gA st r_1 (0 : Int32).toNatClampNeg) ≤ x2 → post x1 st) ∧ (¬ (gA st r_1 (0 : Int32).toNatClampNeg) ≤ x2 → oC a0 12 ∧ P_X12_tiesOf  a0 x2 st (fun z_2 st_3 => P_X12_bitsOf  z_2 st_3 (fun z_4 st_5 => P_X12_tieMany_4  a0  post n9 (x1 + z_4) (x2 + 1) st_5))))
def P_X12_tieMany  (a0 : Nat) (st : St) (post : Int32 → St → Prop) : Prop := ∃ n8, P_X12_tieMany_4  a0  post n8 0 0 st
set_option maxRecDepth 100000 in
set_option maxHeartbeats 4000000 in
theorem K_X12_tieMany_4 {l : Launch} {E : En}   (a0 : Nat)  {post : Int32 → St → Prop}   : ∀ (n9 : Nat) (x1 : Int32) (x2 : Int32) (st : St), P_X12_tieMany_4  a0  post n9 x1 x2 st → Jg l E (CFc E) (Rm 2 0 0) cX12_tieMany 3 RX12 (some .int) (fun _ => True) (QI E post 0 0) 0 0 4 [(0, .ref a0), (1, .int x1), (2, .int x2)] [] st := by
  intro n9
  induction n9 with
  | zero => intro x1 x2 st h; exact h.elim
  | succ n9 ih =>
    intro x1 x2 st h
    unfold P_X12_tieMany_4 at h
    refine J_iload_n 2 dX12_tieMany_4 rfl rfl ?_
    refine J_aload_n 0 dX12_tieMany_5 rfl rfl ?_
    obtain ⟨r_1, hf, h⟩ := h
    refine J_getR fl_RX12_48 dX12_tieMany_6 hf ?_
    refine J_iconst 0 dX12_tieMany_9 (by decide) ?_
    obtain ⟨hi, h⟩ := h
    refine J_iald dX12_tieMany_10 hi ?_
    refine J_icmp_ge 31 dX12_tieMany_11 (by decide) (fun hc => ?_) (fun hc => ?_)
    · have h := h.1 hc
      refine J_iload_n 1 dX12_tieMany_31 rfl rfl ?_
      exact J_reti rfl dX12_tieMany_32 h
    · have h := h.2 hc
      refine J_iload_n 1 dX12_tieMany_14 rfl rfl ?_
      refine J_aload_n 0 dX12_tieMany_15 rfl rfl ?_
      refine J_iload_n 2 dX12_tieMany_16 rfl rfl ?_
      obtain ⟨ho, h⟩ := h
      refine J_cvi (As := [_]) md_X12_tiesOf k_1153 (rc_obj cl_12 ho) rfl rfl ⟨Nat.le_of_ble_eq_true rfl, Nat.le_of_ble_eq_true rfl⟩ ⟨Nat.le_of_ble_eq_true rfl, Nat.le_of_ble_eq_true rfl⟩ (Nat.le_of_ble_eq_true rfl) dX12_tieMany_17 (ct_X12_tiesOf  h) (fun z_2 st_3 h => ?_)
      refine J_csi (As := [_]) md_X12_bitsOf k_1111 rfl rfl ⟨Nat.le_of_ble_eq_true rfl, Nat.le_of_ble_eq_true rfl⟩ ⟨Nat.le_of_ble_eq_true rfl, Nat.le_of_ble_eq_true rfl⟩ (Nat.le_of_ble_eq_true rfl) dX12_tieMany_20 (ct_X12_bitsOf  h) (fun z_4 st_5 h => ?_)
      refine J_iadd dX12_tieMany_23 ?_
      refine J_istore_n _ dX12_tieMany_24 rfl (by decide) rfl ?_
      refine J_iinc 2 (x2 + 1) _ dX12_tieMany_25 rfl (by rfl) (by decide) rfl ?_
      refine J_goto 4 dX12_tieMany_28 (by decide) ?_
      exact J_lv [2, 1, 0] rfl (ih (x1 + z_4) (x2 + 1) st_5 h)
set_option maxRecDepth 100000 in
set_option maxHeartbeats 4000000 in
theorem ct_X12_tieMany {l : Launch} {E : En}  {a0 : Nat} {st : St} {post : Int32 → St → Prop} (h : P_X12_tieMany  a0 st post) : CtI l E (CFc E) 2 0 0 yX12_tieMany cX12_tieMany 3 (some .int) [.ref a0] st post := by
  refine ctI_of (by decide) (Nat.le_of_ble_eq_true rfl) ?_
  show Jg l E (CFc E) (Rm 2 0 0) cX12_tieMany 3 RX12 (some .int) (fun _ => True) (QI E post 0 0) 0 0 0 [(0, .ref a0)] [] st
  unfold P_X12_tieMany at h
  refine J_iconst 0 dX12_tieMany_0 (by decide) ?_
  refine J_istore_n _ dX12_tieMany_1 rfl (by decide) rfl ?_
  refine J_iconst 0 dX12_tieMany_2 (by decide) ?_
  refine J_istore_n _ dX12_tieMany_3 rfl (by decide) rfl ?_
  obtain ⟨n8, h⟩ := h
  exact J_lv [2, 1, 0] rfl (K_X12_tieMany_4   a0  n8 0 0 st h)
/-! X12_count -/
def P_X12_count  (a0 : Nat) (a1 : Int32) (st : St) (post : Int32 → St → Prop) : Prop := fk a0 12 4 = some 0 ∧ ((((a1 : Int32).toInt < 0 ∨ 12 < (a1 : Int32).toInt) → oC a0 12 ∧ P_X12_fail  a0 1 (sI st a0 4 0) (fun z_1 st_2 => post z_1 st_2)) ∧ ((a1 : Int32).toInt = 0 → ∃ r_3, rv (sI st a0 4 0) a0 12 5 = some r_3 ∧ vp_in a1 (al 0 r_3) ∧ post (gA (sI st a0 4 0) r_3 (a1 : Int32).toNatClampNeg) (sI st a0 4 0)) ∧ ((a1 : Int32).toInt = 1 → ∃ r_4, rv (sI st a0 4 0) a0 12 5 = some r_4 ∧ vp_in a1 (al 0 r_4) ∧ post (gA (sI st a0 4 0) r_4 (a1 : Int32).toNatClampNeg) (sI st a0 4 0)) ∧ ((a1 : Int32).toInt = 2 → oC a0 12 ∧ P_X12_tieMany  a0 (sI st a0 4 0) (fun z_5 st_6 => post z_5 st_6)) ∧ ((a1 : Int32).toInt = 3 → fk a0 12 36 = some 0 ∧ post (gI (sI st a0 4 0) a0 36) (sI st a0 4 0)) ∧ ((a1 : Int32).toInt = 4 → oC a0 12 ∧ P_X12_atHome  a0 (sI st a0 4 0) (fun z_7 st_8 => post z_7 st_8)) ∧ ((a1 : Int32).toInt = 5 → fk a0 12 37 = some 0 ∧ post (gI (sI st a0 4 0) a0 37) (sI st a0 4 0)) ∧ ((a1 : Int32).toInt = 6 → oC a0 12 ∧ P_X12_allGrief  a0 (sI st a0 4 0) (fun z_9 st_10 => post z_9 st_10)) ∧ ((a1 : Int32).toInt = 7 → fk a0 12 38 = some 0 ∧ post (gI (sI st a0 4 0) a0 38) (sI st a0 4 0)) ∧ ((a1 : Int32).toInt = 8 → fk a0 12 39 = some 0 ∧ post (gI (sI st a0 4 0) a0 39) (sI st a0 4 0)) ∧ ((a1 : Int32).toInt = 9 → fk a0 12 16 = some 0 ∧ post (gI (sI st a0 4 0) a0 16) (sI st a0 4 0)) ∧ ((a1 : Int32).toInt = 10 → ∃ r_11, rv (sI st a0 4 0) a0 12 14 = some r_11 ∧ vp_in (a1 - 10) (al 0 r_11) ∧ post (gA (sI st a0 4 0) r_11 (a1 - 10 : Int32).toNatClampNeg) (sI st a0 4 0)) ∧ ((a1 : Int32).toInt = 11 → ∃ r_12, rv (sI st a0 4 0) a0 12 14 = some r_12 ∧ vp_in (a1 - 10) (al 0 r_12) ∧ post (gA (sI st a0 4 0) r_12 (a1 - 10 : Int32).toNatClampNeg) (sI st a0 4 0)) ∧ ((a1 : Int32).toInt = 12 → ∃ r_13, rv (sI st a0 4 0) a0 12 14 = some r_13 ∧ vp_in (a1 - 10) (al 0 r_13) ∧ post (gA (sI st a0 4 0) r_13 (a1 - 10 : Int32).toNatClampNeg) (sI st a0 4 0)) ∧ True)
set_option maxRecDepth 100000 in
set_option maxHeartbeats 4000000 in
theorem ct_X12_count {l : Launch} {E : En}  {a0 : Nat} {a1 : Int32} {st : St} {post : Int32 → St → Prop} (h : P_X12_count  a0 a1 st post) : CtI l E (CFc E) 3 0 0 yX12_count cX12_count 2 (some .int) [.ref a0, .int a1] st post := by
  refine ctI_of (by decide) (Nat.le_of_ble_eq_true rfl) ?_
  show Jg l E (CFc E) (Rm 3 0 0) cX12_count 2 RX12 (some .int) (fun _ => True) (QI E post 0 0) 0 0 0 [(0, .ref a0), (1, .int a1)] [] st
  unfold P_X12_count at h
  refine J_aload_n 0 dX12_count_0 rfl rfl ?_
  refine J_iconst 0 dX12_count_1 (by decide) ?_
  obtain ⟨hf, h⟩ := h
  refine J_putI fp_RX12_184 dX12_count_2 rfl hf ?_
  refine J_iload_n 1 dX12_count_5 rfl rfl ?_
  rcases (show (a1 : Int32).toInt < 0 ∨ (a1 : Int32).toInt = 0 ∨ (a1 : Int32).toInt = 1 ∨ (a1 : Int32).toInt = 2 ∨ (a1 : Int32).toInt = 3 ∨ (a1 : Int32).toInt = 4 ∨ (a1 : Int32).toInt = 5 ∨ (a1 : Int32).toInt = 6 ∨ (a1 : Int32).toInt = 7 ∨ (a1 : Int32).toInt = 8 ∨ (a1 : Int32).toInt = 9 ∨ (a1 : Int32).toInt = 10 ∨ (a1 : Int32).toInt = 11 ∨ (a1 : Int32).toInt = 12 ∨ 12 < (a1 : Int32).toInt by omega) with hc | hc | hc | hc | hc | hc | hc | hc | hc | hc | hc | hc | hc | hc | hc
  · have h := h.1 (Or.inl hc)
    refine J_tsOut 129 dX12_count_6 (Or.inl hc) (by decide) ?_
    refine J_aload_n 0 dX12_count_129 rfl rfl ?_
    refine J_iconst 1 dX12_count_130 (by decide) ?_
    obtain ⟨ho, h⟩ := h
    refine J_cvi (As := [_]) md_X12_fail k_1093 (rc_obj cl_12 ho) rfl rfl ⟨Nat.le_of_ble_eq_true rfl, Nat.le_of_ble_eq_true rfl⟩ ⟨Nat.le_of_ble_eq_true rfl, Nat.le_of_ble_eq_true rfl⟩ (Nat.le_of_ble_eq_true rfl) dX12_count_131 (ct_X12_fail  h) (fun z_1 st_2 h => ?_)
    exact J_reti rfl dX12_count_134 h
  · have h := h.2.1 hc
    refine J_tsIn 72 (0) dX12_count_6 hc (by decide) (by decide) rfl (by decide) ?_
    refine J_aload_n 0 dX12_count_72 rfl rfl ?_
    obtain ⟨r_3, hf, h⟩ := h
    refine J_getR fl_RX12_48 dX12_count_73 hf ?_
    refine J_iload_n 1 dX12_count_76 rfl rfl ?_
    obtain ⟨hi, h⟩ := h
    refine J_iald dX12_count_77 hi ?_
    exact J_reti rfl dX12_count_78 h
  · have h := h.2.2.1 hc
    refine J_tsIn 72 (1) dX12_count_6 hc (by decide) (by decide) rfl (by decide) ?_
    refine J_aload_n 0 dX12_count_72 rfl rfl ?_
    obtain ⟨r_4, hf, h⟩ := h
    refine J_getR fl_RX12_48 dX12_count_73 hf ?_
    refine J_iload_n 1 dX12_count_76 rfl rfl ?_
    obtain ⟨hi, h⟩ := h
    refine J_iald dX12_count_77 hi ?_
    exact J_reti rfl dX12_count_78 h
  · have h := h.2.2.2.1 hc
    refine J_tsIn 79 (2) dX12_count_6 hc (by decide) (by decide) rfl (by decide) ?_
    refine J_aload_n 0 dX12_count_79 rfl rfl ?_
    obtain ⟨ho, h⟩ := h
    refine J_cvi (As := []) md_X12_tieMany k_1156 (rc_obj cl_12 ho) rfl rfl ⟨Nat.le_of_ble_eq_true rfl, Nat.le_of_ble_eq_true rfl⟩ ⟨Nat.le_of_ble_eq_true rfl, Nat.le_of_ble_eq_true rfl⟩ (Nat.le_of_ble_eq_true rfl) dX12_count_80 (ct_X12_tieMany  h) (fun z_5 st_6 h => ?_)
    exact J_reti rfl dX12_count_83 h
  · have h := h.2.2.2.2.1 hc
    refine J_tsIn 84 (3) dX12_count_6 hc (by decide) (by decide) rfl (by decide) ?_
    refine J_aload_n 0 dX12_count_84 rfl rfl ?_
    obtain ⟨hf, h⟩ := h
    refine J_getI fl_RX12_342 dX12_count_85 hf ?_
    exact J_reti rfl dX12_count_88 h
  · have h := h.2.2.2.2.2.1 hc
    refine J_tsIn 89 (4) dX12_count_6 hc (by decide) (by decide) rfl (by decide) ?_
    refine J_aload_n 0 dX12_count_89 rfl rfl ?_
    obtain ⟨ho, h⟩ := h
    refine J_cvi (As := []) md_X12_atHome k_1159 (rc_obj cl_12 ho) rfl rfl ⟨Nat.le_of_ble_eq_true rfl, Nat.le_of_ble_eq_true rfl⟩ ⟨Nat.le_of_ble_eq_true rfl, Nat.le_of_ble_eq_true rfl⟩ (Nat.le_of_ble_eq_true rfl) dX12_count_90 (ct_X12_atHome  h) (fun z_7 st_8 h => ?_)
    exact J_reti rfl dX12_count_93 h
  · have h := h.2.2.2.2.2.2.1 hc
    refine J_tsIn 94 (5) dX12_count_6 hc (by decide) (by decide) rfl (by decide) ?_
    refine J_aload_n 0 dX12_count_94 rfl rfl ?_
    obtain ⟨hf, h⟩ := h
    refine J_getI fl_RX12_344 dX12_count_95 hf ?_
    exact J_reti rfl dX12_count_98 h
  · have h := h.2.2.2.2.2.2.2.1 hc
    refine J_tsIn 99 (6) dX12_count_6 hc (by decide) (by decide) rfl (by decide) ?_
    refine J_aload_n 0 dX12_count_99 rfl rfl ?_
    obtain ⟨ho, h⟩ := h
    refine J_cvi (As := []) md_X12_allGrief k_1162 (rc_obj cl_12 ho) rfl rfl ⟨Nat.le_of_ble_eq_true rfl, Nat.le_of_ble_eq_true rfl⟩ ⟨Nat.le_of_ble_eq_true rfl, Nat.le_of_ble_eq_true rfl⟩ (Nat.le_of_ble_eq_true rfl) dX12_count_100 (ct_X12_allGrief  h) (fun z_9 st_10 h => ?_)
    exact J_reti rfl dX12_count_103 h
  · have h := h.2.2.2.2.2.2.2.2.1 hc
    refine J_tsIn 104 (7) dX12_count_6 hc (by decide) (by decide) rfl (by decide) ?_
    refine J_aload_n 0 dX12_count_104 rfl rfl ?_
    obtain ⟨hf, h⟩ := h
    refine J_getI fl_RX12_347 dX12_count_105 hf ?_
    exact J_reti rfl dX12_count_108 h
  · have h := h.2.2.2.2.2.2.2.2.2.1 hc
    refine J_tsIn 109 (8) dX12_count_6 hc (by decide) (by decide) rfl (by decide) ?_
    refine J_aload_n 0 dX12_count_109 rfl rfl ?_
    obtain ⟨hf, h⟩ := h
    refine J_getI fl_RX12_350 dX12_count_110 hf ?_
    exact J_reti rfl dX12_count_113 h
  · have h := h.2.2.2.2.2.2.2.2.2.2.1 hc
    refine J_tsIn 114 (9) dX12_count_6 hc (by decide) (by decide) rfl (by decide) ?_
    refine J_aload_n 0 dX12_count_114 rfl rfl ?_
    obtain ⟨hf, h⟩ := h
    refine J_getI fl_RX12_191 dX12_count_115 hf ?_
    exact J_reti rfl dX12_count_118 h
  · have h := h.2.2.2.2.2.2.2.2.2.2.2.1 hc
    refine J_tsIn 119 (10) dX12_count_6 hc (by decide) (by decide) rfl (by decide) ?_
    refine J_aload_n 0 dX12_count_119 rfl rfl ?_
    obtain ⟨r_11, hf, h⟩ := h
    refine J_getR fl_RX12_75 dX12_count_120 hf ?_
    refine J_iload_n 1 dX12_count_123 rfl rfl ?_
    refine J_bipush 10 dX12_count_124 (by decide) ?_
    refine J_isub dX12_count_126 ?_
    obtain ⟨hi, h⟩ := h
    refine J_iald dX12_count_127 hi ?_
    exact J_reti rfl dX12_count_128 h
  · have h := h.2.2.2.2.2.2.2.2.2.2.2.2.1 hc
    refine J_tsIn 119 (11) dX12_count_6 hc (by decide) (by decide) rfl (by decide) ?_
    refine J_aload_n 0 dX12_count_119 rfl rfl ?_
    obtain ⟨r_12, hf, h⟩ := h
    refine J_getR fl_RX12_75 dX12_count_120 hf ?_
    refine J_iload_n 1 dX12_count_123 rfl rfl ?_
    refine J_bipush 10 dX12_count_124 (by decide) ?_
    refine J_isub dX12_count_126 ?_
    obtain ⟨hi, h⟩ := h
    refine J_iald dX12_count_127 hi ?_
    exact J_reti rfl dX12_count_128 h
  · have h := h.2.2.2.2.2.2.2.2.2.2.2.2.2.1 hc
    refine J_tsIn 119 (12) dX12_count_6 hc (by decide) (by decide) rfl (by decide) ?_
    refine J_aload_n 0 dX12_count_119 rfl rfl ?_
    obtain ⟨r_13, hf, h⟩ := h
    refine J_getR fl_RX12_75 dX12_count_120 hf ?_
    refine J_iload_n 1 dX12_count_123 rfl rfl ?_
    refine J_bipush 10 dX12_count_124 (by decide) ?_
    refine J_isub dX12_count_126 ?_
    obtain ⟨hi, h⟩ := h
    refine J_iald dX12_count_127 hi ?_
    exact J_reti rfl dX12_count_128 h
  · have h := h.1 (Or.inr hc)
    refine J_tsOut 129 dX12_count_6 (Or.inr hc) (by decide) ?_
    refine J_aload_n 0 dX12_count_129 rfl rfl ?_
    refine J_iconst 1 dX12_count_130 (by decide) ?_
    obtain ⟨ho, h⟩ := h
    refine J_cvi (As := [_]) md_X12_fail k_1093 (rc_obj cl_12 ho) rfl rfl ⟨Nat.le_of_ble_eq_true rfl, Nat.le_of_ble_eq_true rfl⟩ ⟨Nat.le_of_ble_eq_true rfl, Nat.le_of_ble_eq_true rfl⟩ (Nat.le_of_ble_eq_true rfl) dX12_count_131 (ct_X12_fail  h) (fun z_1 st_2 h => ?_)
    exact J_reti rfl dX12_count_134 h
/-! X12_person -/
def P_X12_person  (a0 : Nat) (a1 : Int32) (a2 : Int32) (st : St) (post : Int32 → St → Prop) : Prop := fk a0 12 4 = some 0 ∧ oC a0 12 ∧ P_X12_isPerson  a0 a1 (sI st a0 4 0) (fun z_1 st_2 => ((¬ z_1 = 0 → ((((a2 : Int32).toInt < 0 ∨ 5 < (a2 : Int32).toInt) → oC a0 12 ∧ P_X12_fail  a0 1 st_2 (fun z_3 st_4 => post z_3 st_4)) ∧ ((a2 : Int32).toInt = 0 → ∃ r_5, rv st_2 a0 12 6 = some r_5 ∧ vp_in a1 (al 0 r_5) ∧ post (gA st_2 r_5 (a1 : Int32).toNatClampNeg) st_2) ∧ ((a2 : Int32).toInt = 1 → ∃ r_6, rv st_2 a0 12 27 = some r_6 ∧ vp_in a1 (al 0 r_6) ∧ post (gA st_2 r_6 (a1 : Int32).toNatClampNeg) st_2) ∧ ((a2 : Int32).toInt = 2 → ∃ r_7, rv st_2 a0 12 28 = some r_7 ∧ vp_in a1 (al 0 r_7) ∧ post (gA st_2 r_7 (a1 : Int32).toNatClampNeg) st_2) ∧ ((a2 : Int32).toInt = 3 → ∃ r_8, rv st_2 a0 12 29 = some r_8 ∧ vp_in a1 (al 0 r_8) ∧ post (gA st_2 r_8 (a1 : Int32).toNatClampNeg) st_2) ∧ ((a2 : Int32).toInt = 4 → ∃ r_9, rv st_2 a0 12 30 = some r_9 ∧ vp_in a1 (al 0 r_9) ∧ post (gA st_2 r_9 (a1 : Int32).toNatClampNeg) st_2) ∧ ((a2 : Int32).toInt = 5 → oC a0 12 ∧ P_X12_tiesOf  a0 a1 st_2 (fun z_10 st_11 => post z_10 st_11)) ∧ True)) ∧ (z_1 = 0 → oC a0 12 ∧ P_X12_fail  a0 1 st_2 (fun z_12 st_13 => post z_12 st_13))))
set_option maxRecDepth 100000 in
set_option maxHeartbeats 4000000 in
theorem ct_X12_person {l : Launch} {E : En}  {a0 : Nat} {a1 : Int32} {a2 : Int32} {st : St} {post : Int32 → St → Prop} (h : P_X12_person  a0 a1 a2 st post) : CtI l E (CFc E) 3 0 0 yX12_person cX12_person 3 (some .int) [.ref a0, .int a1, .int a2] st post := by
  refine ctI_of (by decide) (Nat.le_of_ble_eq_true rfl) ?_
  show Jg l E (CFc E) (Rm 3 0 0) cX12_person 3 RX12 (some .int) (fun _ => True) (QI E post 0 0) 0 0 0 [(0, .ref a0), (1, .int a1), (2, .int a2)] [] st
  unfold P_X12_person at h
  refine J_aload_n 0 dX12_person_0 rfl rfl ?_
  refine J_iconst 0 dX12_person_1 (by decide) ?_
  obtain ⟨hf, h⟩ := h
  refine J_putI fp_RX12_184 dX12_person_2 rfl hf ?_
  refine J_aload_n 0 dX12_person_5 rfl rfl ?_
  refine J_iload_n 1 dX12_person_6 rfl rfl ?_
  obtain ⟨ho, h⟩ := h
  refine J_cvi (As := [_]) md_X12_isPerson k_1167 (rc_obj cl_12 ho) rfl rfl ⟨Nat.le_of_ble_eq_true rfl, Nat.le_of_ble_eq_true rfl⟩ ⟨Nat.le_of_ble_eq_true rfl, Nat.le_of_ble_eq_true rfl⟩ (Nat.le_of_ble_eq_true rfl) dX12_person_7 (ct_X12_isPerson  h) (fun z_1 st_2 h => ?_)
  refine J_if_ne 19 dX12_person_10 (by decide) (fun hc => ?_) (fun hc => ?_)
  · have h := h.1 hc
    refine J_iload_n 2 dX12_person_19 rfl rfl ?_
    rcases (show (a2 : Int32).toInt < 0 ∨ (a2 : Int32).toInt = 0 ∨ (a2 : Int32).toInt = 1 ∨ (a2 : Int32).toInt = 2 ∨ (a2 : Int32).toInt = 3 ∨ (a2 : Int32).toInt = 4 ∨ (a2 : Int32).toInt = 5 ∨ 5 < (a2 : Int32).toInt by omega) with hc | hc | hc | hc | hc | hc | hc | hc
    · have h := h.1 (Or.inl hc)
      refine J_tsOut 101 dX12_person_20 (Or.inl hc) (by decide) ?_
      refine J_aload_n 0 dX12_person_101 rfl rfl ?_
      refine J_iconst 1 dX12_person_102 (by decide) ?_
      obtain ⟨ho, h⟩ := h
      refine J_cvi (As := [_]) md_X12_fail k_1093 (rc_obj cl_12 ho) rfl rfl ⟨Nat.le_of_ble_eq_true rfl, Nat.le_of_ble_eq_true rfl⟩ ⟨Nat.le_of_ble_eq_true rfl, Nat.le_of_ble_eq_true rfl⟩ (Nat.le_of_ble_eq_true rfl) dX12_person_103 (ct_X12_fail  h) (fun z_3 st_4 h => ?_)
      exact J_reti rfl dX12_person_106 h
    · have h := h.2.1 hc
      refine J_tsIn 60 (0) dX12_person_20 hc (by decide) (by decide) rfl (by decide) ?_
      refine J_aload_n 0 dX12_person_60 rfl rfl ?_
      obtain ⟨r_5, hf, h⟩ := h
      refine J_getR fl_RX12_52 dX12_person_61 hf ?_
      refine J_iload_n 1 dX12_person_64 rfl rfl ?_
      obtain ⟨hi, h⟩ := h
      refine J_iald dX12_person_65 hi ?_
      exact J_reti rfl dX12_person_66 h
    · have h := h.2.2.1 hc
      refine J_tsIn 67 (1) dX12_person_20 hc (by decide) (by decide) rfl (by decide) ?_
      refine J_aload_n 0 dX12_person_67 rfl rfl ?_
      obtain ⟨r_6, hf, h⟩ := h
      refine J_getR fl_RX12_85 dX12_person_68 hf ?_
      refine J_iload_n 1 dX12_person_71 rfl rfl ?_
      obtain ⟨hi, h⟩ := h
      refine J_iald dX12_person_72 hi ?_
      exact J_reti rfl dX12_person_73 h
    · have h := h.2.2.2.1 hc
      refine J_tsIn 74 (2) dX12_person_20 hc (by decide) (by decide) rfl (by decide) ?_
      refine J_aload_n 0 dX12_person_74 rfl rfl ?_
      obtain ⟨r_7, hf, h⟩ := h
      refine J_getR fl_RX12_87 dX12_person_75 hf ?_
      refine J_iload_n 1 dX12_person_78 rfl rfl ?_
      obtain ⟨hi, h⟩ := h
      refine J_iald dX12_person_79 hi ?_
      exact J_reti rfl dX12_person_80 h
    · have h := h.2.2.2.2.1 hc
      refine J_tsIn 81 (3) dX12_person_20 hc (by decide) (by decide) rfl (by decide) ?_
      refine J_aload_n 0 dX12_person_81 rfl rfl ?_
      obtain ⟨r_8, hf, h⟩ := h
      refine J_getR fl_RX12_90 dX12_person_82 hf ?_
      refine J_iload_n 1 dX12_person_85 rfl rfl ?_
      obtain ⟨hi, h⟩ := h
      refine J_iald dX12_person_86 hi ?_
      exact J_reti rfl dX12_person_87 h
    · have h := h.2.2.2.2.2.1 hc
      refine J_tsIn 88 (4) dX12_person_20 hc (by decide) (by decide) rfl (by decide) ?_
      refine J_aload_n 0 dX12_person_88 rfl rfl ?_
      obtain ⟨r_9, hf, h⟩ := h
      refine J_getR fl_RX12_93 dX12_person_89 hf ?_
      refine J_iload_n 1 dX12_person_92 rfl rfl ?_
      obtain ⟨hi, h⟩ := h
      refine J_iald dX12_person_93 hi ?_
      exact J_reti rfl dX12_person_94 h
    · have h := h.2.2.2.2.2.2.1 hc
      refine J_tsIn 95 (5) dX12_person_20 hc (by decide) (by decide) rfl (by decide) ?_
      refine J_aload_n 0 dX12_person_95 rfl rfl ?_
      refine J_iload_n 1 dX12_person_96 rfl rfl ?_
      obtain ⟨ho, h⟩ := h
      refine J_cvi (As := [_]) md_X12_tiesOf k_1153 (rc_obj cl_12 ho) rfl rfl ⟨Nat.le_of_ble_eq_true rfl, Nat.le_of_ble_eq_true rfl⟩ ⟨Nat.le_of_ble_eq_true rfl, Nat.le_of_ble_eq_true rfl⟩ (Nat.le_of_ble_eq_true rfl) dX12_person_97 (ct_X12_tiesOf  h) (fun z_10 st_11 h => ?_)
      exact J_reti rfl dX12_person_100 h
    · have h := h.1 (Or.inr hc)
      refine J_tsOut 101 dX12_person_20 (Or.inr hc) (by decide) ?_
      refine J_aload_n 0 dX12_person_101 rfl rfl ?_
      refine J_iconst 1 dX12_person_102 (by decide) ?_
      obtain ⟨ho, h⟩ := h
      refine J_cvi (As := [_]) md_X12_fail k_1093 (rc_obj cl_12 ho) rfl rfl ⟨Nat.le_of_ble_eq_true rfl, Nat.le_of_ble_eq_true rfl⟩ ⟨Nat.le_of_ble_eq_true rfl, Nat.le_of_ble_eq_true rfl⟩ (Nat.le_of_ble_eq_true rfl) dX12_person_103 (ct_X12_fail  h) (fun z_3 st_4 h => ?_)
      exact J_reti rfl dX12_person_106 h
  · have h := h.2 hc
    refine J_aload_n 0 dX12_person_13 rfl rfl ?_
    refine J_iconst 1 dX12_person_14 (by decide) ?_
    obtain ⟨ho, h⟩ := h
    refine J_cvi (As := [_]) md_X12_fail k_1093 (rc_obj cl_12 ho) rfl rfl ⟨Nat.le_of_ble_eq_true rfl, Nat.le_of_ble_eq_true rfl⟩ ⟨Nat.le_of_ble_eq_true rfl, Nat.le_of_ble_eq_true rfl⟩ (Nat.le_of_ble_eq_true rfl) dX12_person_15 (ct_X12_fail  h) (fun z_12 st_13 h => ?_)
    exact J_reti rfl dX12_person_18 h
/-! X12_bride -/
def P_X12_bride  (a0 : Nat) (a1 : Int32) (a2 : Int32) (st : St) (post : Int32 → St → Prop) : Prop := fk a0 12 4 = some 0 ∧ oC a0 12 ∧ P_X12_isBride  a0 a1 (sI st a0 4 0) (fun z_1 st_2 => ((¬ z_1 = 0 → ((((a2 : Int32).toInt < 0 ∨ 5 < (a2 : Int32).toInt) → oC a0 12 ∧ P_X12_fail  a0 1 st_2 (fun z_3 st_4 => post z_3 st_4)) ∧ ((a2 : Int32).toInt = 0 → ∃ r_5, rv st_2 a0 12 31 = some r_5 ∧ vp_in a1 (al 0 r_5) ∧ post (gA st_2 r_5 (a1 : Int32).toNatClampNeg) st_2) ∧ ((a2 : Int32).toInt = 1 → ∃ r_6, rv st_2 a0 12 32 = some r_6 ∧ vp_in a1 (al 0 r_6) ∧ post (gA st_2 r_6 (a1 : Int32).toNatClampNeg) st_2) ∧ ((a2 : Int32).toInt = 2 → ∃ r_7, rv st_2 a0 12 33 = some r_7 ∧ vp_in a1 (al 0 r_7) ∧ post (gA st_2 r_7 (a1 : Int32).toNatClampNeg) st_2) ∧ ((a2 : Int32).toInt = 3 → oC a0 12 ∧ P_X12_tiedTo  a0 a1 st_2 (fun z_8 st_9 => post z_8 st_9)) ∧ ((a2 : Int32).toInt = 4 → oC a0 12 ∧ P_X12_heaviest  a0 a1 st_2 (fun z_10 st_11 => post z_10 st_11)) ∧ ((a2 : Int32).toInt = 5 → oC a0 12 ∧ P_X12_tiedTo  a0 a1 st_2 (fun z_12 st_13 => P_X12_bitsOf  z_12 st_13 (fun z_14 st_15 => post (if (0 : Int32) < (z_14 - 1) then (z_14 - 1) else 0) st_15))) ∧ True)) ∧ (z_1 = 0 → oC a0 12 ∧ P_X12_fail  a0 1 st_2 (fun z_16 st_17 => post z_16 st_17))))
set_option maxRecDepth 100000 in
set_option maxHeartbeats 4000000 in
theorem ct_X12_bride {l : Launch} {E : En}  {a0 : Nat} {a1 : Int32} {a2 : Int32} {st : St} {post : Int32 → St → Prop} (h : P_X12_bride  a0 a1 a2 st post) : CtI l E (CFc E) 5 0 0 yX12_bride cX12_bride 3 (some .int) [.ref a0, .int a1, .int a2] st post := by
  refine ctI_of (by decide) (Nat.le_of_ble_eq_true rfl) ?_
  show Jg l E (CFc E) (Rm 5 0 0) cX12_bride 3 RX12 (some .int) (fun _ => True) (QI E post 0 0) 0 0 0 [(0, .ref a0), (1, .int a1), (2, .int a2)] [] st
  unfold P_X12_bride at h
  refine J_aload_n 0 dX12_bride_0 rfl rfl ?_
  refine J_iconst 0 dX12_bride_1 (by decide) ?_
  obtain ⟨hf, h⟩ := h
  refine J_putI fp_RX12_184 dX12_bride_2 rfl hf ?_
  refine J_aload_n 0 dX12_bride_5 rfl rfl ?_
  refine J_iload_n 1 dX12_bride_6 rfl rfl ?_
  obtain ⟨ho, h⟩ := h
  refine J_cvi (As := [_]) md_X12_isBride k_1170 (rc_obj cl_12 ho) rfl rfl ⟨Nat.le_of_ble_eq_true rfl, Nat.le_of_ble_eq_true rfl⟩ ⟨Nat.le_of_ble_eq_true rfl, Nat.le_of_ble_eq_true rfl⟩ (Nat.le_of_ble_eq_true rfl) dX12_bride_7 (ct_X12_isBride  h) (fun z_1 st_2 h => ?_)
  refine J_if_ne 19 dX12_bride_10 (by decide) (fun hc => ?_) (fun hc => ?_)
  · have h := h.1 hc
    refine J_iload_n 2 dX12_bride_19 rfl rfl ?_
    rcases (show (a2 : Int32).toInt < 0 ∨ (a2 : Int32).toInt = 0 ∨ (a2 : Int32).toInt = 1 ∨ (a2 : Int32).toInt = 2 ∨ (a2 : Int32).toInt = 3 ∨ (a2 : Int32).toInt = 4 ∨ (a2 : Int32).toInt = 5 ∨ 5 < (a2 : Int32).toInt by omega) with hc | hc | hc | hc | hc | hc | hc | hc
    · have h := h.1 (Or.inl hc)
      refine J_tsOut 108 dX12_bride_20 (Or.inl hc) (by decide) ?_
      refine J_aload_n 0 dX12_bride_108 rfl rfl ?_
      refine J_iconst 1 dX12_bride_109 (by decide) ?_
      obtain ⟨ho, h⟩ := h
      refine J_cvi (As := [_]) md_X12_fail k_1093 (rc_obj cl_12 ho) rfl rfl ⟨Nat.le_of_ble_eq_true rfl, Nat.le_of_ble_eq_true rfl⟩ ⟨Nat.le_of_ble_eq_true rfl, Nat.le_of_ble_eq_true rfl⟩ (Nat.le_of_ble_eq_true rfl) dX12_bride_110 (ct_X12_fail  h) (fun z_3 st_4 h => ?_)
      exact J_reti rfl dX12_bride_113 h
    · have h := h.2.1 hc
      refine J_tsIn 60 (0) dX12_bride_20 hc (by decide) (by decide) rfl (by decide) ?_
      refine J_aload_n 0 dX12_bride_60 rfl rfl ?_
      obtain ⟨r_5, hf, h⟩ := h
      refine J_getR fl_RX12_96 dX12_bride_61 hf ?_
      refine J_iload_n 1 dX12_bride_64 rfl rfl ?_
      obtain ⟨hi, h⟩ := h
      refine J_iald dX12_bride_65 hi ?_
      exact J_reti rfl dX12_bride_66 h
    · have h := h.2.2.1 hc
      refine J_tsIn 67 (1) dX12_bride_20 hc (by decide) (by decide) rfl (by decide) ?_
      refine J_aload_n 0 dX12_bride_67 rfl rfl ?_
      obtain ⟨r_6, hf, h⟩ := h
      refine J_getR fl_RX12_99 dX12_bride_68 hf ?_
      refine J_iload_n 1 dX12_bride_71 rfl rfl ?_
      obtain ⟨hi, h⟩ := h
      refine J_iald dX12_bride_72 hi ?_
      exact J_reti rfl dX12_bride_73 h
    · have h := h.2.2.2.1 hc
      refine J_tsIn 74 (2) dX12_bride_20 hc (by decide) (by decide) rfl (by decide) ?_
      refine J_aload_n 0 dX12_bride_74 rfl rfl ?_
      obtain ⟨r_7, hf, h⟩ := h
      refine J_getR fl_RX12_102 dX12_bride_75 hf ?_
      refine J_iload_n 1 dX12_bride_78 rfl rfl ?_
      obtain ⟨hi, h⟩ := h
      refine J_iald dX12_bride_79 hi ?_
      exact J_reti rfl dX12_bride_80 h
    · have h := h.2.2.2.2.1 hc
      refine J_tsIn 81 (3) dX12_bride_20 hc (by decide) (by decide) rfl (by decide) ?_
      refine J_aload_n 0 dX12_bride_81 rfl rfl ?_
      refine J_iload_n 1 dX12_bride_82 rfl rfl ?_
      obtain ⟨ho, h⟩ := h
      refine J_cvi (As := [_]) md_X12_tiedTo k_1119 (rc_obj cl_12 ho) rfl rfl ⟨Nat.le_of_ble_eq_true rfl, Nat.le_of_ble_eq_true rfl⟩ ⟨Nat.le_of_ble_eq_true rfl, Nat.le_of_ble_eq_true rfl⟩ (Nat.le_of_ble_eq_true rfl) dX12_bride_83 (ct_X12_tiedTo  h) (fun z_8 st_9 h => ?_)
      exact J_reti rfl dX12_bride_86 h
    · have h := h.2.2.2.2.2.1 hc
      refine J_tsIn 87 (4) dX12_bride_20 hc (by decide) (by decide) rfl (by decide) ?_
      refine J_aload_n 0 dX12_bride_87 rfl rfl ?_
      refine J_iload_n 1 dX12_bride_88 rfl rfl ?_
      obtain ⟨ho, h⟩ := h
      refine J_cvi (As := [_]) md_X12_heaviest k_1130 (rc_obj cl_12 ho) rfl rfl ⟨Nat.le_of_ble_eq_true rfl, Nat.le_of_ble_eq_true rfl⟩ ⟨Nat.le_of_ble_eq_true rfl, Nat.le_of_ble_eq_true rfl⟩ (Nat.le_of_ble_eq_true rfl) dX12_bride_89 (ct_X12_heaviest  h) (fun z_10 st_11 h => ?_)
      exact J_reti rfl dX12_bride_92 h
    · have h := h.2.2.2.2.2.2.1 hc
      refine J_tsIn 93 (5) dX12_bride_20 hc (by decide) (by decide) rfl (by decide) ?_
      refine J_iconst 0 dX12_bride_93 (by decide) ?_
      refine J_aload_n 0 dX12_bride_94 rfl rfl ?_
      refine J_iload_n 1 dX12_bride_95 rfl rfl ?_
      obtain ⟨ho, h⟩ := h
      refine J_cvi (As := [_]) md_X12_tiedTo k_1119 (rc_obj cl_12 ho) rfl rfl ⟨Nat.le_of_ble_eq_true rfl, Nat.le_of_ble_eq_true rfl⟩ ⟨Nat.le_of_ble_eq_true rfl, Nat.le_of_ble_eq_true rfl⟩ (Nat.le_of_ble_eq_true rfl) dX12_bride_96 (ct_X12_tiedTo  h) (fun z_12 st_13 h => ?_)
      refine J_csi (As := [_]) md_X12_bitsOf k_1111 rfl rfl ⟨Nat.le_of_ble_eq_true rfl, Nat.le_of_ble_eq_true rfl⟩ ⟨Nat.le_of_ble_eq_true rfl, Nat.le_of_ble_eq_true rfl⟩ (Nat.le_of_ble_eq_true rfl) dX12_bride_99 (ct_X12_bitsOf  h) (fun z_14 st_15 h => ?_)
      refine J_iconst 1 dX12_bride_102 (by decide) ?_
      refine J_isub dX12_bride_103 ?_
      refine J_mmax k_1115 k_157 k_158 k_159 ⟨Nat.le_of_ble_eq_true rfl, Nat.le_of_ble_eq_true rfl, Nat.le_of_ble_eq_true rfl, Nat.le_of_ble_eq_true rfl⟩ dX12_bride_104 ?_
      exact J_reti rfl dX12_bride_107 h
    · have h := h.1 (Or.inr hc)
      refine J_tsOut 108 dX12_bride_20 (Or.inr hc) (by decide) ?_
      refine J_aload_n 0 dX12_bride_108 rfl rfl ?_
      refine J_iconst 1 dX12_bride_109 (by decide) ?_
      obtain ⟨ho, h⟩ := h
      refine J_cvi (As := [_]) md_X12_fail k_1093 (rc_obj cl_12 ho) rfl rfl ⟨Nat.le_of_ble_eq_true rfl, Nat.le_of_ble_eq_true rfl⟩ ⟨Nat.le_of_ble_eq_true rfl, Nat.le_of_ble_eq_true rfl⟩ (Nat.le_of_ble_eq_true rfl) dX12_bride_110 (ct_X12_fail  h) (fun z_3 st_4 h => ?_)
      exact J_reti rfl dX12_bride_113 h
  · have h := h.2 hc
    refine J_aload_n 0 dX12_bride_13 rfl rfl ?_
    refine J_iconst 1 dX12_bride_14 (by decide) ?_
    obtain ⟨ho, h⟩ := h
    refine J_cvi (As := [_]) md_X12_fail k_1093 (rc_obj cl_12 ho) rfl rfl ⟨Nat.le_of_ble_eq_true rfl, Nat.le_of_ble_eq_true rfl⟩ ⟨Nat.le_of_ble_eq_true rfl, Nat.le_of_ble_eq_true rfl⟩ (Nat.le_of_ble_eq_true rfl) dX12_bride_15 (ct_X12_fail  h) (fun z_16 st_17 h => ?_)
    exact J_reti rfl dX12_bride_18 h
/-! X12_years -/
def P_X12_years_40  (a0 : Nat) (a1 : Int32) (a2 : Int32)  (post : Int32 → St → Prop) (s0 : Int32) (st : St) : Prop := post s0 st
def P_X12_years_35  (a0 : Nat) (a1 : Int32) (a2 : Int32)  (post : Int32 → St → Prop)  (st : St) : Prop := oC a0 12 ∧ P_X12_fail  a0 1 st (fun z_1 st_2 => P_X12_years_40  a0 a1 a2  post z_1 st_2)
def P_X12_years  (a0 : Nat) (a1 : Int32) (a2 : Int32) (st : St) (post : Int32 → St → Prop) : Prop := fk a0 12 4 = some 0 ∧ oC a0 12 ∧ P_X12_isPerson  a0 a1 (sI st a0 4 0) (fun z_1 st_2 => ((z_1 = 0 → P_X12_years_35  a0 a1 a2  post st_2) ∧ (¬ z_1 = 0 → oC a0 12 ∧ P_X12_isBride  a0 a2 st_2 (fun z_3 st_4 => ((z_3 = 0 → P_X12_years_35  a0 a1 a2  post st_4) ∧ (¬ z_3 = 0 → ∃ r_5, rv st_4 a0 12 34 = some r_5 ∧ vp_in ((6 * a1) + a2) (al 0 r_5) ∧ P_X12_years_40  a0 a1 a2  post (gA st_4 r_5 ((6 * a1) + a2 : Int32).toNatClampNeg) st_4))))))
set_option maxRecDepth 100000 in
set_option maxHeartbeats 4000000 in
theorem K_X12_years_40 {l : Launch} {E : En}   (a0 : Nat) (a1 : Int32) (a2 : Int32)  {post : Int32 → St → Prop}   (s0 : Int32) (st : St) (h : P_X12_years_40  a0 a1 a2  post s0 st) : Jg l E (CFc E) (Rm 3 0 0) cX12_years 3 RX12 (some .int) (fun _ => True) (QI E post 0 0) 0 0 40 [(0, .ref a0), (1, .int a1), (2, .int a2)] [.int s0] st := by
  unfold P_X12_years_40 at h
  exact J_reti rfl dX12_years_40 h
set_option maxRecDepth 100000 in
set_option maxHeartbeats 4000000 in
theorem K_X12_years_35 {l : Launch} {E : En}   (a0 : Nat) (a1 : Int32) (a2 : Int32)  {post : Int32 → St → Prop}    (st : St) (h : P_X12_years_35  a0 a1 a2  post  st) : Jg l E (CFc E) (Rm 3 0 0) cX12_years 3 RX12 (some .int) (fun _ => True) (QI E post 0 0) 0 0 35 [(0, .ref a0), (1, .int a1), (2, .int a2)] [] st := by
  unfold P_X12_years_35 at h
  refine J_aload_n 0 dX12_years_35 rfl rfl ?_
  refine J_iconst 1 dX12_years_36 (by decide) ?_
  obtain ⟨ho, h⟩ := h
  refine J_cvi (As := [_]) md_X12_fail k_1093 (rc_obj cl_12 ho) rfl rfl ⟨Nat.le_of_ble_eq_true rfl, Nat.le_of_ble_eq_true rfl⟩ ⟨Nat.le_of_ble_eq_true rfl, Nat.le_of_ble_eq_true rfl⟩ (Nat.le_of_ble_eq_true rfl) dX12_years_37 (ct_X12_fail  h) (fun z_1 st_2 h => ?_)
  exact J_lv [0, 1, 2] rfl (K_X12_years_40   a0 a1 a2  z_1 st_2 h)
set_option maxRecDepth 100000 in
set_option maxHeartbeats 4000000 in
theorem ct_X12_years {l : Launch} {E : En}  {a0 : Nat} {a1 : Int32} {a2 : Int32} {st : St} {post : Int32 → St → Prop} (h : P_X12_years  a0 a1 a2 st post) : CtI l E (CFc E) 3 0 0 yX12_years cX12_years 3 (some .int) [.ref a0, .int a1, .int a2] st post := by
  refine ctI_of (by decide) (Nat.le_of_ble_eq_true rfl) ?_
  show Jg l E (CFc E) (Rm 3 0 0) cX12_years 3 RX12 (some .int) (fun _ => True) (QI E post 0 0) 0 0 0 [(0, .ref a0), (1, .int a1), (2, .int a2)] [] st
  unfold P_X12_years at h
  refine J_aload_n 0 dX12_years_0 rfl rfl ?_
  refine J_iconst 0 dX12_years_1 (by decide) ?_
  obtain ⟨hf, h⟩ := h
  refine J_putI fp_RX12_184 dX12_years_2 rfl hf ?_
  refine J_aload_n 0 dX12_years_5 rfl rfl ?_
  refine J_iload_n 1 dX12_years_6 rfl rfl ?_
  obtain ⟨ho, h⟩ := h
  refine J_cvi (As := [_]) md_X12_isPerson k_1167 (rc_obj cl_12 ho) rfl rfl ⟨Nat.le_of_ble_eq_true rfl, Nat.le_of_ble_eq_true rfl⟩ ⟨Nat.le_of_ble_eq_true rfl, Nat.le_of_ble_eq_true rfl⟩ (Nat.le_of_ble_eq_true rfl) dX12_years_7 (ct_X12_isPerson  h) (fun z_1 st_2 h => ?_)
  refine J_if_eq 35 dX12_years_10 (by decide) (fun hc => ?_) (fun hc => ?_)
  · have h := h.1 hc
    exact J_lv [0, 1, 2] rfl (K_X12_years_35   a0 a1 a2  st_2 h)
  · have h := h.2 hc
    refine J_aload_n 0 dX12_years_13 rfl rfl ?_
    refine J_iload_n 2 dX12_years_14 rfl rfl ?_
    obtain ⟨ho, h⟩ := h
    refine J_cvi (As := [_]) md_X12_isBride k_1170 (rc_obj cl_12 ho) rfl rfl ⟨Nat.le_of_ble_eq_true rfl, Nat.le_of_ble_eq_true rfl⟩ ⟨Nat.le_of_ble_eq_true rfl, Nat.le_of_ble_eq_true rfl⟩ (Nat.le_of_ble_eq_true rfl) dX12_years_15 (ct_X12_isBride  h) (fun z_3 st_4 h => ?_)
    refine J_if_eq 35 dX12_years_18 (by decide) (fun hc => ?_) (fun hc => ?_)
    · have h := h.1 hc
      exact J_lv [0, 1, 2] rfl (K_X12_years_35   a0 a1 a2  st_4 h)
    · have h := h.2 hc
      refine J_aload_n 0 dX12_years_21 rfl rfl ?_
      obtain ⟨r_5, hf, h⟩ := h
      refine J_getR fl_RX12_105 dX12_years_22 hf ?_
      refine J_bipush 6 dX12_years_25 (by decide) ?_
      refine J_iload_n 1 dX12_years_27 rfl rfl ?_
      refine J_imul dX12_years_28 ?_
      refine J_iload_n 2 dX12_years_29 rfl rfl ?_
      refine J_iadd dX12_years_30 ?_
      obtain ⟨hi, h⟩ := h
      refine J_iald dX12_years_31 hi ?_
      refine J_goto 40 dX12_years_32 (by decide) ?_
      exact J_lv [0, 1, 2] rfl (K_X12_years_40   a0 a1 a2  (gA st_4 r_5 ((6 * a1) + a2 : Int32).toNatClampNeg) st_4 h)
/-! X12_weight -/
def P_X12_weight_35  (a0 : Nat) (a1 : Int32) (a2 : Int32)  (post : Int32 → St → Prop) (s0 : Int32) (st : St) : Prop := post s0 st
def P_X12_weight_30  (a0 : Nat) (a1 : Int32) (a2 : Int32)  (post : Int32 → St → Prop)  (st : St) : Prop := oC a0 12 ∧ P_X12_fail  a0 1 st (fun z_1 st_2 => P_X12_weight_35  a0 a1 a2  post z_1 st_2)
def P_X12_weight  (a0 : Nat) (a1 : Int32) (a2 : Int32) (st : St) (post : Int32 → St → Prop) : Prop := fk a0 12 4 = some 0 ∧ oC a0 12 ∧ P_X12_isPerson  a0 a1 (sI st a0 4 0) (fun z_1 st_2 => ((z_1 = 0 → P_X12_weight_30  a0 a1 a2  post st_2) ∧ (¬ z_1 = 0 → oC a0 12 ∧ P_X12_isBride  a0 a2 st_2 (fun z_3 st_4 => ((z_3 = 0 → P_X12_weight_30  a0 a1 a2  post st_4) ∧ (¬ z_3 = 0 → oC a0 12 ∧ P_X12_weightOf  a0 a1 a2 st_4 (fun z_5 st_6 => P_X12_weight_35  a0 a1 a2  post z_5 st_6)))))))
set_option maxRecDepth 100000 in
set_option maxHeartbeats 4000000 in
theorem K_X12_weight_35 {l : Launch} {E : En}   (a0 : Nat) (a1 : Int32) (a2 : Int32)  {post : Int32 → St → Prop}   (s0 : Int32) (st : St) (h : P_X12_weight_35  a0 a1 a2  post s0 st) : Jg l E (CFc E) (Rm 4 0 0) cX12_weight 3 RX12 (some .int) (fun _ => True) (QI E post 0 0) 0 0 35 [(0, .ref a0), (1, .int a1), (2, .int a2)] [.int s0] st := by
  unfold P_X12_weight_35 at h
  exact J_reti rfl dX12_weight_35 h
set_option maxRecDepth 100000 in
set_option maxHeartbeats 4000000 in
theorem K_X12_weight_30 {l : Launch} {E : En}   (a0 : Nat) (a1 : Int32) (a2 : Int32)  {post : Int32 → St → Prop}    (st : St) (h : P_X12_weight_30  a0 a1 a2  post  st) : Jg l E (CFc E) (Rm 4 0 0) cX12_weight 3 RX12 (some .int) (fun _ => True) (QI E post 0 0) 0 0 30 [(0, .ref a0), (1, .int a1), (2, .int a2)] [] st := by
  unfold P_X12_weight_30 at h
  refine J_aload_n 0 dX12_weight_30 rfl rfl ?_
  refine J_iconst 1 dX12_weight_31 (by decide) ?_
  obtain ⟨ho, h⟩ := h
  refine J_cvi (As := [_]) md_X12_fail k_1093 (rc_obj cl_12 ho) rfl rfl ⟨Nat.le_of_ble_eq_true rfl, Nat.le_of_ble_eq_true rfl⟩ ⟨Nat.le_of_ble_eq_true rfl, Nat.le_of_ble_eq_true rfl⟩ (Nat.le_of_ble_eq_true rfl) dX12_weight_32 (ct_X12_fail  h) (fun z_1 st_2 h => ?_)
  exact J_lv [0, 1, 2] rfl (K_X12_weight_35   a0 a1 a2  z_1 st_2 h)
set_option maxRecDepth 100000 in
set_option maxHeartbeats 4000000 in
theorem ct_X12_weight {l : Launch} {E : En}  {a0 : Nat} {a1 : Int32} {a2 : Int32} {st : St} {post : Int32 → St → Prop} (h : P_X12_weight  a0 a1 a2 st post) : CtI l E (CFc E) 4 0 0 yX12_weight cX12_weight 3 (some .int) [.ref a0, .int a1, .int a2] st post := by
  refine ctI_of (by decide) (Nat.le_of_ble_eq_true rfl) ?_
  show Jg l E (CFc E) (Rm 4 0 0) cX12_weight 3 RX12 (some .int) (fun _ => True) (QI E post 0 0) 0 0 0 [(0, .ref a0), (1, .int a1), (2, .int a2)] [] st
  unfold P_X12_weight at h
  refine J_aload_n 0 dX12_weight_0 rfl rfl ?_
  refine J_iconst 0 dX12_weight_1 (by decide) ?_
  obtain ⟨hf, h⟩ := h
  refine J_putI fp_RX12_184 dX12_weight_2 rfl hf ?_
  refine J_aload_n 0 dX12_weight_5 rfl rfl ?_
  refine J_iload_n 1 dX12_weight_6 rfl rfl ?_
  obtain ⟨ho, h⟩ := h
  refine J_cvi (As := [_]) md_X12_isPerson k_1167 (rc_obj cl_12 ho) rfl rfl ⟨Nat.le_of_ble_eq_true rfl, Nat.le_of_ble_eq_true rfl⟩ ⟨Nat.le_of_ble_eq_true rfl, Nat.le_of_ble_eq_true rfl⟩ (Nat.le_of_ble_eq_true rfl) dX12_weight_7 (ct_X12_isPerson  h) (fun z_1 st_2 h => ?_)
  refine J_if_eq 30 dX12_weight_10 (by decide) (fun hc => ?_) (fun hc => ?_)
  · have h := h.1 hc
    exact J_lv [0, 1, 2] rfl (K_X12_weight_30   a0 a1 a2  st_2 h)
  · have h := h.2 hc
    refine J_aload_n 0 dX12_weight_13 rfl rfl ?_
    refine J_iload_n 2 dX12_weight_14 rfl rfl ?_
    obtain ⟨ho, h⟩ := h
    refine J_cvi (As := [_]) md_X12_isBride k_1170 (rc_obj cl_12 ho) rfl rfl ⟨Nat.le_of_ble_eq_true rfl, Nat.le_of_ble_eq_true rfl⟩ ⟨Nat.le_of_ble_eq_true rfl, Nat.le_of_ble_eq_true rfl⟩ (Nat.le_of_ble_eq_true rfl) dX12_weight_15 (ct_X12_isBride  h) (fun z_3 st_4 h => ?_)
    refine J_if_eq 30 dX12_weight_18 (by decide) (fun hc => ?_) (fun hc => ?_)
    · have h := h.1 hc
      exact J_lv [0, 1, 2] rfl (K_X12_weight_30   a0 a1 a2  st_4 h)
    · have h := h.2 hc
      refine J_aload_n 0 dX12_weight_21 rfl rfl ?_
      refine J_iload_n 1 dX12_weight_22 rfl rfl ?_
      refine J_iload_n 2 dX12_weight_23 rfl rfl ?_
      obtain ⟨ho, h⟩ := h
      refine J_cvi (As := [_, _]) md_X12_weightOf k_1126 (rc_obj cl_12 ho) rfl rfl ⟨Nat.le_of_ble_eq_true rfl, Nat.le_of_ble_eq_true rfl⟩ ⟨Nat.le_of_ble_eq_true rfl, Nat.le_of_ble_eq_true rfl⟩ (Nat.le_of_ble_eq_true rfl) dX12_weight_24 (ct_X12_weightOf  h) (fun z_5 st_6 h => ?_)
      refine J_goto 35 dX12_weight_27 (by decide) ?_
      exact J_lv [0, 1, 2] rfl (K_X12_weight_35   a0 a1 a2  z_5 st_6 h)
/-! X12_refuse -/
def P_X12_refuse  (a0 : Nat) (a1 : Int32) (st : St) (post : Int32 → St → Prop) : Prop := ∃ r_1, rv st a0 12 14 = some r_1 ∧ vp_in a1 (al 0 r_1) ∧ vp_in a1 (al 0 r_1) ∧ post (-1) (sA st r_1 (a1 : Int32).toNatClampNeg ((gA st r_1 (a1 : Int32).toNatClampNeg) + 1))
set_option maxRecDepth 100000 in
set_option maxHeartbeats 4000000 in
theorem ct_X12_refuse {l : Launch} {E : En}  {a0 : Nat} {a1 : Int32} {st : St} {post : Int32 → St → Prop} (h : P_X12_refuse  a0 a1 st post) : CtI l E (CFc E) 1 0 0 yX12_refuse cX12_refuse 2 (some .int) [.ref a0, .int a1] st post := by
  refine ctI_of (by decide) (Nat.le_of_ble_eq_true rfl) ?_
  show Jg l E (CFc E) (Rm 1 0 0) cX12_refuse 2 RX12 (some .int) (fun _ => True) (QI E post 0 0) 0 0 0 [(0, .ref a0), (1, .int a1)] [] st
  unfold P_X12_refuse at h
  refine J_aload_n 0 dX12_refuse_0 rfl rfl ?_
  obtain ⟨r_1, hf, h⟩ := h
  refine J_getR fl_RX12_75 dX12_refuse_1 hf ?_
  refine J_iload_n 1 dX12_refuse_4 rfl rfl ?_
  refine J_dup2 dX12_refuse_5 rfl rfl ?_
  obtain ⟨hi, h⟩ := h
  refine J_iald dX12_refuse_6 hi ?_
  refine J_iconst 1 dX12_refuse_7 (by decide) ?_
  refine J_iadd dX12_refuse_8 ?_
  obtain ⟨hi, h⟩ := h
  refine J_iast dX12_refuse_9 hi ?_
  refine J_iconst (-1) dX12_refuse_10 (by decide) ?_
  exact J_reti rfl dX12_refuse_11 h
/-! X12_keep -/
def P_X12_keep_52  (a0 : Nat)  (post : St → Prop)  (st : St) : Prop := ∃ r_1, rv st a0 12 35 = some r_1 ∧ fk a0 12 38 = some 0 ∧ oC a0 12 ∧ P_X12_pack  a0 r_1 (110 * (gI st a0 38)) st (fun st_3 => fk a0 12 38 = some 0 ∧ fk a0 12 38 = some 0 ∧ post (sI st_3 a0 38 ((gI st_3 a0 38) + 1)))
def P_X12_keep_12  (a0 : Nat)  (post : St → Prop) : Nat → Int32 → St → Prop
  | 0, _, _ => False
  | n9 + 1, x1, st => ∃ r_1, rv st a0 12 35 = some r_1 ∧ 0 < al 0 r_1 ∧ (((Int32.ofNat (al 0 r_1)) ≤ x1 → fk a0 12 38 = some 0 ∧ fk a0 12 38 = some 0 ∧ P_X12_keep_52  a0  post (sI st a0 38 ((gI st a0 38) - 1))) ∧ (¬ (Int32.ofNat (al 0 r_1)) ≤ x1 → ∃ r_2, rv st a0 12 35 = some r_2 ∧ ∃ r_3, rv st a0 12 35 = some r_3 ∧ vp_in x1 (al 0 r_3) ∧ vp_in (x1 - 110) (al 0 r_2) ∧ P_X12_keep_12  a0  post n9 (x1 + 1) (sA st r_2 (x1 - 110 : Int32).toNatClampNeg (gA st r_3 (x1 : Int32).toNatClampNeg))))
def P_X12_keep  (a0 : Nat) (st : St) (post : St → Prop) : Prop := fk a0 12 38 = some 0 ∧ ((¬ (gI st a0 38) = 40 → P_X12_keep_52  a0  post st) ∧ ((gI st a0 38) = 40 → ∃ n8, P_X12_keep_12  a0  post n8 110 st))
set_option maxRecDepth 100000 in
set_option maxHeartbeats 4000000 in
theorem K_X12_keep_52 {l : Launch} {E : En}   (a0 : Nat)  {post : St → Prop}    (st : St) (h : P_X12_keep_52  a0  post  st) : Jg l E (CFc E) (Rm 2 0 0) cX12_keep 2 RX12 none (fun _ => True) (QV E post 0 0) 0 0 52 [(0, .ref a0)] [] st := by
  unfold P_X12_keep_52 at h
  refine J_aload_n 0 dX12_keep_52 rfl rfl ?_
  refine J_aload_n 0 dX12_keep_53 rfl rfl ?_
  obtain ⟨r_1, hf, h⟩ := h
  refine J_getR fl_RX12_108 dX12_keep_54 hf ?_
  refine J_bipush 110 dX12_keep_57 (by decide) ?_
  refine J_aload_n 0 dX12_keep_59 rfl rfl ?_
  obtain ⟨hf, h⟩ := h
  refine J_getI fl_RX12_347 dX12_keep_60 hf ?_
  refine J_imul dX12_keep_63 ?_
  obtain ⟨ho, h⟩ := h
  refine J_cvv (As := [_, _]) md_X12_pack k_1178 (rc_obj cl_12 ho) rfl rfl ⟨Nat.le_of_ble_eq_true rfl, Nat.le_of_ble_eq_true rfl⟩ ⟨Nat.le_of_ble_eq_true rfl, Nat.le_of_ble_eq_true rfl⟩ (Nat.le_of_ble_eq_true rfl) dX12_keep_64 (ct_X12_pack  h) (fun st_3 h => ?_)
  refine J_aload_n 0 dX12_keep_67 rfl rfl ?_
  refine J_dup dX12_keep_68 rfl ?_
  obtain ⟨hf, h⟩ := h
  refine J_getI fl_RX12_347 dX12_keep_69 hf ?_
  refine J_iconst 1 dX12_keep_72 (by decide) ?_
  refine J_iadd dX12_keep_73 ?_
  obtain ⟨hf, h⟩ := h
  refine J_putI fp_RX12_347 dX12_keep_74 rfl hf ?_
  exact J_retv rfl dX12_keep_77 h
set_option maxRecDepth 100000 in
set_option maxHeartbeats 4000000 in
theorem K_X12_keep_12 {l : Launch} {E : En}   (a0 : Nat)  {post : St → Prop}   : ∀ (n9 : Nat) (x1 : Int32) (st : St), P_X12_keep_12  a0  post n9 x1 st → Jg l E (CFc E) (Rm 2 0 0) cX12_keep 2 RX12 none (fun _ => True) (QV E post 0 0) 0 0 12 [(0, .ref a0), (1, .int x1)] [] st := by
  intro n9
  induction n9 with
  | zero => intro x1 st h; exact h.elim
  | succ n9 ih =>
    intro x1 st h
    unfold P_X12_keep_12 at h
    refine J_iload_n 1 dX12_keep_12 rfl rfl ?_
    refine J_aload_n 0 dX12_keep_13 rfl rfl ?_
    obtain ⟨r_1, hf, h⟩ := h
    refine J_getR fl_RX12_108 dX12_keep_14 hf ?_
    obtain ⟨hf, h⟩ := h
    refine J_alenI dX12_keep_17 hf ?_
    refine J_icmp_ge 42 dX12_keep_18 (by decide) (fun hc => ?_) (fun hc => ?_)
    · have h := h.1 hc
      refine J_aload_n 0 dX12_keep_42 rfl rfl ?_
      refine J_dup dX12_keep_43 rfl ?_
      obtain ⟨hf, h⟩ := h
      refine J_getI fl_RX12_347 dX12_keep_44 hf ?_
      refine J_iconst 1 dX12_keep_47 (by decide) ?_
      refine J_isub dX12_keep_48 ?_
      obtain ⟨hf, h⟩ := h
      refine J_putI fp_RX12_347 dX12_keep_49 rfl hf ?_
      exact J_lv [0] rfl (K_X12_keep_52   a0  (sI st a0 38 ((gI st a0 38) - 1)) h)
    · have h := h.2 hc
      refine J_aload_n 0 dX12_keep_21 rfl rfl ?_
      obtain ⟨r_2, hf, h⟩ := h
      refine J_getR fl_RX12_108 dX12_keep_22 hf ?_
      refine J_iload_n 1 dX12_keep_25 rfl rfl ?_
      refine J_bipush 110 dX12_keep_26 (by decide) ?_
      refine J_isub dX12_keep_28 ?_
      refine J_aload_n 0 dX12_keep_29 rfl rfl ?_
      obtain ⟨r_3, hf, h⟩ := h
      refine J_getR fl_RX12_108 dX12_keep_30 hf ?_
      refine J_iload_n 1 dX12_keep_33 rfl rfl ?_
      obtain ⟨hi, h⟩ := h
      refine J_iald dX12_keep_34 hi ?_
      obtain ⟨hi, h⟩ := h
      refine J_iast dX12_keep_35 hi ?_
      refine J_iinc 1 (x1 + 1) _ dX12_keep_36 rfl (by rfl) (by decide) rfl ?_
      refine J_goto 12 dX12_keep_39 (by decide) ?_
      exact J_lv [1, 0] rfl (ih (x1 + 1) (sA st r_2 (x1 - 110 : Int32).toNatClampNeg (gA st r_3 (x1 : Int32).toNatClampNeg)) h)
set_option maxRecDepth 100000 in
set_option maxHeartbeats 4000000 in
theorem ct_X12_keep {l : Launch} {E : En}  {a0 : Nat} {st : St} {post : St → Prop} (h : P_X12_keep  a0 st post) : CtV l E (CFc E) 2 0 0 yX12_keep cX12_keep 2 none [.ref a0] st post := by
  refine ctV_of (by decide) (Nat.le_of_ble_eq_true rfl) ?_
  show Jg l E (CFc E) (Rm 2 0 0) cX12_keep 2 RX12 none (fun _ => True) (QV E post 0 0) 0 0 0 [(0, .ref a0)] [] st
  unfold P_X12_keep at h
  refine J_aload_n 0 dX12_keep_0 rfl rfl ?_
  obtain ⟨hf, h⟩ := h
  refine J_getI fl_RX12_347 dX12_keep_1 hf ?_
  refine J_bipush 40 dX12_keep_4 (by decide) ?_
  refine J_icmp_ne 52 dX12_keep_6 (by decide) (fun hc => ?_) (fun hc => ?_)
  · have h := h.1 hc
    exact J_lv [0] rfl (K_X12_keep_52   a0  st h)
  · have h := h.2 hc
    refine J_bipush 110 dX12_keep_9 (by decide) ?_
    refine J_istore_n _ dX12_keep_11 rfl (by decide) rfl ?_
    obtain ⟨n8, h⟩ := h
    exact J_lv [1, 0] rfl (K_X12_keep_12   a0  n8 110 st h)
/-! X12_days -/
def P_X12_days_29  (a0 : Nat) (a1 : Int32)  (post : Int32 → St → Prop)  (st : St) : Prop := oC a0 12 ∧ P_X12_refuse  a0 1 st (fun z_1 st_2 => post z_1 st_2)
def P_X12_days  (a0 : Nat) (a1 : Int32) (st : St) (post : Int32 → St → Prop) : Prop := fk a0 12 4 = some 0 ∧ P_X12_isIn  ((a1 : Int32).toInt64) 1 20 (sI st a0 4 0) (fun z_1 st_2 => ((z_1 = 0 → P_X12_days_29  a0 a1  post st_2) ∧ (¬ z_1 = 0 → fk a0 12 36 = some 0 ∧ ((((gI st_2 a0 36) + a1) ≤ 999 → oC a0 12 ∧ P_X12_keep  a0 st_2 (fun st_4 => oC a0 12 ∧ P_X12_goOn  a0 a1 st_4 (fun st_6 => fk a0 12 36 = some 0 ∧ post (gI st_6 a0 36) st_6))) ∧ (¬ ((gI st_2 a0 36) + a1) ≤ 999 → P_X12_days_29  a0 a1  post st_2)))))
set_option maxRecDepth 100000 in
set_option maxHeartbeats 4000000 in
theorem K_X12_days_29 {l : Launch} {E : En}   (a0 : Nat) (a1 : Int32)  {post : Int32 → St → Prop}    (st : St) (h : P_X12_days_29  a0 a1  post  st) : Jg l E (CFc E) (Rm 9 0 0) cX12_days 2 RX12 (some .int) (fun _ => True) (QI E post 0 0) 0 0 29 [(0, .ref a0), (1, .int a1)] [] st := by
  unfold P_X12_days_29 at h
  refine J_aload_n 0 dX12_days_29 rfl rfl ?_
  refine J_iconst 1 dX12_days_30 (by decide) ?_
  obtain ⟨ho, h⟩ := h
  refine J_cvi (As := [_]) md_X12_refuse k_1182 (rc_obj cl_12 ho) rfl rfl ⟨Nat.le_of_ble_eq_true rfl, Nat.le_of_ble_eq_true rfl⟩ ⟨Nat.le_of_ble_eq_true rfl, Nat.le_of_ble_eq_true rfl⟩ (Nat.le_of_ble_eq_true rfl) dX12_days_31 (ct_X12_refuse  h) (fun z_1 st_2 h => ?_)
  exact J_reti rfl dX12_days_34 h
set_option maxRecDepth 100000 in
set_option maxHeartbeats 4000000 in
theorem ct_X12_days {l : Launch} {E : En}  {a0 : Nat} {a1 : Int32} {st : St} {post : Int32 → St → Prop} (h : P_X12_days  a0 a1 st post) : CtI l E (CFc E) 9 0 0 yX12_days cX12_days 2 (some .int) [.ref a0, .int a1] st post := by
  refine ctI_of (by decide) (Nat.le_of_ble_eq_true rfl) ?_
  show Jg l E (CFc E) (Rm 9 0 0) cX12_days 2 RX12 (some .int) (fun _ => True) (QI E post 0 0) 0 0 0 [(0, .ref a0), (1, .int a1)] [] st
  unfold P_X12_days at h
  refine J_aload_n 0 dX12_days_0 rfl rfl ?_
  refine J_iconst 0 dX12_days_1 (by decide) ?_
  obtain ⟨hf, h⟩ := h
  refine J_putI fp_RX12_184 dX12_days_2 rfl hf ?_
  refine J_iload_n 1 dX12_days_5 rfl rfl ?_
  refine J_i2l dX12_days_6 ?_
  refine J_lconst 1 dX12_days_7 (by decide) ?_
  refine J_ldc2 k_1181 dX12_days_8 ?_
  refine J_csi (As := [_, _, _]) md_X12_isIn k_971 rfl rfl ⟨Nat.le_of_ble_eq_true rfl, Nat.le_of_ble_eq_true rfl⟩ ⟨Nat.le_of_ble_eq_true rfl, Nat.le_of_ble_eq_true rfl⟩ (Nat.le_of_ble_eq_true rfl) dX12_days_11 (ct_X12_isIn  h) (fun z_1 st_2 h => ?_)
  refine J_if_eq 29 dX12_days_14 (by decide) (fun hc => ?_) (fun hc => ?_)
  · have h := h.1 hc
    exact J_lv [0, 1] rfl (K_X12_days_29   a0 a1  st_2 h)
  · have h := h.2 hc
    refine J_aload_n 0 dX12_days_17 rfl rfl ?_
    obtain ⟨hf, h⟩ := h
    refine J_getI fl_RX12_342 dX12_days_18 hf ?_
    refine J_iload_n 1 dX12_days_21 rfl rfl ?_
    refine J_iadd dX12_days_22 ?_
    refine J_sipush 999 dX12_days_23 (by decide) ?_
    refine J_icmp_le 35 dX12_days_26 (by decide) (fun hc => ?_) (fun hc => ?_)
    · have h := h.1 hc
      refine J_aload_n 0 dX12_days_35 rfl rfl ?_
      obtain ⟨ho, h⟩ := h
      refine J_cvv (As := []) md_X12_keep k_1185 (rc_obj cl_12 ho) rfl rfl ⟨Nat.le_of_ble_eq_true rfl, Nat.le_of_ble_eq_true rfl⟩ ⟨Nat.le_of_ble_eq_true rfl, Nat.le_of_ble_eq_true rfl⟩ (Nat.le_of_ble_eq_true rfl) dX12_days_36 (ct_X12_keep  h) (fun st_4 h => ?_)
      refine J_aload_n 0 dX12_days_39 rfl rfl ?_
      refine J_iload_n 1 dX12_days_40 rfl rfl ?_
      obtain ⟨ho, h⟩ := h
      refine J_cvv (As := [_]) md_X12_goOn k_1188 (rc_obj cl_12 ho) rfl rfl ⟨Nat.le_of_ble_eq_true rfl, Nat.le_of_ble_eq_true rfl⟩ ⟨Nat.le_of_ble_eq_true rfl, Nat.le_of_ble_eq_true rfl⟩ (Nat.le_of_ble_eq_true rfl) dX12_days_41 (ct_X12_goOn  h) (fun st_6 h => ?_)
      refine J_aload_n 0 dX12_days_44 rfl rfl ?_
      obtain ⟨hf, h⟩ := h
      refine J_getI fl_RX12_342 dX12_days_45 hf ?_
      exact J_reti rfl dX12_days_48 h
    · have h := h.2 hc
      exact J_lv [0, 1] rfl (K_X12_days_29   a0 a1  st_2 h)
/-! X12_train -/
def P_X12_train  (a0 : Nat) (a1 : Int32) (a2 : Int32) (st : St) (post : Int32 → St → Prop) : Prop := fk a0 12 4 = some 0 ∧ oC a0 12 ∧ P_X12_isPerson  a0 a1 (sI st a0 4 0) (fun z_1 st_2 => ((¬ z_1 = 0 → P_X12_isIn  ((a2 : Int32).toInt64) 0 9 st_2 (fun z_3 st_4 => ((¬ z_3 = 0 → oC a0 12 ∧ P_X12_keep  a0 st_4 (fun st_6 => ∃ r_7, rv st_6 a0 12 28 = some r_7 ∧ vp_in a1 (al 0 r_7) ∧ ∃ r_8, rv st_6 a0 12 28 = some r_8 ∧ vp_in a1 (al 0 r_8) ∧ post (gA st_6 r_7 (a1 : Int32).toNatClampNeg) (sA st_6 r_8 (a1 : Int32).toNatClampNeg a2))) ∧ (z_3 = 0 → oC a0 12 ∧ P_X12_refuse  a0 1 st_4 (fun z_9 st_10 => post z_9 st_10))))) ∧ (z_1 = 0 → oC a0 12 ∧ P_X12_fail  a0 1 st_2 (fun z_11 st_12 => post z_11 st_12))))
set_option maxRecDepth 100000 in
set_option maxHeartbeats 4000000 in
theorem ct_X12_train {l : Launch} {E : En}  {a0 : Nat} {a1 : Int32} {a2 : Int32} {st : St} {post : Int32 → St → Prop} (h : P_X12_train  a0 a1 a2 st post) : CtI l E (CFc E) 3 0 0 yX12_train cX12_train 4 (some .int) [.ref a0, .int a1, .int a2] st post := by
  refine ctI_of (by decide) (Nat.le_of_ble_eq_true rfl) ?_
  show Jg l E (CFc E) (Rm 3 0 0) cX12_train 4 RX12 (some .int) (fun _ => True) (QI E post 0 0) 0 0 0 [(0, .ref a0), (1, .int a1), (2, .int a2)] [] st
  unfold P_X12_train at h
  refine J_aload_n 0 dX12_train_0 rfl rfl ?_
  refine J_iconst 0 dX12_train_1 (by decide) ?_
  obtain ⟨hf, h⟩ := h
  refine J_putI fp_RX12_184 dX12_train_2 rfl hf ?_
  refine J_aload_n 0 dX12_train_5 rfl rfl ?_
  refine J_iload_n 1 dX12_train_6 rfl rfl ?_
  obtain ⟨ho, h⟩ := h
  refine J_cvi (As := [_]) md_X12_isPerson k_1167 (rc_obj cl_12 ho) rfl rfl ⟨Nat.le_of_ble_eq_true rfl, Nat.le_of_ble_eq_true rfl⟩ ⟨Nat.le_of_ble_eq_true rfl, Nat.le_of_ble_eq_true rfl⟩ (Nat.le_of_ble_eq_true rfl) dX12_train_7 (ct_X12_isPerson  h) (fun z_1 st_2 h => ?_)
  refine J_if_ne 19 dX12_train_10 (by decide) (fun hc => ?_) (fun hc => ?_)
  · have h := h.1 hc
    refine J_iload_n 2 dX12_train_19 rfl rfl ?_
    refine J_i2l dX12_train_20 ?_
    refine J_lconst 0 dX12_train_21 (by decide) ?_
    refine J_ldc2 k_1192 dX12_train_22 ?_
    refine J_csi (As := [_, _, _]) md_X12_isIn k_971 rfl rfl ⟨Nat.le_of_ble_eq_true rfl, Nat.le_of_ble_eq_true rfl⟩ ⟨Nat.le_of_ble_eq_true rfl, Nat.le_of_ble_eq_true rfl⟩ (Nat.le_of_ble_eq_true rfl) dX12_train_25 (ct_X12_isIn  h) (fun z_3 st_4 h => ?_)
    refine J_if_ne 37 dX12_train_28 (by decide) (fun hc => ?_) (fun hc => ?_)
    · have h := h.1 hc
      refine J_aload_n 0 dX12_train_37 rfl rfl ?_
      obtain ⟨ho, h⟩ := h
      refine J_cvv (As := []) md_X12_keep k_1185 (rc_obj cl_12 ho) rfl rfl ⟨Nat.le_of_ble_eq_true rfl, Nat.le_of_ble_eq_true rfl⟩ ⟨Nat.le_of_ble_eq_true rfl, Nat.le_of_ble_eq_true rfl⟩ (Nat.le_of_ble_eq_true rfl) dX12_train_38 (ct_X12_keep  h) (fun st_6 h => ?_)
      refine J_aload_n 0 dX12_train_41 rfl rfl ?_
      obtain ⟨r_7, hf, h⟩ := h
      refine J_getR fl_RX12_87 dX12_train_42 hf ?_
      refine J_iload_n 1 dX12_train_45 rfl rfl ?_
      obtain ⟨hi, h⟩ := h
      refine J_iald dX12_train_46 hi ?_
      refine J_istore_n _ dX12_train_47 rfl (by decide) rfl ?_
      refine J_aload_n 1 dX12_train_48 rfl rfl ?_
      obtain ⟨r_8, hf, h⟩ := h
      refine J_getR fl_RX12_87 dX12_train_49 hf ?_
      refine J_iload_n 2 dX12_train_52 rfl rfl ?_
      refine J_iload_n 3 dX12_train_53 rfl rfl ?_
      obtain ⟨hi, h⟩ := h
      refine J_iast dX12_train_54 hi ?_
      refine J_iload_n 0 dX12_train_55 rfl rfl ?_
      exact J_reti rfl dX12_train_56 h
    · have h := h.2 hc
      refine J_aload_n 0 dX12_train_31 rfl rfl ?_
      refine J_iconst 1 dX12_train_32 (by decide) ?_
      obtain ⟨ho, h⟩ := h
      refine J_cvi (As := [_]) md_X12_refuse k_1182 (rc_obj cl_12 ho) rfl rfl ⟨Nat.le_of_ble_eq_true rfl, Nat.le_of_ble_eq_true rfl⟩ ⟨Nat.le_of_ble_eq_true rfl, Nat.le_of_ble_eq_true rfl⟩ (Nat.le_of_ble_eq_true rfl) dX12_train_33 (ct_X12_refuse  h) (fun z_9 st_10 h => ?_)
      exact J_reti rfl dX12_train_36 h
  · have h := h.2 hc
    refine J_aload_n 0 dX12_train_13 rfl rfl ?_
    refine J_iconst 1 dX12_train_14 (by decide) ?_
    obtain ⟨ho, h⟩ := h
    refine J_cvi (As := [_]) md_X12_fail k_1093 (rc_obj cl_12 ho) rfl rfl ⟨Nat.le_of_ble_eq_true rfl, Nat.le_of_ble_eq_true rfl⟩ ⟨Nat.le_of_ble_eq_true rfl, Nat.le_of_ble_eq_true rfl⟩ (Nat.le_of_ble_eq_true rfl) dX12_train_15 (ct_X12_fail  h) (fun z_11 st_12 h => ?_)
    exact J_reti rfl dX12_train_18 h
/-! X12_onions -/
def P_X12_onions  (a0 : Nat) (a1 : Int32) (a2 : Int32) (st : St) (post : Int32 → St → Prop) : Prop := fk a0 12 4 = some 0 ∧ oC a0 12 ∧ P_X12_isPerson  a0 a1 (sI st a0 4 0) (fun z_1 st_2 => ((¬ z_1 = 0 → P_X12_isIn  ((a2 : Int32).toInt64) 1 9 st_2 (fun z_3 st_4 => ((¬ z_3 = 0 → oC a0 12 ∧ P_X12_keep  a0 st_4 (fun st_6 => ∃ r_7, rv st_6 a0 12 29 = some r_7 ∧ ∃ r_8, rv st_6 a0 12 29 = some r_8 ∧ vp_in a1 (al 0 r_8) ∧ vp_in a1 (al 0 r_7) ∧ ∃ r_9, rv (sA st_6 r_7 (a1 : Int32).toNatClampNeg (if (((gA st_6 r_8 (a1 : Int32).toNatClampNeg) + a2) : Int32) < 9 then ((gA st_6 r_8 (a1 : Int32).toNatClampNeg) + a2) else 9)) a0 12 29 = some r_9 ∧ vp_in a1 (al 0 r_9) ∧ post (gA (sA st_6 r_7 (a1 : Int32).toNatClampNeg (if (((gA st_6 r_8 (a1 : Int32).toNatClampNeg) + a2) : Int32) < 9 then ((gA st_6 r_8 (a1 : Int32).toNatClampNeg) + a2) else 9)) r_9 (a1 : Int32).toNatClampNeg) (sA st_6 r_7 (a1 : Int32).toNatClampNeg (if (((gA st_6 r_8 (a1 : Int32).toNatClampNeg) + a2) : Int32) < 9 then ((gA st_6 r_8 (a1 : Int32).toNatClampNeg) + a2) else 9)))) ∧ (z_3 = 0 → oC a0 12 ∧ P_X12_refuse  a0 1 st_4 (fun z_10 st_11 => post z_10 st_11))))) ∧ (z_1 = 0 → oC a0 12 ∧ P_X12_fail  a0 1 st_2 (fun z_12 st_13 => post z_12 st_13))))
set_option maxRecDepth 100000 in
set_option maxHeartbeats 4000000 in
theorem ct_X12_onions {l : Launch} {E : En}  {a0 : Nat} {a1 : Int32} {a2 : Int32} {st : St} {post : Int32 → St → Prop} (h : P_X12_onions  a0 a1 a2 st post) : CtI l E (CFc E) 3 0 0 yX12_onions cX12_onions 3 (some .int) [.ref a0, .int a1, .int a2] st post := by
  refine ctI_of (by decide) (Nat.le_of_ble_eq_true rfl) ?_
  show Jg l E (CFc E) (Rm 3 0 0) cX12_onions 3 RX12 (some .int) (fun _ => True) (QI E post 0 0) 0 0 0 [(0, .ref a0), (1, .int a1), (2, .int a2)] [] st
  unfold P_X12_onions at h
  refine J_aload_n 0 dX12_onions_0 rfl rfl ?_
  refine J_iconst 0 dX12_onions_1 (by decide) ?_
  obtain ⟨hf, h⟩ := h
  refine J_putI fp_RX12_184 dX12_onions_2 rfl hf ?_
  refine J_aload_n 0 dX12_onions_5 rfl rfl ?_
  refine J_iload_n 1 dX12_onions_6 rfl rfl ?_
  obtain ⟨ho, h⟩ := h
  refine J_cvi (As := [_]) md_X12_isPerson k_1167 (rc_obj cl_12 ho) rfl rfl ⟨Nat.le_of_ble_eq_true rfl, Nat.le_of_ble_eq_true rfl⟩ ⟨Nat.le_of_ble_eq_true rfl, Nat.le_of_ble_eq_true rfl⟩ (Nat.le_of_ble_eq_true rfl) dX12_onions_7 (ct_X12_isPerson  h) (fun z_1 st_2 h => ?_)
  refine J_if_ne 19 dX12_onions_10 (by decide) (fun hc => ?_) (fun hc => ?_)
  · have h := h.1 hc
    refine J_iload_n 2 dX12_onions_19 rfl rfl ?_
    refine J_i2l dX12_onions_20 ?_
    refine J_lconst 1 dX12_onions_21 (by decide) ?_
    refine J_ldc2 k_1192 dX12_onions_22 ?_
    refine J_csi (As := [_, _, _]) md_X12_isIn k_971 rfl rfl ⟨Nat.le_of_ble_eq_true rfl, Nat.le_of_ble_eq_true rfl⟩ ⟨Nat.le_of_ble_eq_true rfl, Nat.le_of_ble_eq_true rfl⟩ (Nat.le_of_ble_eq_true rfl) dX12_onions_25 (ct_X12_isIn  h) (fun z_3 st_4 h => ?_)
    refine J_if_ne 37 dX12_onions_28 (by decide) (fun hc => ?_) (fun hc => ?_)
    · have h := h.1 hc
      refine J_aload_n 0 dX12_onions_37 rfl rfl ?_
      obtain ⟨ho, h⟩ := h
      refine J_cvv (As := []) md_X12_keep k_1185 (rc_obj cl_12 ho) rfl rfl ⟨Nat.le_of_ble_eq_true rfl, Nat.le_of_ble_eq_true rfl⟩ ⟨Nat.le_of_ble_eq_true rfl, Nat.le_of_ble_eq_true rfl⟩ (Nat.le_of_ble_eq_true rfl) dX12_onions_38 (ct_X12_keep  h) (fun st_6 h => ?_)
      refine J_aload_n 0 dX12_onions_41 rfl rfl ?_
      obtain ⟨r_7, hf, h⟩ := h
      refine J_getR fl_RX12_90 dX12_onions_42 hf ?_
      refine J_iload_n 1 dX12_onions_45 rfl rfl ?_
      refine J_bipush 9 dX12_onions_46 (by decide) ?_
      refine J_aload_n 0 dX12_onions_48 rfl rfl ?_
      obtain ⟨r_8, hf, h⟩ := h
      refine J_getR fl_RX12_90 dX12_onions_49 hf ?_
      refine J_iload_n 1 dX12_onions_52 rfl rfl ?_
      obtain ⟨hi, h⟩ := h
      refine J_iald dX12_onions_53 hi ?_
      refine J_iload_n 2 dX12_onions_54 rfl rfl ?_
      refine J_iadd dX12_onions_55 ?_
      refine J_mmin k_987 k_162 k_158 k_163 ⟨Nat.le_of_ble_eq_true rfl, Nat.le_of_ble_eq_true rfl, Nat.le_of_ble_eq_true rfl, Nat.le_of_ble_eq_true rfl⟩ dX12_onions_56 ?_
      obtain ⟨hi, h⟩ := h
      refine J_iast dX12_onions_59 hi ?_
      refine J_aload_n 0 dX12_onions_60 rfl rfl ?_
      obtain ⟨r_9, hf, h⟩ := h
      refine J_getR fl_RX12_90 dX12_onions_61 hf ?_
      refine J_iload_n 1 dX12_onions_64 rfl rfl ?_
      obtain ⟨hi, h⟩ := h
      refine J_iald dX12_onions_65 hi ?_
      exact J_reti rfl dX12_onions_66 h
    · have h := h.2 hc
      refine J_aload_n 0 dX12_onions_31 rfl rfl ?_
      refine J_iconst 1 dX12_onions_32 (by decide) ?_
      obtain ⟨ho, h⟩ := h
      refine J_cvi (As := [_]) md_X12_refuse k_1182 (rc_obj cl_12 ho) rfl rfl ⟨Nat.le_of_ble_eq_true rfl, Nat.le_of_ble_eq_true rfl⟩ ⟨Nat.le_of_ble_eq_true rfl, Nat.le_of_ble_eq_true rfl⟩ (Nat.le_of_ble_eq_true rfl) dX12_onions_33 (ct_X12_refuse  h) (fun z_10 st_11 h => ?_)
      exact J_reti rfl dX12_onions_36 h
  · have h := h.2 hc
    refine J_aload_n 0 dX12_onions_13 rfl rfl ?_
    refine J_iconst 1 dX12_onions_14 (by decide) ?_
    obtain ⟨ho, h⟩ := h
    refine J_cvi (As := [_]) md_X12_fail k_1093 (rc_obj cl_12 ho) rfl rfl ⟨Nat.le_of_ble_eq_true rfl, Nat.le_of_ble_eq_true rfl⟩ ⟨Nat.le_of_ble_eq_true rfl, Nat.le_of_ble_eq_true rfl⟩ (Nat.le_of_ble_eq_true rfl) dX12_onions_15 (ct_X12_fail  h) (fun z_12 st_13 h => ?_)
    exact J_reti rfl dX12_onions_18 h
/-! X12_putOff -/
def P_X12_putOff_44  (a0 : Nat) (a1 : Int32) (a2 : Int32)  (post : Int32 → St → Prop)  (st : St) : Prop := oC a0 12 ∧ P_X12_refuse  a0 1 st (fun z_1 st_2 => post z_1 st_2)
def P_X12_putOff  (a0 : Nat) (a1 : Int32) (a2 : Int32) (st : St) (post : Int32 → St → Prop) : Prop := fk a0 12 4 = some 0 ∧ oC a0 12 ∧ P_X12_isBride  a0 a1 (sI st a0 4 0) (fun z_1 st_2 => ((¬ z_1 = 0 → ∃ r_3, rv st_2 a0 12 32 = some r_3 ∧ vp_in a1 (al 0 r_3) ∧ (((gA st_2 r_3 (a1 : Int32).toNatClampNeg) = 0 → P_X12_putOff_44  a0 a1 a2  post st_2) ∧ (¬ (gA st_2 r_3 (a1 : Int32).toNatClampNeg) = 0 → fk a0 12 36 = some 0 ∧ P_X12_isIn  ((a2 : Int32).toInt64) ((gI st_2 a0 36 : Int32).toInt64) 999 st_2 (fun z_4 st_5 => ((¬ z_4 = 0 → oC a0 12 ∧ P_X12_keep  a0 st_5 (fun st_7 => ∃ r_8, rv st_7 a0 12 31 = some r_8 ∧ vp_in a1 (al 0 r_8) ∧ ∃ r_9, rv st_7 a0 12 31 = some r_9 ∧ vp_in a1 (al 0 r_9) ∧ post (gA st_7 r_8 (a1 : Int32).toNatClampNeg) (sA st_7 r_9 (a1 : Int32).toNatClampNeg a2))) ∧ (z_4 = 0 → P_X12_putOff_44  a0 a1 a2  post st_5)))))) ∧ (z_1 = 0 → oC a0 12 ∧ P_X12_fail  a0 1 st_2 (fun z_10 st_11 => post z_10 st_11))))
set_option maxRecDepth 100000 in
set_option maxHeartbeats 4000000 in
theorem K_X12_putOff_44 {l : Launch} {E : En}   (a0 : Nat) (a1 : Int32) (a2 : Int32)  {post : Int32 → St → Prop}    (st : St) (h : P_X12_putOff_44  a0 a1 a2  post  st) : Jg l E (CFc E) (Rm 3 0 0) cX12_putOff 4 RX12 (some .int) (fun _ => True) (QI E post 0 0) 0 0 44 [(0, .ref a0), (1, .int a1), (2, .int a2)] [] st := by
  unfold P_X12_putOff_44 at h
  refine J_aload_n 0 dX12_putOff_44 rfl rfl ?_
  refine J_iconst 1 dX12_putOff_45 (by decide) ?_
  obtain ⟨ho, h⟩ := h
  refine J_cvi (As := [_]) md_X12_refuse k_1182 (rc_obj cl_12 ho) rfl rfl ⟨Nat.le_of_ble_eq_true rfl, Nat.le_of_ble_eq_true rfl⟩ ⟨Nat.le_of_ble_eq_true rfl, Nat.le_of_ble_eq_true rfl⟩ (Nat.le_of_ble_eq_true rfl) dX12_putOff_46 (ct_X12_refuse  h) (fun z_1 st_2 h => ?_)
  exact J_reti rfl dX12_putOff_49 h
set_option maxRecDepth 100000 in
set_option maxHeartbeats 4000000 in
theorem ct_X12_putOff {l : Launch} {E : En}  {a0 : Nat} {a1 : Int32} {a2 : Int32} {st : St} {post : Int32 → St → Prop} (h : P_X12_putOff  a0 a1 a2 st post) : CtI l E (CFc E) 3 0 0 yX12_putOff cX12_putOff 4 (some .int) [.ref a0, .int a1, .int a2] st post := by
  refine ctI_of (by decide) (Nat.le_of_ble_eq_true rfl) ?_
  show Jg l E (CFc E) (Rm 3 0 0) cX12_putOff 4 RX12 (some .int) (fun _ => True) (QI E post 0 0) 0 0 0 [(0, .ref a0), (1, .int a1), (2, .int a2)] [] st
  unfold P_X12_putOff at h
  refine J_aload_n 0 dX12_putOff_0 rfl rfl ?_
  refine J_iconst 0 dX12_putOff_1 (by decide) ?_
  obtain ⟨hf, h⟩ := h
  refine J_putI fp_RX12_184 dX12_putOff_2 rfl hf ?_
  refine J_aload_n 0 dX12_putOff_5 rfl rfl ?_
  refine J_iload_n 1 dX12_putOff_6 rfl rfl ?_
  obtain ⟨ho, h⟩ := h
  refine J_cvi (As := [_]) md_X12_isBride k_1170 (rc_obj cl_12 ho) rfl rfl ⟨Nat.le_of_ble_eq_true rfl, Nat.le_of_ble_eq_true rfl⟩ ⟨Nat.le_of_ble_eq_true rfl, Nat.le_of_ble_eq_true rfl⟩ (Nat.le_of_ble_eq_true rfl) dX12_putOff_7 (ct_X12_isBride  h) (fun z_1 st_2 h => ?_)
  refine J_if_ne 19 dX12_putOff_10 (by decide) (fun hc => ?_) (fun hc => ?_)
  · have h := h.1 hc
    refine J_aload_n 0 dX12_putOff_19 rfl rfl ?_
    obtain ⟨r_3, hf, h⟩ := h
    refine J_getR fl_RX12_99 dX12_putOff_20 hf ?_
    refine J_iload_n 1 dX12_putOff_23 rfl rfl ?_
    obtain ⟨hi, h⟩ := h
    refine J_iald dX12_putOff_24 hi ?_
    refine J_if_eq 44 dX12_putOff_25 (by decide) (fun hc => ?_) (fun hc => ?_)
    · have h := h.1 hc
      exact J_lv [0, 1, 2] rfl (K_X12_putOff_44   a0 a1 a2  st_2 h)
    · have h := h.2 hc
      refine J_iload_n 2 dX12_putOff_28 rfl rfl ?_
      refine J_i2l dX12_putOff_29 ?_
      refine J_aload_n 0 dX12_putOff_30 rfl rfl ?_
      obtain ⟨hf, h⟩ := h
      refine J_getI fl_RX12_342 dX12_putOff_31 hf ?_
      refine J_i2l dX12_putOff_34 ?_
      refine J_ldc2 k_1195 dX12_putOff_35 ?_
      refine J_csi (As := [_, _, _]) md_X12_isIn k_971 rfl rfl ⟨Nat.le_of_ble_eq_true rfl, Nat.le_of_ble_eq_true rfl⟩ ⟨Nat.le_of_ble_eq_true rfl, Nat.le_of_ble_eq_true rfl⟩ (Nat.le_of_ble_eq_true rfl) dX12_putOff_38 (ct_X12_isIn  h) (fun z_4 st_5 h => ?_)
      refine J_if_ne 50 dX12_putOff_41 (by decide) (fun hc => ?_) (fun hc => ?_)
      · have h := h.1 hc
        refine J_aload_n 0 dX12_putOff_50 rfl rfl ?_
        obtain ⟨ho, h⟩ := h
        refine J_cvv (As := []) md_X12_keep k_1185 (rc_obj cl_12 ho) rfl rfl ⟨Nat.le_of_ble_eq_true rfl, Nat.le_of_ble_eq_true rfl⟩ ⟨Nat.le_of_ble_eq_true rfl, Nat.le_of_ble_eq_true rfl⟩ (Nat.le_of_ble_eq_true rfl) dX12_putOff_51 (ct_X12_keep  h) (fun st_7 h => ?_)
        refine J_aload_n 0 dX12_putOff_54 rfl rfl ?_
        obtain ⟨r_8, hf, h⟩ := h
        refine J_getR fl_RX12_96 dX12_putOff_55 hf ?_
        refine J_iload_n 1 dX12_putOff_58 rfl rfl ?_
        obtain ⟨hi, h⟩ := h
        refine J_iald dX12_putOff_59 hi ?_
        refine J_istore_n _ dX12_putOff_60 rfl (by decide) rfl ?_
        refine J_aload_n 1 dX12_putOff_61 rfl rfl ?_
        obtain ⟨r_9, hf, h⟩ := h
        refine J_getR fl_RX12_96 dX12_putOff_62 hf ?_
        refine J_iload_n 2 dX12_putOff_65 rfl rfl ?_
        refine J_iload_n 3 dX12_putOff_66 rfl rfl ?_
        obtain ⟨hi, h⟩ := h
        refine J_iast dX12_putOff_67 hi ?_
        refine J_iload_n 0 dX12_putOff_68 rfl rfl ?_
        exact J_reti rfl dX12_putOff_69 h
      · have h := h.2 hc
        exact J_lv [0, 1, 2] rfl (K_X12_putOff_44   a0 a1 a2  st_5 h)
  · have h := h.2 hc
    refine J_aload_n 0 dX12_putOff_13 rfl rfl ?_
    refine J_iconst 1 dX12_putOff_14 (by decide) ?_
    obtain ⟨ho, h⟩ := h
    refine J_cvi (As := [_]) md_X12_fail k_1093 (rc_obj cl_12 ho) rfl rfl ⟨Nat.le_of_ble_eq_true rfl, Nat.le_of_ble_eq_true rfl⟩ ⟨Nat.le_of_ble_eq_true rfl, Nat.le_of_ble_eq_true rfl⟩ (Nat.le_of_ble_eq_true rfl) dX12_putOff_15 (ct_X12_fail  h) (fun z_10 st_11 h => ?_)
    exact J_reti rfl dX12_putOff_18 h
/-! X12_tie -/
def P_X12_tie_21  (a0 : Nat) (a1 : Int32) (a2 : Int32) (a3 : Int32)  (post : Int32 → St → Prop)  (st : St) : Prop := oC a0 12 ∧ P_X12_fail  a0 1 st (fun z_1 st_2 => post z_1 st_2)
def P_X12_tie  (a0 : Nat) (a1 : Int32) (a2 : Int32) (a3 : Int32) (st : St) (post : Int32 → St → Prop) : Prop := fk a0 12 4 = some 0 ∧ oC a0 12 ∧ P_X12_isPerson  a0 a1 (sI st a0 4 0) (fun z_1 st_2 => ((z_1 = 0 → P_X12_tie_21  a0 a1 a2 a3  post st_2) ∧ (¬ z_1 = 0 → oC a0 12 ∧ P_X12_isBride  a0 a2 st_2 (fun z_3 st_4 => ((¬ z_3 = 0 → P_X12_isIn  ((a3 : Int32).toInt64) 1 40 st_4 (fun z_5 st_6 => ((¬ z_5 = 0 → oC a0 12 ∧ P_X12_keep  a0 st_6 (fun st_8 => ∃ r_9, rv st_8 a0 12 34 = some r_9 ∧ vp_in ((6 * a1) + a2) (al 0 r_9) ∧ ∃ r_10, rv st_8 a0 12 34 = some r_10 ∧ vp_in ((6 * a1) + a2) (al 0 r_10) ∧ post (gA st_8 r_9 ((6 * a1) + a2 : Int32).toNatClampNeg) (sA st_8 r_10 ((6 * a1) + a2 : Int32).toNatClampNeg a3))) ∧ (z_5 = 0 → oC a0 12 ∧ P_X12_refuse  a0 1 st_6 (fun z_11 st_12 => post z_11 st_12))))) ∧ (z_3 = 0 → P_X12_tie_21  a0 a1 a2 a3  post st_4))))))
set_option maxRecDepth 100000 in
set_option maxHeartbeats 4000000 in
theorem K_X12_tie_21 {l : Launch} {E : En}   (a0 : Nat) (a1 : Int32) (a2 : Int32) (a3 : Int32)  {post : Int32 → St → Prop}    (st : St) (h : P_X12_tie_21  a0 a1 a2 a3  post  st) : Jg l E (CFc E) (Rm 3 0 0) cX12_tie 5 RX12 (some .int) (fun _ => True) (QI E post 0 0) 0 0 21 [(0, .ref a0), (1, .int a1), (2, .int a2), (3, .int a3)] [] st := by
  unfold P_X12_tie_21 at h
  refine J_aload_n 0 dX12_tie_21 rfl rfl ?_
  refine J_iconst 1 dX12_tie_22 (by decide) ?_
  obtain ⟨ho, h⟩ := h
  refine J_cvi (As := [_]) md_X12_fail k_1093 (rc_obj cl_12 ho) rfl rfl ⟨Nat.le_of_ble_eq_true rfl, Nat.le_of_ble_eq_true rfl⟩ ⟨Nat.le_of_ble_eq_true rfl, Nat.le_of_ble_eq_true rfl⟩ (Nat.le_of_ble_eq_true rfl) dX12_tie_23 (ct_X12_fail  h) (fun z_1 st_2 h => ?_)
  exact J_reti rfl dX12_tie_26 h
set_option maxRecDepth 100000 in
set_option maxHeartbeats 4000000 in
theorem ct_X12_tie {l : Launch} {E : En}  {a0 : Nat} {a1 : Int32} {a2 : Int32} {a3 : Int32} {st : St} {post : Int32 → St → Prop} (h : P_X12_tie  a0 a1 a2 a3 st post) : CtI l E (CFc E) 3 0 0 yX12_tie cX12_tie 5 (some .int) [.ref a0, .int a1, .int a2, .int a3] st post := by
  refine ctI_of (by decide) (Nat.le_of_ble_eq_true rfl) ?_
  show Jg l E (CFc E) (Rm 3 0 0) cX12_tie 5 RX12 (some .int) (fun _ => True) (QI E post 0 0) 0 0 0 [(0, .ref a0), (1, .int a1), (2, .int a2), (3, .int a3)] [] st
  unfold P_X12_tie at h
  refine J_aload_n 0 dX12_tie_0 rfl rfl ?_
  refine J_iconst 0 dX12_tie_1 (by decide) ?_
  obtain ⟨hf, h⟩ := h
  refine J_putI fp_RX12_184 dX12_tie_2 rfl hf ?_
  refine J_aload_n 0 dX12_tie_5 rfl rfl ?_
  refine J_iload_n 1 dX12_tie_6 rfl rfl ?_
  obtain ⟨ho, h⟩ := h
  refine J_cvi (As := [_]) md_X12_isPerson k_1167 (rc_obj cl_12 ho) rfl rfl ⟨Nat.le_of_ble_eq_true rfl, Nat.le_of_ble_eq_true rfl⟩ ⟨Nat.le_of_ble_eq_true rfl, Nat.le_of_ble_eq_true rfl⟩ (Nat.le_of_ble_eq_true rfl) dX12_tie_7 (ct_X12_isPerson  h) (fun z_1 st_2 h => ?_)
  refine J_if_eq 21 dX12_tie_10 (by decide) (fun hc => ?_) (fun hc => ?_)
  · have h := h.1 hc
    exact J_lv [0, 1, 2, 3] rfl (K_X12_tie_21   a0 a1 a2 a3  st_2 h)
  · have h := h.2 hc
    refine J_aload_n 0 dX12_tie_13 rfl rfl ?_
    refine J_iload_n 2 dX12_tie_14 rfl rfl ?_
    obtain ⟨ho, h⟩ := h
    refine J_cvi (As := [_]) md_X12_isBride k_1170 (rc_obj cl_12 ho) rfl rfl ⟨Nat.le_of_ble_eq_true rfl, Nat.le_of_ble_eq_true rfl⟩ ⟨Nat.le_of_ble_eq_true rfl, Nat.le_of_ble_eq_true rfl⟩ (Nat.le_of_ble_eq_true rfl) dX12_tie_15 (ct_X12_isBride  h) (fun z_3 st_4 h => ?_)
    refine J_if_ne 27 dX12_tie_18 (by decide) (fun hc => ?_) (fun hc => ?_)
    · have h := h.1 hc
      refine J_iload_n 3 dX12_tie_27 rfl rfl ?_
      refine J_i2l dX12_tie_28 ?_
      refine J_lconst 1 dX12_tie_29 (by decide) ?_
      refine J_ldc2 k_1197 dX12_tie_30 ?_
      refine J_csi (As := [_, _, _]) md_X12_isIn k_971 rfl rfl ⟨Nat.le_of_ble_eq_true rfl, Nat.le_of_ble_eq_true rfl⟩ ⟨Nat.le_of_ble_eq_true rfl, Nat.le_of_ble_eq_true rfl⟩ (Nat.le_of_ble_eq_true rfl) dX12_tie_33 (ct_X12_isIn  h) (fun z_5 st_6 h => ?_)
      refine J_if_ne 45 dX12_tie_36 (by decide) (fun hc => ?_) (fun hc => ?_)
      · have h := h.1 hc
        refine J_aload_n 0 dX12_tie_45 rfl rfl ?_
        obtain ⟨ho, h⟩ := h
        refine J_cvv (As := []) md_X12_keep k_1185 (rc_obj cl_12 ho) rfl rfl ⟨Nat.le_of_ble_eq_true rfl, Nat.le_of_ble_eq_true rfl⟩ ⟨Nat.le_of_ble_eq_true rfl, Nat.le_of_ble_eq_true rfl⟩ (Nat.le_of_ble_eq_true rfl) dX12_tie_46 (ct_X12_keep  h) (fun st_8 h => ?_)
        refine J_aload_n 0 dX12_tie_49 rfl rfl ?_
        obtain ⟨r_9, hf, h⟩ := h
        refine J_getR fl_RX12_105 dX12_tie_50 hf ?_
        refine J_bipush 6 dX12_tie_53 (by decide) ?_
        refine J_iload_n 1 dX12_tie_55 rfl rfl ?_
        refine J_imul dX12_tie_56 ?_
        refine J_iload_n 2 dX12_tie_57 rfl rfl ?_
        refine J_iadd dX12_tie_58 ?_
        obtain ⟨hi, h⟩ := h
        refine J_iald dX12_tie_59 hi ?_
        refine J_istore _ dX12_tie_60 (by decide) rfl ?_
        refine J_aload_n 1 dX12_tie_62 rfl rfl ?_
        obtain ⟨r_10, hf, h⟩ := h
        refine J_getR fl_RX12_105 dX12_tie_63 hf ?_
        refine J_bipush 6 dX12_tie_66 (by decide) ?_
        refine J_iload_n 2 dX12_tie_68 rfl rfl ?_
        refine J_imul dX12_tie_69 ?_
        refine J_iload_n 3 dX12_tie_70 rfl rfl ?_
        refine J_iadd dX12_tie_71 ?_
        refine J_iload_n 4 dX12_tie_72 rfl rfl ?_
        obtain ⟨hi, h⟩ := h
        refine J_iast dX12_tie_73 hi ?_
        refine J_iload 0 dX12_tie_74 rfl ?_
        exact J_reti rfl dX12_tie_76 h
      · have h := h.2 hc
        refine J_aload_n 0 dX12_tie_39 rfl rfl ?_
        refine J_iconst 1 dX12_tie_40 (by decide) ?_
        obtain ⟨ho, h⟩ := h
        refine J_cvi (As := [_]) md_X12_refuse k_1182 (rc_obj cl_12 ho) rfl rfl ⟨Nat.le_of_ble_eq_true rfl, Nat.le_of_ble_eq_true rfl⟩ ⟨Nat.le_of_ble_eq_true rfl, Nat.le_of_ble_eq_true rfl⟩ (Nat.le_of_ble_eq_true rfl) dX12_tie_41 (ct_X12_refuse  h) (fun z_11 st_12 h => ?_)
        exact J_reti rfl dX12_tie_44 h
    · have h := h.2 hc
      exact J_lv [0, 1, 2, 3] rfl (K_X12_tie_21   a0 a1 a2 a3  st_4 h)
/-! X12_undo -/
def P_X12_undo  (a0 : Nat) (st : St) (post : Int32 → St → Prop) : Prop := fk a0 12 4 = some 0 ∧ fk a0 12 38 = some 0 ∧ ((¬ (gI (sI st a0 4 0) a0 38) = 0 → fk a0 12 38 = some 0 ∧ fk a0 12 38 = some 0 ∧ ∃ r_1, rv (sI (sI st a0 4 0) a0 38 ((gI (sI st a0 4 0) a0 38) - 1)) a0 12 35 = some r_1 ∧ fk a0 12 38 = some 0 ∧ oC a0 12 ∧ P_X12_unpack  a0 r_1 (110 * (gI (sI (sI st a0 4 0) a0 38 ((gI (sI st a0 4 0) a0 38) - 1)) a0 38)) (sI (sI st a0 4 0) a0 38 ((gI (sI st a0 4 0) a0 38) - 1)) (fun st_3 => fk a0 12 38 = some 0 ∧ post (gI st_3 a0 38) st_3)) ∧ ((gI (sI st a0 4 0) a0 38) = 0 → post (-1) (sI st a0 4 0)))
set_option maxRecDepth 100000 in
set_option maxHeartbeats 4000000 in
theorem ct_X12_undo {l : Launch} {E : En}  {a0 : Nat} {st : St} {post : Int32 → St → Prop} (h : P_X12_undo  a0 st post) : CtI l E (CFc E) 2 0 0 yX12_undo cX12_undo 1 (some .int) [.ref a0] st post := by
  refine ctI_of (by decide) (Nat.le_of_ble_eq_true rfl) ?_
  show Jg l E (CFc E) (Rm 2 0 0) cX12_undo 1 RX12 (some .int) (fun _ => True) (QI E post 0 0) 0 0 0 [(0, .ref a0)] [] st
  unfold P_X12_undo at h
  refine J_aload_n 0 dX12_undo_0 rfl rfl ?_
  refine J_iconst 0 dX12_undo_1 (by decide) ?_
  obtain ⟨hf, h⟩ := h
  refine J_putI fp_RX12_184 dX12_undo_2 rfl hf ?_
  refine J_aload_n 0 dX12_undo_5 rfl rfl ?_
  obtain ⟨hf, h⟩ := h
  refine J_getI fl_RX12_347 dX12_undo_6 hf ?_
  refine J_if_ne 14 dX12_undo_9 (by decide) (fun hc => ?_) (fun hc => ?_)
  · have h := h.1 hc
    refine J_aload_n 0 dX12_undo_14 rfl rfl ?_
    refine J_dup dX12_undo_15 rfl ?_
    obtain ⟨hf, h⟩ := h
    refine J_getI fl_RX12_347 dX12_undo_16 hf ?_
    refine J_iconst 1 dX12_undo_19 (by decide) ?_
    refine J_isub dX12_undo_20 ?_
    obtain ⟨hf, h⟩ := h
    refine J_putI fp_RX12_347 dX12_undo_21 rfl hf ?_
    refine J_aload_n 0 dX12_undo_24 rfl rfl ?_
    refine J_aload_n 0 dX12_undo_25 rfl rfl ?_
    obtain ⟨r_1, hf, h⟩ := h
    refine J_getR fl_RX12_108 dX12_undo_26 hf ?_
    refine J_bipush 110 dX12_undo_29 (by decide) ?_
    refine J_aload_n 0 dX12_undo_31 rfl rfl ?_
    obtain ⟨hf, h⟩ := h
    refine J_getI fl_RX12_347 dX12_undo_32 hf ?_
    refine J_imul dX12_undo_35 ?_
    obtain ⟨ho, h⟩ := h
    refine J_cvv (As := [_, _]) md_X12_unpack k_1200 (rc_obj cl_12 ho) rfl rfl ⟨Nat.le_of_ble_eq_true rfl, Nat.le_of_ble_eq_true rfl⟩ ⟨Nat.le_of_ble_eq_true rfl, Nat.le_of_ble_eq_true rfl⟩ (Nat.le_of_ble_eq_true rfl) dX12_undo_36 (ct_X12_unpack  h) (fun st_3 h => ?_)
    refine J_aload_n 0 dX12_undo_39 rfl rfl ?_
    obtain ⟨hf, h⟩ := h
    refine J_getI fl_RX12_347 dX12_undo_40 hf ?_
    exact J_reti rfl dX12_undo_43 h
  · have h := h.2 hc
    refine J_iconst (-1) dX12_undo_12 (by decide) ?_
    exact J_reti rfl dX12_undo_13 h
/-! X12_leaderOf -/
def P_X12_leaderOf  (a0 : Nat) (a1 : Int32) (st : St) (post : Int32 → St → Prop) : Prop := ∃ r_1, rv st a0 12 43 = some r_1 ∧ oC a0 12 ∧ P_X12_pack  a0 r_1 0 st (fun st_3 => oC a0 12 ∧ P_X12_goOn  a0 60 st_3 (fun st_5 => ∃ r_6, rv st_5 a0 12 33 = some r_6 ∧ vp_in a1 (al 0 r_6) ∧ ∃ r_7, rv st_5 a0 12 43 = some r_7 ∧ oC a0 12 ∧ P_X12_unpack  a0 r_7 0 st_5 (fun st_9 => post (gA st_5 r_6 (a1 : Int32).toNatClampNeg) st_9)))
set_option maxRecDepth 100000 in
set_option maxHeartbeats 4000000 in
theorem ct_X12_leaderOf {l : Launch} {E : En}  {a0 : Nat} {a1 : Int32} {st : St} {post : Int32 → St → Prop} (h : P_X12_leaderOf  a0 a1 st post) : CtI l E (CFc E) 9 0 0 yX12_leaderOf cX12_leaderOf 3 (some .int) [.ref a0, .int a1] st post := by
  refine ctI_of (by decide) (Nat.le_of_ble_eq_true rfl) ?_
  show Jg l E (CFc E) (Rm 9 0 0) cX12_leaderOf 3 RX12 (some .int) (fun _ => True) (QI E post 0 0) 0 0 0 [(0, .ref a0), (1, .int a1)] [] st
  unfold P_X12_leaderOf at h
  refine J_aload_n 0 dX12_leaderOf_0 rfl rfl ?_
  refine J_aload_n 0 dX12_leaderOf_1 rfl rfl ?_
  obtain ⟨r_1, hf, h⟩ := h
  refine J_getR fl_RX12_120 dX12_leaderOf_2 hf ?_
  refine J_iconst 0 dX12_leaderOf_5 (by decide) ?_
  obtain ⟨ho, h⟩ := h
  refine J_cvv (As := [_, _]) md_X12_pack k_1178 (rc_obj cl_12 ho) rfl rfl ⟨Nat.le_of_ble_eq_true rfl, Nat.le_of_ble_eq_true rfl⟩ ⟨Nat.le_of_ble_eq_true rfl, Nat.le_of_ble_eq_true rfl⟩ (Nat.le_of_ble_eq_true rfl) dX12_leaderOf_6 (ct_X12_pack  h) (fun st_3 h => ?_)
  refine J_aload_n 0 dX12_leaderOf_9 rfl rfl ?_
  refine J_bipush 60 dX12_leaderOf_10 (by decide) ?_
  obtain ⟨ho, h⟩ := h
  refine J_cvv (As := [_]) md_X12_goOn k_1188 (rc_obj cl_12 ho) rfl rfl ⟨Nat.le_of_ble_eq_true rfl, Nat.le_of_ble_eq_true rfl⟩ ⟨Nat.le_of_ble_eq_true rfl, Nat.le_of_ble_eq_true rfl⟩ (Nat.le_of_ble_eq_true rfl) dX12_leaderOf_12 (ct_X12_goOn  h) (fun st_5 h => ?_)
  refine J_aload_n 0 dX12_leaderOf_15 rfl rfl ?_
  obtain ⟨r_6, hf, h⟩ := h
  refine J_getR fl_RX12_102 dX12_leaderOf_16 hf ?_
  refine J_iload_n 1 dX12_leaderOf_19 rfl rfl ?_
  obtain ⟨hi, h⟩ := h
  refine J_iald dX12_leaderOf_20 hi ?_
  refine J_istore_n _ dX12_leaderOf_21 rfl (by decide) rfl ?_
  refine J_aload_n 1 dX12_leaderOf_22 rfl rfl ?_
  refine J_aload_n 1 dX12_leaderOf_23 rfl rfl ?_
  obtain ⟨r_7, hf, h⟩ := h
  refine J_getR fl_RX12_120 dX12_leaderOf_24 hf ?_
  refine J_iconst 0 dX12_leaderOf_27 (by decide) ?_
  obtain ⟨ho, h⟩ := h
  refine J_cvv (As := [_, _]) md_X12_unpack k_1200 (rc_obj cl_12 ho) rfl rfl ⟨Nat.le_of_ble_eq_true rfl, Nat.le_of_ble_eq_true rfl⟩ ⟨Nat.le_of_ble_eq_true rfl, Nat.le_of_ble_eq_true rfl⟩ (Nat.le_of_ble_eq_true rfl) dX12_leaderOf_28 (ct_X12_unpack  h) (fun st_9 h => ?_)
  refine J_iload_n 0 dX12_leaderOf_31 rfl rfl ?_
  exact J_reti rfl dX12_leaderOf_32 h
/-! X12_leader -/
def P_X12_leader_26  (a0 : Nat) (a1 : Int32)  (post : Int32 → St → Prop) (s0 : Int32) (st : St) : Prop := post s0 st
def P_X12_leader  (a0 : Nat) (a1 : Int32) (st : St) (post : Int32 → St → Prop) : Prop := fk a0 12 4 = some 0 ∧ oC a0 12 ∧ P_X12_isBride  a0 a1 (sI st a0 4 0) (fun z_1 st_2 => ((z_1 = 0 → oC a0 12 ∧ P_X12_fail  a0 1 st_2 (fun z_3 st_4 => P_X12_leader_26  a0 a1  post z_3 st_4)) ∧ (¬ z_1 = 0 → oC a0 12 ∧ P_X12_leaderOf  a0 a1 st_2 (fun z_5 st_6 => P_X12_leader_26  a0 a1  post z_5 st_6))))
set_option maxRecDepth 100000 in
set_option maxHeartbeats 4000000 in
theorem K_X12_leader_26 {l : Launch} {E : En}   (a0 : Nat) (a1 : Int32)  {post : Int32 → St → Prop}   (s0 : Int32) (st : St) (h : P_X12_leader_26  a0 a1  post s0 st) : Jg l E (CFc E) (Rm 10 0 0) cX12_leader 2 RX12 (some .int) (fun _ => True) (QI E post 0 0) 0 0 26 [(0, .ref a0), (1, .int a1)] [.int s0] st := by
  unfold P_X12_leader_26 at h
  exact J_reti rfl dX12_leader_26 h
set_option maxRecDepth 100000 in
set_option maxHeartbeats 4000000 in
theorem ct_X12_leader {l : Launch} {E : En}  {a0 : Nat} {a1 : Int32} {st : St} {post : Int32 → St → Prop} (h : P_X12_leader  a0 a1 st post) : CtI l E (CFc E) 10 0 0 yX12_leader cX12_leader 2 (some .int) [.ref a0, .int a1] st post := by
  refine ctI_of (by decide) (Nat.le_of_ble_eq_true rfl) ?_
  show Jg l E (CFc E) (Rm 10 0 0) cX12_leader 2 RX12 (some .int) (fun _ => True) (QI E post 0 0) 0 0 0 [(0, .ref a0), (1, .int a1)] [] st
  unfold P_X12_leader at h
  refine J_aload_n 0 dX12_leader_0 rfl rfl ?_
  refine J_iconst 0 dX12_leader_1 (by decide) ?_
  obtain ⟨hf, h⟩ := h
  refine J_putI fp_RX12_184 dX12_leader_2 rfl hf ?_
  refine J_aload_n 0 dX12_leader_5 rfl rfl ?_
  refine J_iload_n 1 dX12_leader_6 rfl rfl ?_
  obtain ⟨ho, h⟩ := h
  refine J_cvi (As := [_]) md_X12_isBride k_1170 (rc_obj cl_12 ho) rfl rfl ⟨Nat.le_of_ble_eq_true rfl, Nat.le_of_ble_eq_true rfl⟩ ⟨Nat.le_of_ble_eq_true rfl, Nat.le_of_ble_eq_true rfl⟩ (Nat.le_of_ble_eq_true rfl) dX12_leader_7 (ct_X12_isBride  h) (fun z_1 st_2 h => ?_)
  refine J_if_eq 21 dX12_leader_10 (by decide) (fun hc => ?_) (fun hc => ?_)
  · have h := h.1 hc
    refine J_aload_n 0 dX12_leader_21 rfl rfl ?_
    refine J_iconst 1 dX12_leader_22 (by decide) ?_
    obtain ⟨ho, h⟩ := h
    refine J_cvi (As := [_]) md_X12_fail k_1093 (rc_obj cl_12 ho) rfl rfl ⟨Nat.le_of_ble_eq_true rfl, Nat.le_of_ble_eq_true rfl⟩ ⟨Nat.le_of_ble_eq_true rfl, Nat.le_of_ble_eq_true rfl⟩ (Nat.le_of_ble_eq_true rfl) dX12_leader_23 (ct_X12_fail  h) (fun z_3 st_4 h => ?_)
    exact J_lv [0, 1] rfl (K_X12_leader_26   a0 a1  z_3 st_4 h)
  · have h := h.2 hc
    refine J_aload_n 0 dX12_leader_13 rfl rfl ?_
    refine J_iload_n 1 dX12_leader_14 rfl rfl ?_
    obtain ⟨ho, h⟩ := h
    refine J_cvi (As := [_]) md_X12_leaderOf k_1204 (rc_obj cl_12 ho) rfl rfl ⟨Nat.le_of_ble_eq_true rfl, Nat.le_of_ble_eq_true rfl⟩ ⟨Nat.le_of_ble_eq_true rfl, Nat.le_of_ble_eq_true rfl⟩ (Nat.le_of_ble_eq_true rfl) dX12_leader_15 (ct_X12_leaderOf  h) (fun z_5 st_6 h => ?_)
    refine J_goto 26 dX12_leader_18 (by decide) ?_
    exact J_lv [0, 1] rfl (K_X12_leader_26   a0 a1  z_5 st_6 h)
/-! X12_then -/
def P_X12_then  (a0 : Nat) (a1 : Int32) (a2 : Int32) (st : St) (post : Int32 → St → Prop) : Prop := fk a0 12 4 = some 0 ∧ oC a0 12 ∧ P_X12_isPerson  a0 a1 (sI st a0 4 0) (fun z_1 st_2 => ((¬ z_1 = 0 → P_X12_isIn  ((a2 : Int32).toInt64) 0 60 st_2 (fun z_3 st_4 => ((¬ z_3 = 0 → ∃ r_5, rv st_4 a0 12 43 = some r_5 ∧ oC a0 12 ∧ P_X12_pack  a0 r_5 0 st_4 (fun st_7 => oC a0 12 ∧ P_X12_goOn  a0 a2 st_7 (fun st_9 => ∃ r_10, rv st_9 a0 12 27 = some r_10 ∧ vp_in a1 (al 0 r_10) ∧ ∃ r_11, rv st_9 a0 12 43 = some r_11 ∧ oC a0 12 ∧ P_X12_unpack  a0 r_11 0 st_9 (fun st_13 => post (gA st_9 r_10 (a1 : Int32).toNatClampNeg) st_13)))) ∧ (z_3 = 0 → oC a0 12 ∧ P_X12_fail  a0 2 st_4 (fun z_14 st_15 => post z_14 st_15))))) ∧ (z_1 = 0 → oC a0 12 ∧ P_X12_fail  a0 1 st_2 (fun z_16 st_17 => post z_16 st_17))))
set_option maxRecDepth 100000 in
set_option maxHeartbeats 4000000 in
theorem ct_X12_then {l : Launch} {E : En}  {a0 : Nat} {a1 : Int32} {a2 : Int32} {st : St} {post : Int32 → St → Prop} (h : P_X12_then  a0 a1 a2 st post) : CtI l E (CFc E) 9 0 0 yX12_then cX12_then 4 (some .int) [.ref a0, .int a1, .int a2] st post := by
  refine ctI_of (by decide) (Nat.le_of_ble_eq_true rfl) ?_
  show Jg l E (CFc E) (Rm 9 0 0) cX12_then 4 RX12 (some .int) (fun _ => True) (QI E post 0 0) 0 0 0 [(0, .ref a0), (1, .int a1), (2, .int a2)] [] st
  unfold P_X12_then at h
  refine J_aload_n 0 dX12_then_0 rfl rfl ?_
  refine J_iconst 0 dX12_then_1 (by decide) ?_
  obtain ⟨hf, h⟩ := h
  refine J_putI fp_RX12_184 dX12_then_2 rfl hf ?_
  refine J_aload_n 0 dX12_then_5 rfl rfl ?_
  refine J_iload_n 1 dX12_then_6 rfl rfl ?_
  obtain ⟨ho, h⟩ := h
  refine J_cvi (As := [_]) md_X12_isPerson k_1167 (rc_obj cl_12 ho) rfl rfl ⟨Nat.le_of_ble_eq_true rfl, Nat.le_of_ble_eq_true rfl⟩ ⟨Nat.le_of_ble_eq_true rfl, Nat.le_of_ble_eq_true rfl⟩ (Nat.le_of_ble_eq_true rfl) dX12_then_7 (ct_X12_isPerson  h) (fun z_1 st_2 h => ?_)
  refine J_if_ne 19 dX12_then_10 (by decide) (fun hc => ?_) (fun hc => ?_)
  · have h := h.1 hc
    refine J_iload_n 2 dX12_then_19 rfl rfl ?_
    refine J_i2l dX12_then_20 ?_
    refine J_lconst 0 dX12_then_21 (by decide) ?_
    refine J_ldc2 k_1208 dX12_then_22 ?_
    refine J_csi (As := [_, _, _]) md_X12_isIn k_971 rfl rfl ⟨Nat.le_of_ble_eq_true rfl, Nat.le_of_ble_eq_true rfl⟩ ⟨Nat.le_of_ble_eq_true rfl, Nat.le_of_ble_eq_true rfl⟩ (Nat.le_of_ble_eq_true rfl) dX12_then_25 (ct_X12_isIn  h) (fun z_3 st_4 h => ?_)
    refine J_if_ne 37 dX12_then_28 (by decide) (fun hc => ?_) (fun hc => ?_)
    · have h := h.1 hc
      refine J_aload_n 0 dX12_then_37 rfl rfl ?_
      refine J_aload_n 0 dX12_then_38 rfl rfl ?_
      obtain ⟨r_5, hf, h⟩ := h
      refine J_getR fl_RX12_120 dX12_then_39 hf ?_
      refine J_iconst 0 dX12_then_42 (by decide) ?_
      obtain ⟨ho, h⟩ := h
      refine J_cvv (As := [_, _]) md_X12_pack k_1178 (rc_obj cl_12 ho) rfl rfl ⟨Nat.le_of_ble_eq_true rfl, Nat.le_of_ble_eq_true rfl⟩ ⟨Nat.le_of_ble_eq_true rfl, Nat.le_of_ble_eq_true rfl⟩ (Nat.le_of_ble_eq_true rfl) dX12_then_43 (ct_X12_pack  h) (fun st_7 h => ?_)
      refine J_aload_n 0 dX12_then_46 rfl rfl ?_
      refine J_iload_n 2 dX12_then_47 rfl rfl ?_
      obtain ⟨ho, h⟩ := h
      refine J_cvv (As := [_]) md_X12_goOn k_1188 (rc_obj cl_12 ho) rfl rfl ⟨Nat.le_of_ble_eq_true rfl, Nat.le_of_ble_eq_true rfl⟩ ⟨Nat.le_of_ble_eq_true rfl, Nat.le_of_ble_eq_true rfl⟩ (Nat.le_of_ble_eq_true rfl) dX12_then_48 (ct_X12_goOn  h) (fun st_9 h => ?_)
      refine J_aload_n 0 dX12_then_51 rfl rfl ?_
      obtain ⟨r_10, hf, h⟩ := h
      refine J_getR fl_RX12_85 dX12_then_52 hf ?_
      refine J_iload_n 1 dX12_then_55 rfl rfl ?_
      obtain ⟨hi, h⟩ := h
      refine J_iald dX12_then_56 hi ?_
      refine J_istore_n _ dX12_then_57 rfl (by decide) rfl ?_
      refine J_aload_n 1 dX12_then_58 rfl rfl ?_
      refine J_aload_n 1 dX12_then_59 rfl rfl ?_
      obtain ⟨r_11, hf, h⟩ := h
      refine J_getR fl_RX12_120 dX12_then_60 hf ?_
      refine J_iconst 0 dX12_then_63 (by decide) ?_
      obtain ⟨ho, h⟩ := h
      refine J_cvv (As := [_, _]) md_X12_unpack k_1200 (rc_obj cl_12 ho) rfl rfl ⟨Nat.le_of_ble_eq_true rfl, Nat.le_of_ble_eq_true rfl⟩ ⟨Nat.le_of_ble_eq_true rfl, Nat.le_of_ble_eq_true rfl⟩ (Nat.le_of_ble_eq_true rfl) dX12_then_64 (ct_X12_unpack  h) (fun st_13 h => ?_)
      refine J_iload_n 0 dX12_then_67 rfl rfl ?_
      exact J_reti rfl dX12_then_68 h
    · have h := h.2 hc
      refine J_aload_n 0 dX12_then_31 rfl rfl ?_
      refine J_iconst 2 dX12_then_32 (by decide) ?_
      obtain ⟨ho, h⟩ := h
      refine J_cvi (As := [_]) md_X12_fail k_1093 (rc_obj cl_12 ho) rfl rfl ⟨Nat.le_of_ble_eq_true rfl, Nat.le_of_ble_eq_true rfl⟩ ⟨Nat.le_of_ble_eq_true rfl, Nat.le_of_ble_eq_true rfl⟩ (Nat.le_of_ble_eq_true rfl) dX12_then_33 (ct_X12_fail  h) (fun z_14 st_15 h => ?_)
      exact J_reti rfl dX12_then_36 h
  · have h := h.2 hc
    refine J_aload_n 0 dX12_then_13 rfl rfl ?_
    refine J_iconst 1 dX12_then_14 (by decide) ?_
    obtain ⟨ho, h⟩ := h
    refine J_cvi (As := [_]) md_X12_fail k_1093 (rc_obj cl_12 ho) rfl rfl ⟨Nat.le_of_ble_eq_true rfl, Nat.le_of_ble_eq_true rfl⟩ ⟨Nat.le_of_ble_eq_true rfl, Nat.le_of_ble_eq_true rfl⟩ (Nat.le_of_ble_eq_true rfl) dX12_then_15 (ct_X12_fail  h) (fun z_16 st_17 h => ?_)
    exact J_reti rfl dX12_then_18 h
/-! X12_ledIn -/
def P_X12_ledIn  (a0 : Nat) (a1 : Int32) (a2 : Int32) (st : St) (post : Int32 → St → Prop) : Prop := ∃ r_1, rv st a0 12 43 = some r_1 ∧ oC a0 12 ∧ P_X12_pack  a0 r_1 0 st (fun st_3 => ∃ r_4, rv st_3 a0 12 30 = some r_4 ∧ vp_in a1 (al 0 r_4) ∧ oC a0 12 ∧ P_X12_goOn  a0 a2 st_3 (fun st_6 => ∃ r_7, rv st_6 a0 12 30 = some r_7 ∧ vp_in a1 (al 0 r_7) ∧ P_X12_bitsOf  ((gA st_6 r_7 (a1 : Int32).toNatClampNeg) &&& ((gA st_3 r_4 (a1 : Int32).toNatClampNeg) ^^^ (-1))) st_6 (fun z_8 st_9 => ∃ r_10, rv st_9 a0 12 43 = some r_10 ∧ oC a0 12 ∧ P_X12_unpack  a0 r_10 0 st_9 (fun st_12 => post z_8 st_12))))
set_option maxRecDepth 100000 in
set_option maxHeartbeats 4000000 in
theorem ct_X12_ledIn {l : Launch} {E : En}  {a0 : Nat} {a1 : Int32} {a2 : Int32} {st : St} {post : Int32 → St → Prop} (h : P_X12_ledIn  a0 a1 a2 st post) : CtI l E (CFc E) 9 0 0 yX12_ledIn cX12_ledIn 5 (some .int) [.ref a0, .int a1, .int a2] st post := by
  refine ctI_of (by decide) (Nat.le_of_ble_eq_true rfl) ?_
  show Jg l E (CFc E) (Rm 9 0 0) cX12_ledIn 5 RX12 (some .int) (fun _ => True) (QI E post 0 0) 0 0 0 [(0, .ref a0), (1, .int a1), (2, .int a2)] [] st
  unfold P_X12_ledIn at h
  refine J_aload_n 0 dX12_ledIn_0 rfl rfl ?_
  refine J_aload_n 0 dX12_ledIn_1 rfl rfl ?_
  obtain ⟨r_1, hf, h⟩ := h
  refine J_getR fl_RX12_120 dX12_ledIn_2 hf ?_
  refine J_iconst 0 dX12_ledIn_5 (by decide) ?_
  obtain ⟨ho, h⟩ := h
  refine J_cvv (As := [_, _]) md_X12_pack k_1178 (rc_obj cl_12 ho) rfl rfl ⟨Nat.le_of_ble_eq_true rfl, Nat.le_of_ble_eq_true rfl⟩ ⟨Nat.le_of_ble_eq_true rfl, Nat.le_of_ble_eq_true rfl⟩ (Nat.le_of_ble_eq_true rfl) dX12_ledIn_6 (ct_X12_pack  h) (fun st_3 h => ?_)
  refine J_aload_n 0 dX12_ledIn_9 rfl rfl ?_
  obtain ⟨r_4, hf, h⟩ := h
  refine J_getR fl_RX12_93 dX12_ledIn_10 hf ?_
  refine J_iload_n 1 dX12_ledIn_13 rfl rfl ?_
  obtain ⟨hi, h⟩ := h
  refine J_iald dX12_ledIn_14 hi ?_
  refine J_istore_n _ dX12_ledIn_15 rfl (by decide) rfl ?_
  refine J_aload_n 1 dX12_ledIn_16 rfl rfl ?_
  refine J_iload_n 3 dX12_ledIn_17 rfl rfl ?_
  obtain ⟨ho, h⟩ := h
  refine J_cvv (As := [_]) md_X12_goOn k_1188 (rc_obj cl_12 ho) rfl rfl ⟨Nat.le_of_ble_eq_true rfl, Nat.le_of_ble_eq_true rfl⟩ ⟨Nat.le_of_ble_eq_true rfl, Nat.le_of_ble_eq_true rfl⟩ (Nat.le_of_ble_eq_true rfl) dX12_ledIn_18 (ct_X12_goOn  h) (fun st_6 h => ?_)
  refine J_aload_n 1 dX12_ledIn_21 rfl rfl ?_
  obtain ⟨r_7, hf, h⟩ := h
  refine J_getR fl_RX12_93 dX12_ledIn_22 hf ?_
  refine J_iload_n 2 dX12_ledIn_25 rfl rfl ?_
  obtain ⟨hi, h⟩ := h
  refine J_iald dX12_ledIn_26 hi ?_
  refine J_iload_n 0 dX12_ledIn_27 rfl rfl ?_
  refine J_iconst (-1) dX12_ledIn_28 (by decide) ?_
  refine J_ixor dX12_ledIn_29 ?_
  refine J_iand dX12_ledIn_30 ?_
  refine J_csi (As := [_]) md_X12_bitsOf k_1111 rfl rfl ⟨Nat.le_of_ble_eq_true rfl, Nat.le_of_ble_eq_true rfl⟩ ⟨Nat.le_of_ble_eq_true rfl, Nat.le_of_ble_eq_true rfl⟩ (Nat.le_of_ble_eq_true rfl) dX12_ledIn_31 (ct_X12_bitsOf  h) (fun z_8 st_9 h => ?_)
  refine J_istore _ dX12_ledIn_34 (by decide) rfl ?_
  refine J_aload_n 2 dX12_ledIn_36 rfl rfl ?_
  refine J_aload_n 2 dX12_ledIn_37 rfl rfl ?_
  obtain ⟨r_10, hf, h⟩ := h
  refine J_getR fl_RX12_120 dX12_ledIn_38 hf ?_
  refine J_iconst 0 dX12_ledIn_41 (by decide) ?_
  obtain ⟨ho, h⟩ := h
  refine J_cvv (As := [_, _]) md_X12_unpack k_1200 (rc_obj cl_12 ho) rfl rfl ⟨Nat.le_of_ble_eq_true rfl, Nat.le_of_ble_eq_true rfl⟩ ⟨Nat.le_of_ble_eq_true rfl, Nat.le_of_ble_eq_true rfl⟩ (Nat.le_of_ble_eq_true rfl) dX12_ledIn_42 (ct_X12_unpack  h) (fun st_12 h => ?_)
  refine J_iload 0 dX12_ledIn_45 rfl ?_
  exact J_reti rfl dX12_ledIn_47 h
/-! X12_led -/
def P_X12_led_45  (a0 : Nat) (a1 : Int32) (a2 : Int32)  (post : Int32 → St → Prop) (s0 : Int32) (st : St) : Prop := post s0 st
def P_X12_led  (a0 : Nat) (a1 : Int32) (a2 : Int32) (st : St) (post : Int32 → St → Prop) : Prop := fk a0 12 4 = some 0 ∧ oC a0 12 ∧ P_X12_isPerson  a0 a1 (sI st a0 4 0) (fun z_1 st_2 => ((¬ z_1 = 0 → P_X12_isIn  ((a2 : Int32).toInt64) 0 60 st_2 (fun z_3 st_4 => ((z_3 = 0 → oC a0 12 ∧ P_X12_fail  a0 2 st_4 (fun z_5 st_6 => P_X12_led_45  a0 a1 a2  post z_5 st_6)) ∧ (¬ z_3 = 0 → oC a0 12 ∧ P_X12_ledIn  a0 a1 a2 st_4 (fun z_7 st_8 => P_X12_led_45  a0 a1 a2  post z_7 st_8))))) ∧ (z_1 = 0 → oC a0 12 ∧ P_X12_fail  a0 1 st_2 (fun z_9 st_10 => post z_9 st_10))))
set_option maxRecDepth 100000 in
set_option maxHeartbeats 4000000 in
theorem K_X12_led_45 {l : Launch} {E : En}   (a0 : Nat) (a1 : Int32) (a2 : Int32)  {post : Int32 → St → Prop}   (s0 : Int32) (st : St) (h : P_X12_led_45  a0 a1 a2  post s0 st) : Jg l E (CFc E) (Rm 10 0 0) cX12_led 3 RX12 (some .int) (fun _ => True) (QI E post 0 0) 0 0 45 [(0, .ref a0), (1, .int a1), (2, .int a2)] [.int s0] st := by
  unfold P_X12_led_45 at h
  exact J_reti rfl dX12_led_45 h
set_option maxRecDepth 100000 in
set_option maxHeartbeats 4000000 in
theorem ct_X12_led {l : Launch} {E : En}  {a0 : Nat} {a1 : Int32} {a2 : Int32} {st : St} {post : Int32 → St → Prop} (h : P_X12_led  a0 a1 a2 st post) : CtI l E (CFc E) 10 0 0 yX12_led cX12_led 3 (some .int) [.ref a0, .int a1, .int a2] st post := by
  refine ctI_of (by decide) (Nat.le_of_ble_eq_true rfl) ?_
  show Jg l E (CFc E) (Rm 10 0 0) cX12_led 3 RX12 (some .int) (fun _ => True) (QI E post 0 0) 0 0 0 [(0, .ref a0), (1, .int a1), (2, .int a2)] [] st
  unfold P_X12_led at h
  refine J_aload_n 0 dX12_led_0 rfl rfl ?_
  refine J_iconst 0 dX12_led_1 (by decide) ?_
  obtain ⟨hf, h⟩ := h
  refine J_putI fp_RX12_184 dX12_led_2 rfl hf ?_
  refine J_aload_n 0 dX12_led_5 rfl rfl ?_
  refine J_iload_n 1 dX12_led_6 rfl rfl ?_
  obtain ⟨ho, h⟩ := h
  refine J_cvi (As := [_]) md_X12_isPerson k_1167 (rc_obj cl_12 ho) rfl rfl ⟨Nat.le_of_ble_eq_true rfl, Nat.le_of_ble_eq_true rfl⟩ ⟨Nat.le_of_ble_eq_true rfl, Nat.le_of_ble_eq_true rfl⟩ (Nat.le_of_ble_eq_true rfl) dX12_led_7 (ct_X12_isPerson  h) (fun z_1 st_2 h => ?_)
  refine J_if_ne 19 dX12_led_10 (by decide) (fun hc => ?_) (fun hc => ?_)
  · have h := h.1 hc
    refine J_iload_n 2 dX12_led_19 rfl rfl ?_
    refine J_i2l dX12_led_20 ?_
    refine J_lconst 0 dX12_led_21 (by decide) ?_
    refine J_ldc2 k_1208 dX12_led_22 ?_
    refine J_csi (As := [_, _, _]) md_X12_isIn k_971 rfl rfl ⟨Nat.le_of_ble_eq_true rfl, Nat.le_of_ble_eq_true rfl⟩ ⟨Nat.le_of_ble_eq_true rfl, Nat.le_of_ble_eq_true rfl⟩ (Nat.le_of_ble_eq_true rfl) dX12_led_25 (ct_X12_isIn  h) (fun z_3 st_4 h => ?_)
    refine J_if_eq 40 dX12_led_28 (by decide) (fun hc => ?_) (fun hc => ?_)
    · have h := h.1 hc
      refine J_aload_n 0 dX12_led_40 rfl rfl ?_
      refine J_iconst 2 dX12_led_41 (by decide) ?_
      obtain ⟨ho, h⟩ := h
      refine J_cvi (As := [_]) md_X12_fail k_1093 (rc_obj cl_12 ho) rfl rfl ⟨Nat.le_of_ble_eq_true rfl, Nat.le_of_ble_eq_true rfl⟩ ⟨Nat.le_of_ble_eq_true rfl, Nat.le_of_ble_eq_true rfl⟩ (Nat.le_of_ble_eq_true rfl) dX12_led_42 (ct_X12_fail  h) (fun z_5 st_6 h => ?_)
      exact J_lv [0, 1, 2] rfl (K_X12_led_45   a0 a1 a2  z_5 st_6 h)
    · have h := h.2 hc
      refine J_aload_n 0 dX12_led_31 rfl rfl ?_
      refine J_iload_n 1 dX12_led_32 rfl rfl ?_
      refine J_iload_n 2 dX12_led_33 rfl rfl ?_
      obtain ⟨ho, h⟩ := h
      refine J_cvi (As := [_, _]) md_X12_ledIn k_1211 (rc_obj cl_12 ho) rfl rfl ⟨Nat.le_of_ble_eq_true rfl, Nat.le_of_ble_eq_true rfl⟩ ⟨Nat.le_of_ble_eq_true rfl, Nat.le_of_ble_eq_true rfl⟩ (Nat.le_of_ble_eq_true rfl) dX12_led_34 (ct_X12_ledIn  h) (fun z_7 st_8 h => ?_)
      refine J_goto 45 dX12_led_37 (by decide) ?_
      exact J_lv [0, 1, 2] rfl (K_X12_led_45   a0 a1 a2  z_7 st_8 h)
  · have h := h.2 hc
    refine J_aload_n 0 dX12_led_13 rfl rfl ?_
    refine J_iconst 1 dX12_led_14 (by decide) ?_
    obtain ⟨ho, h⟩ := h
    refine J_cvi (As := [_]) md_X12_fail k_1093 (rc_obj cl_12 ho) rfl rfl ⟨Nat.le_of_ble_eq_true rfl, Nat.le_of_ble_eq_true rfl⟩ ⟨Nat.le_of_ble_eq_true rfl, Nat.le_of_ble_eq_true rfl⟩ (Nat.le_of_ble_eq_true rfl) dX12_led_15 (ct_X12_fail  h) (fun z_9 st_10 h => ?_)
    exact J_reti rfl dX12_led_18 h
/-! X12_dog -/
def P_X12_dog  (a0 : Nat) (st : St) (post : Int32 → St → Prop) : Prop := fk a0 12 4 = some 0 ∧ ∃ r_1, rv (sI st a0 4 0) a0 12 43 = some r_1 ∧ oC a0 12 ∧ P_X12_pack  a0 r_1 0 (sI st a0 4 0) (fun st_3 => fk a0 12 37 = some 0 ∧ oC a0 12 ∧ P_X12_goOn  a0 60 st_3 (fun st_5 => fk a0 12 37 = some 0 ∧ ∃ r_6, rv st_5 a0 12 43 = some r_6 ∧ oC a0 12 ∧ P_X12_unpack  a0 r_6 0 st_5 (fun st_8 => post ((gI st_5 a0 37) - (gI st_3 a0 37)) st_8)))
set_option maxRecDepth 100000 in
set_option maxHeartbeats 4000000 in
theorem ct_X12_dog {l : Launch} {E : En}  {a0 : Nat} {st : St} {post : Int32 → St → Prop} (h : P_X12_dog  a0 st post) : CtI l E (CFc E) 9 0 0 yX12_dog cX12_dog 3 (some .int) [.ref a0] st post := by
  refine ctI_of (by decide) (Nat.le_of_ble_eq_true rfl) ?_
  show Jg l E (CFc E) (Rm 9 0 0) cX12_dog 3 RX12 (some .int) (fun _ => True) (QI E post 0 0) 0 0 0 [(0, .ref a0)] [] st
  unfold P_X12_dog at h
  refine J_aload_n 0 dX12_dog_0 rfl rfl ?_
  refine J_iconst 0 dX12_dog_1 (by decide) ?_
  obtain ⟨hf, h⟩ := h
  refine J_putI fp_RX12_184 dX12_dog_2 rfl hf ?_
  refine J_aload_n 0 dX12_dog_5 rfl rfl ?_
  refine J_aload_n 0 dX12_dog_6 rfl rfl ?_
  obtain ⟨r_1, hf, h⟩ := h
  refine J_getR fl_RX12_120 dX12_dog_7 hf ?_
  refine J_iconst 0 dX12_dog_10 (by decide) ?_
  obtain ⟨ho, h⟩ := h
  refine J_cvv (As := [_, _]) md_X12_pack k_1178 (rc_obj cl_12 ho) rfl rfl ⟨Nat.le_of_ble_eq_true rfl, Nat.le_of_ble_eq_true rfl⟩ ⟨Nat.le_of_ble_eq_true rfl, Nat.le_of_ble_eq_true rfl⟩ (Nat.le_of_ble_eq_true rfl) dX12_dog_11 (ct_X12_pack  h) (fun st_3 h => ?_)
  refine J_aload_n 0 dX12_dog_14 rfl rfl ?_
  obtain ⟨hf, h⟩ := h
  refine J_getI fl_RX12_344 dX12_dog_15 hf ?_
  refine J_istore_n _ dX12_dog_18 rfl (by decide) rfl ?_
  refine J_aload_n 1 dX12_dog_19 rfl rfl ?_
  refine J_bipush 60 dX12_dog_20 (by decide) ?_
  obtain ⟨ho, h⟩ := h
  refine J_cvv (As := [_]) md_X12_goOn k_1188 (rc_obj cl_12 ho) rfl rfl ⟨Nat.le_of_ble_eq_true rfl, Nat.le_of_ble_eq_true rfl⟩ ⟨Nat.le_of_ble_eq_true rfl, Nat.le_of_ble_eq_true rfl⟩ (Nat.le_of_ble_eq_true rfl) dX12_dog_22 (ct_X12_goOn  h) (fun st_5 h => ?_)
  refine J_aload_n 1 dX12_dog_25 rfl rfl ?_
  obtain ⟨hf, h⟩ := h
  refine J_getI fl_RX12_344 dX12_dog_26 hf ?_
  refine J_iload_n 0 dX12_dog_29 rfl rfl ?_
  refine J_isub dX12_dog_30 ?_
  refine J_istore_n _ dX12_dog_31 rfl (by decide) rfl ?_
  refine J_aload_n 2 dX12_dog_32 rfl rfl ?_
  refine J_aload_n 2 dX12_dog_33 rfl rfl ?_
  obtain ⟨r_6, hf, h⟩ := h
  refine J_getR fl_RX12_120 dX12_dog_34 hf ?_
  refine J_iconst 0 dX12_dog_37 (by decide) ?_
  obtain ⟨ho, h⟩ := h
  refine J_cvv (As := [_, _]) md_X12_unpack k_1200 (rc_obj cl_12 ho) rfl rfl ⟨Nat.le_of_ble_eq_true rfl, Nat.le_of_ble_eq_true rfl⟩ ⟨Nat.le_of_ble_eq_true rfl, Nat.le_of_ble_eq_true rfl⟩ (Nat.le_of_ble_eq_true rfl) dX12_dog_38 (ct_X12_unpack  h) (fun st_8 h => ?_)
  refine J_iload_n 0 dX12_dog_41 rfl rfl ?_
  exact J_reti rfl dX12_dog_42 h
/-! X12_rank -/
def P_X12_rank_92  (a0 : Nat) (a1 : Int32) (a2 : Int32) (k47 : Int32 → Int32 → Int32 → St → Prop) (post : Int32 → St → Prop) (x3 : Int32) (x5 : Int32) (s0 : Int32) (s1 : Int32) (st : St) : Prop := k47 x3 (s1 + s0) (x5 + 1) st
def P_X12_rank_91  (a0 : Nat) (a1 : Int32) (a2 : Int32) (k47 : Int32 → Int32 → Int32 → St → Prop) (post : Int32 → St → Prop) (x3 : Int32) (x5 : Int32) (s0 : Int32) (st : St) : Prop := P_X12_rank_92  a0 a1 a2 k47 post x3 x5 0 s0 st
def P_X12_rank_87  (a0 : Nat) (a1 : Int32) (a2 : Int32) (k47 : Int32 → Int32 → Int32 → St → Prop) (post : Int32 → St → Prop) (x3 : Int32) (x5 : Int32) (s0 : Int32) (st : St) : Prop := P_X12_rank_92  a0 a1 a2 k47 post x3 x5 1 s0 st
def P_X12_rank_47  (a0 : Nat) (a1 : Int32) (a2 : Int32)  (post : Int32 → St → Prop) : Nat → Int32 → Int32 → Int32 → St → Prop
  | 0, _, _, _, _ => False
  | n9 + 1, x3, x4, x5, st => ∃ r_1, rv st a0 12 5 = some r_1 ∧ vp_in 0 (al 0 r_1) ∧ (((gA st r_1 (0 : Int32).toNatClampNeg) ≤ x5 → post x4 st) ∧ (¬ (gA st r_1 (0 : Int32).toNatClampNeg) ≤ x5 → oC a0 12 ∧ P_X12_weightOf  a0 x5 a2 st (fun z_2 st_3 => ((x3 < z_2 → P_X12_rank_87  a0 a1 a2 (fun x3 x4 x5 st => P_X12_rank_47  a0 a1 a2  post n9 x3 x4 x5 st) post x3 x5 x4 st_3) ∧ (¬ x3 < z_2 → ((¬ z_2 = x3 → P_X12_rank_91  a0 a1 a2 (fun x3 x4 x5 st => P_X12_rank_47  a0 a1 a2  post n9 x3 x4 x5 st) post x3 x5 x4 st_3) ∧ (z_2 = x3 → ((a1 ≤ x5 → P_X12_rank_91  a0 a1 a2 (fun x3 x4 x5 st => P_X12_rank_47  a0 a1 a2  post n9 x3 x4 x5 st) post x3 x5 x4 st_3) ∧ (¬ a1 ≤ x5 → P_X12_rank_87  a0 a1 a2 (fun x3 x4 x5 st => P_X12_rank_47  a0 a1 a2  post n9 x3 x4 x5 st) post x3 x5 x4 st_3)))))))))
def P_X12_rank_21  (a0 : Nat) (a1 : Int32) (a2 : Int32)  (post : Int32 → St → Prop)  (st : St) : Prop := oC a0 12 ∧ P_X12_fail  a0 1 st (fun z_1 st_2 => post z_1 st_2)
def P_X12_rank  (a0 : Nat) (a1 : Int32) (a2 : Int32) (st : St) (post : Int32 → St → Prop) : Prop := fk a0 12 4 = some 0 ∧ oC a0 12 ∧ P_X12_isPerson  a0 a1 (sI st a0 4 0) (fun z_1 st_2 => ((z_1 = 0 → P_X12_rank_21  a0 a1 a2  post st_2) ∧ (¬ z_1 = 0 → oC a0 12 ∧ P_X12_isBride  a0 a2 st_2 (fun z_3 st_4 => ((¬ z_3 = 0 → oC a0 12 ∧ P_X12_weightOf  a0 a1 a2 st_4 (fun z_5 st_6 => ((¬ z_5 = (-1) → ∃ n8, P_X12_rank_47  a0 a1 a2  post n8 z_5 0 0 st_6) ∧ (z_5 = (-1) → post (-1) st_6)))) ∧ (z_3 = 0 → P_X12_rank_21  a0 a1 a2  post st_4))))))
set_option maxRecDepth 100000 in
set_option maxHeartbeats 4000000 in
theorem K_X12_rank_92 {l : Launch} {E : En}   (a0 : Nat) (a1 : Int32) (a2 : Int32) {k47 : Int32 → Int32 → Int32 → St → Prop} {post : Int32 → St → Prop}  (hk47 : ∀ (x3 : Int32) (x4 : Int32) (x5 : Int32) (st : St), k47 x3 x4 x5 st → Jg l E (CFc E) (Rm 4 0 0) cX12_rank 7 RX12 (some .int) (fun _ => True) (QI E post 0 0) 0 0 47 [(0, .ref a0), (1, .int a1), (2, .int a2), (3, .int x3), (4, .int x4), (5, .int x5)] [] st) (x3 : Int32) (x5 : Int32) (s0 : Int32) (s1 : Int32) (st : St) (h : P_X12_rank_92  a0 a1 a2 k47 post x3 x5 s0 s1 st) : Jg l E (CFc E) (Rm 4 0 0) cX12_rank 7 RX12 (some .int) (fun _ => True) (QI E post 0 0) 0 0 92 [(0, .ref a0), (1, .int a1), (2, .int a2), (3, .int x3), (5, .int x5)] [.int s0, .int s1] st := by
  unfold P_X12_rank_92 at h
  refine J_iadd dX12_rank_92 ?_
  refine J_istore _ dX12_rank_93 (by decide) rfl ?_
  refine J_iinc 5 (x5 + 1) _ dX12_rank_95 rfl (by rfl) (by decide) rfl ?_
  refine J_goto 47 dX12_rank_98 (by decide) ?_
  exact J_lv [2, 3, 4, 5, 1, 0] rfl (hk47 x3 (s1 + s0) (x5 + 1) st h)
set_option maxRecDepth 100000 in
set_option maxHeartbeats 4000000 in
theorem K_X12_rank_91 {l : Launch} {E : En}   (a0 : Nat) (a1 : Int32) (a2 : Int32) {k47 : Int32 → Int32 → Int32 → St → Prop} {post : Int32 → St → Prop}  (hk47 : ∀ (x3 : Int32) (x4 : Int32) (x5 : Int32) (st : St), k47 x3 x4 x5 st → Jg l E (CFc E) (Rm 4 0 0) cX12_rank 7 RX12 (some .int) (fun _ => True) (QI E post 0 0) 0 0 47 [(0, .ref a0), (1, .int a1), (2, .int a2), (3, .int x3), (4, .int x4), (5, .int x5)] [] st) (x3 : Int32) (x5 : Int32) (s0 : Int32) (st : St) (h : P_X12_rank_91  a0 a1 a2 k47 post x3 x5 s0 st) : Jg l E (CFc E) (Rm 4 0 0) cX12_rank 7 RX12 (some .int) (fun _ => True) (QI E post 0 0) 0 0 91 [(0, .ref a0), (1, .int a1), (2, .int a2), (3, .int x3), (5, .int x5)] [.int s0] st := by
  unfold P_X12_rank_91 at h
  refine J_iconst 0 dX12_rank_91 (by decide) ?_
  exact J_lv [0, 1, 2, 3, 4] rfl (K_X12_rank_92   a0 a1 a2 hk47 x3 x5 0 s0 st h)
set_option maxRecDepth 100000 in
set_option maxHeartbeats 4000000 in
theorem K_X12_rank_87 {l : Launch} {E : En}   (a0 : Nat) (a1 : Int32) (a2 : Int32) {k47 : Int32 → Int32 → Int32 → St → Prop} {post : Int32 → St → Prop}  (hk47 : ∀ (x3 : Int32) (x4 : Int32) (x5 : Int32) (st : St), k47 x3 x4 x5 st → Jg l E (CFc E) (Rm 4 0 0) cX12_rank 7 RX12 (some .int) (fun _ => True) (QI E post 0 0) 0 0 47 [(0, .ref a0), (1, .int a1), (2, .int a2), (3, .int x3), (4, .int x4), (5, .int x5)] [] st) (x3 : Int32) (x5 : Int32) (s0 : Int32) (st : St) (h : P_X12_rank_87  a0 a1 a2 k47 post x3 x5 s0 st) : Jg l E (CFc E) (Rm 4 0 0) cX12_rank 7 RX12 (some .int) (fun _ => True) (QI E post 0 0) 0 0 87 [(0, .ref a0), (1, .int a1), (2, .int a2), (3, .int x3), (5, .int x5)] [.int s0] st := by
  unfold P_X12_rank_87 at h
  refine J_iconst 1 dX12_rank_87 (by decide) ?_
  refine J_goto 92 dX12_rank_88 (by decide) ?_
  exact J_lv [0, 1, 2, 3, 4] rfl (K_X12_rank_92   a0 a1 a2 hk47 x3 x5 1 s0 st h)
set_option maxRecDepth 100000 in
set_option maxHeartbeats 4000000 in
theorem K_X12_rank_47 {l : Launch} {E : En}   (a0 : Nat) (a1 : Int32) (a2 : Int32)  {post : Int32 → St → Prop}   : ∀ (n9 : Nat) (x3 : Int32) (x4 : Int32) (x5 : Int32) (st : St), P_X12_rank_47  a0 a1 a2  post n9 x3 x4 x5 st → Jg l E (CFc E) (Rm 4 0 0) cX12_rank 7 RX12 (some .int) (fun _ => True) (QI E post 0 0) 0 0 47 [(0, .ref a0), (1, .int a1), (2, .int a2), (3, .int x3), (4, .int x4), (5, .int x5)] [] st := by
  intro n9
  induction n9 with
  | zero => intro x3 x4 x5 st h; exact h.elim
  | succ n9 ih =>
    intro x3 x4 x5 st h
    unfold P_X12_rank_47 at h
    refine J_iload 5 dX12_rank_47 rfl ?_
    refine J_aload_n 0 dX12_rank_49 rfl rfl ?_
    obtain ⟨r_1, hf, h⟩ := h
    refine J_getR fl_RX12_48 dX12_rank_50 hf ?_
    refine J_iconst 0 dX12_rank_53 (by decide) ?_
    obtain ⟨hi, h⟩ := h
    refine J_iald dX12_rank_54 hi ?_
    refine J_icmp_ge 101 dX12_rank_55 (by decide) (fun hc => ?_) (fun hc => ?_)
    · have h := h.1 hc
      refine J_iload 4 dX12_rank_101 rfl ?_
      exact J_reti rfl dX12_rank_103 h
    · have h := h.2 hc
      refine J_aload_n 0 dX12_rank_58 rfl rfl ?_
      refine J_iload 5 dX12_rank_59 rfl ?_
      refine J_iload_n 2 dX12_rank_61 rfl rfl ?_
      obtain ⟨ho, h⟩ := h
      refine J_cvi (As := [_, _]) md_X12_weightOf k_1126 (rc_obj cl_12 ho) rfl rfl ⟨Nat.le_of_ble_eq_true rfl, Nat.le_of_ble_eq_true rfl⟩ ⟨Nat.le_of_ble_eq_true rfl, Nat.le_of_ble_eq_true rfl⟩ (Nat.le_of_ble_eq_true rfl) dX12_rank_62 (ct_X12_weightOf  h) (fun z_2 st_3 h => ?_)
      refine J_istore _ dX12_rank_65 (by decide) rfl ?_
      refine J_iload 5 dX12_rank_67 rfl ?_
      refine J_iload 0 dX12_rank_69 rfl ?_
      refine J_iload_n 4 dX12_rank_71 rfl rfl ?_
      refine J_icmp_gt 87 dX12_rank_72 (by decide) (fun hc => ?_) (fun hc => ?_)
      · have h := h.1 hc
        exact J_lv [1, 2, 3, 4, 6] rfl (K_X12_rank_87   a0 a1 a2 (fun x3 x4 x5 st h => ih x3 x4 x5 st h) x3 x5 x4 st_3 h)
      · have h := h.2 hc
        refine J_iload 0 dX12_rank_75 rfl ?_
        refine J_iload_n 4 dX12_rank_77 rfl rfl ?_
        refine J_icmp_ne 91 dX12_rank_78 (by decide) (fun hc => ?_) (fun hc => ?_)
        · have h := h.1 hc
          exact J_lv [1, 2, 3, 4, 6] rfl (K_X12_rank_91   a0 a1 a2 (fun x3 x4 x5 st h => ih x3 x4 x5 st h) x3 x5 x4 st_3 h)
        · have h := h.2 hc
          refine J_iload 6 dX12_rank_81 rfl ?_
          refine J_iload_n 2 dX12_rank_83 rfl rfl ?_
          refine J_icmp_ge 91 dX12_rank_84 (by decide) (fun hc => ?_) (fun hc => ?_)
          · have h := h.1 hc
            exact J_lv [1, 2, 3, 4, 6] rfl (K_X12_rank_91   a0 a1 a2 (fun x3 x4 x5 st h => ih x3 x4 x5 st h) x3 x5 x4 st_3 h)
          · have h := h.2 hc
            exact J_lv [1, 2, 3, 4, 6] rfl (K_X12_rank_87   a0 a1 a2 (fun x3 x4 x5 st h => ih x3 x4 x5 st h) x3 x5 x4 st_3 h)
set_option maxRecDepth 100000 in
set_option maxHeartbeats 4000000 in
theorem K_X12_rank_21 {l : Launch} {E : En}   (a0 : Nat) (a1 : Int32) (a2 : Int32)  {post : Int32 → St → Prop}    (st : St) (h : P_X12_rank_21  a0 a1 a2  post  st) : Jg l E (CFc E) (Rm 4 0 0) cX12_rank 7 RX12 (some .int) (fun _ => True) (QI E post 0 0) 0 0 21 [(0, .ref a0), (1, .int a1), (2, .int a2)] [] st := by
  unfold P_X12_rank_21 at h
  refine J_aload_n 0 dX12_rank_21 rfl rfl ?_
  refine J_iconst 1 dX12_rank_22 (by decide) ?_
  obtain ⟨ho, h⟩ := h
  refine J_cvi (As := [_]) md_X12_fail k_1093 (rc_obj cl_12 ho) rfl rfl ⟨Nat.le_of_ble_eq_true rfl, Nat.le_of_ble_eq_true rfl⟩ ⟨Nat.le_of_ble_eq_true rfl, Nat.le_of_ble_eq_true rfl⟩ (Nat.le_of_ble_eq_true rfl) dX12_rank_23 (ct_X12_fail  h) (fun z_1 st_2 h => ?_)
  exact J_reti rfl dX12_rank_26 h
set_option maxRecDepth 100000 in
set_option maxHeartbeats 4000000 in
theorem ct_X12_rank {l : Launch} {E : En}  {a0 : Nat} {a1 : Int32} {a2 : Int32} {st : St} {post : Int32 → St → Prop} (h : P_X12_rank  a0 a1 a2 st post) : CtI l E (CFc E) 4 0 0 yX12_rank cX12_rank 7 (some .int) [.ref a0, .int a1, .int a2] st post := by
  refine ctI_of (by decide) (Nat.le_of_ble_eq_true rfl) ?_
  show Jg l E (CFc E) (Rm 4 0 0) cX12_rank 7 RX12 (some .int) (fun _ => True) (QI E post 0 0) 0 0 0 [(0, .ref a0), (1, .int a1), (2, .int a2)] [] st
  unfold P_X12_rank at h
  refine J_aload_n 0 dX12_rank_0 rfl rfl ?_
  refine J_iconst 0 dX12_rank_1 (by decide) ?_
  obtain ⟨hf, h⟩ := h
  refine J_putI fp_RX12_184 dX12_rank_2 rfl hf ?_
  refine J_aload_n 0 dX12_rank_5 rfl rfl ?_
  refine J_iload_n 1 dX12_rank_6 rfl rfl ?_
  obtain ⟨ho, h⟩ := h
  refine J_cvi (As := [_]) md_X12_isPerson k_1167 (rc_obj cl_12 ho) rfl rfl ⟨Nat.le_of_ble_eq_true rfl, Nat.le_of_ble_eq_true rfl⟩ ⟨Nat.le_of_ble_eq_true rfl, Nat.le_of_ble_eq_true rfl⟩ (Nat.le_of_ble_eq_true rfl) dX12_rank_7 (ct_X12_isPerson  h) (fun z_1 st_2 h => ?_)
  refine J_if_eq 21 dX12_rank_10 (by decide) (fun hc => ?_) (fun hc => ?_)
  · have h := h.1 hc
    exact J_lv [0, 1, 2] rfl (K_X12_rank_21   a0 a1 a2  st_2 h)
  · have h := h.2 hc
    refine J_aload_n 0 dX12_rank_13 rfl rfl ?_
    refine J_iload_n 2 dX12_rank_14 rfl rfl ?_
    obtain ⟨ho, h⟩ := h
    refine J_cvi (As := [_]) md_X12_isBride k_1170 (rc_obj cl_12 ho) rfl rfl ⟨Nat.le_of_ble_eq_true rfl, Nat.le_of_ble_eq_true rfl⟩ ⟨Nat.le_of_ble_eq_true rfl, Nat.le_of_ble_eq_true rfl⟩ (Nat.le_of_ble_eq_true rfl) dX12_rank_15 (ct_X12_isBride  h) (fun z_3 st_4 h => ?_)
    refine J_if_ne 27 dX12_rank_18 (by decide) (fun hc => ?_) (fun hc => ?_)
    · have h := h.1 hc
      refine J_aload_n 0 dX12_rank_27 rfl rfl ?_
      refine J_iload_n 1 dX12_rank_28 rfl rfl ?_
      refine J_iload_n 2 dX12_rank_29 rfl rfl ?_
      obtain ⟨ho, h⟩ := h
      refine J_cvi (As := [_, _]) md_X12_weightOf k_1126 (rc_obj cl_12 ho) rfl rfl ⟨Nat.le_of_ble_eq_true rfl, Nat.le_of_ble_eq_true rfl⟩ ⟨Nat.le_of_ble_eq_true rfl, Nat.le_of_ble_eq_true rfl⟩ (Nat.le_of_ble_eq_true rfl) dX12_rank_30 (ct_X12_weightOf  h) (fun z_5 st_6 h => ?_)
      refine J_istore_n _ dX12_rank_33 rfl (by decide) rfl ?_
      refine J_iload_n 0 dX12_rank_34 rfl rfl ?_
      refine J_iconst (-1) dX12_rank_35 (by decide) ?_
      refine J_icmp_ne 41 dX12_rank_36 (by decide) (fun hc => ?_) (fun hc => ?_)
      · have h := h.1 hc
        refine J_iconst 0 dX12_rank_41 (by decide) ?_
        refine J_istore _ dX12_rank_42 (by decide) rfl ?_
        refine J_iconst 0 dX12_rank_44 (by decide) ?_
        refine J_istore _ dX12_rank_45 (by decide) rfl ?_
        obtain ⟨n8, h⟩ := h
        exact J_lv [3, 4, 5, 2, 1, 0] rfl (K_X12_rank_47   a0 a1 a2  n8 z_5 0 0 st_6 h)
      · have h := h.2 hc
        refine J_iconst (-1) dX12_rank_39 (by decide) ?_
        exact J_reti rfl dX12_rank_40 h
    · have h := h.2 hc
      exact J_lv [0, 1, 2] rfl (K_X12_rank_21   a0 a1 a2  st_4 h)
/-! X12_toTrain -/
def P_X12_toTrain_91  (a0 : Nat) (a1 : Int32) (a2 : Int32)  (post : Int32 → St → Prop) (x3 : Int32) (x4 : Int32) (st : St) : Prop := ∃ r_1, rv st a0 12 28 = some r_1 ∧ vp_in a1 (al 0 r_1) ∧ post x4 (sA st r_1 (a1 : Int32).toNatClampNeg x3)
def P_X12_toTrain_85  (a0 : Nat) (a1 : Int32) (a2 : Int32) (k51 : Int32 → Int32 → Int32 → St → Prop) (post : Int32 → St → Prop) (x3 : Int32) (x4 : Int32) (x5 : Int32) (st : St) : Prop := k51 x3 x4 (x5 + 1) st
def P_X12_toTrain_51  (a0 : Nat) (a1 : Int32) (a2 : Int32)  (post : Int32 → St → Prop) : Nat → Int32 → Int32 → Int32 → St → Prop
  | 0, _, _, _, _ => False
  | n9 + 1, x3, x4, x5, st => ((9 < x5 → P_X12_toTrain_91  a0 a1 a2  post x3 x4 st) ∧ (¬ 9 < x5 → ((¬ x4 = (-1) → P_X12_toTrain_91  a0 a1 a2  post x3 x4 st) ∧ (x4 = (-1) → ∃ r_1, rv st a0 12 28 = some r_1 ∧ vp_in a1 (al 0 r_1) ∧ oC a0 12 ∧ P_X12_leaderOf  a0 a2 (sA st r_1 (a1 : Int32).toNatClampNeg x5) (fun z_2 st_3 => ((¬ z_2 = a1 → P_X12_toTrain_85  a0 a1 a2 (fun x3 x4 x5 st => P_X12_toTrain_51  a0 a1 a2  post n9 x3 x4 x5 st) post x3 x4 x5 st_3) ∧ (z_2 = a1 → P_X12_toTrain_85  a0 a1 a2 (fun x3 x4 x5 st => P_X12_toTrain_51  a0 a1 a2  post n9 x3 x4 x5 st) post x3 x5 x5 st_3)))))))
def P_X12_toTrain_21  (a0 : Nat) (a1 : Int32) (a2 : Int32)  (post : Int32 → St → Prop)  (st : St) : Prop := oC a0 12 ∧ P_X12_fail  a0 1 st (fun z_1 st_2 => post z_1 st_2)
def P_X12_toTrain  (a0 : Nat) (a1 : Int32) (a2 : Int32) (st : St) (post : Int32 → St → Prop) : Prop := fk a0 12 4 = some 0 ∧ oC a0 12 ∧ P_X12_isPerson  a0 a1 (sI st a0 4 0) (fun z_1 st_2 => ((z_1 = 0 → P_X12_toTrain_21  a0 a1 a2  post st_2) ∧ (¬ z_1 = 0 → oC a0 12 ∧ P_X12_isBride  a0 a2 st_2 (fun z_3 st_4 => ((¬ z_3 = 0 → ∃ r_5, rv st_4 a0 12 32 = some r_5 ∧ vp_in a2 (al 0 r_5) ∧ ((¬ (gA st_4 r_5 (a2 : Int32).toNatClampNeg) = 0 → ∃ r_6, rv st_4 a0 12 28 = some r_6 ∧ vp_in a1 (al 0 r_6) ∧ ∃ n8, P_X12_toTrain_51  a0 a1 a2  post n8 (gA st_4 r_6 (a1 : Int32).toNatClampNeg) (-1) 0 st_4) ∧ ((gA st_4 r_5 (a2 : Int32).toNatClampNeg) = 0 → post (-1) st_4))) ∧ (z_3 = 0 → P_X12_toTrain_21  a0 a1 a2  post st_4))))))
set_option maxRecDepth 100000 in
set_option maxHeartbeats 4000000 in
theorem K_X12_toTrain_91 {l : Launch} {E : En}   (a0 : Nat) (a1 : Int32) (a2 : Int32)  {post : Int32 → St → Prop}   (x3 : Int32) (x4 : Int32) (st : St) (h : P_X12_toTrain_91  a0 a1 a2  post x3 x4 st) : Jg l E (CFc E) (Rm 10 0 0) cX12_toTrain 6 RX12 (some .int) (fun _ => True) (QI E post 0 0) 0 0 91 [(0, .ref a0), (1, .int a1), (2, .int a2), (3, .int x3), (4, .int x4)] [] st := by
  unfold P_X12_toTrain_91 at h
  refine J_aload_n 0 dX12_toTrain_91 rfl rfl ?_
  obtain ⟨r_1, hf, h⟩ := h
  refine J_getR fl_RX12_87 dX12_toTrain_92 hf ?_
  refine J_iload_n 1 dX12_toTrain_95 rfl rfl ?_
  refine J_iload_n 3 dX12_toTrain_96 rfl rfl ?_
  obtain ⟨hi, h⟩ := h
  refine J_iast dX12_toTrain_97 hi ?_
  refine J_iload 4 dX12_toTrain_98 rfl ?_
  exact J_reti rfl dX12_toTrain_100 h
set_option maxRecDepth 100000 in
set_option maxHeartbeats 4000000 in
theorem K_X12_toTrain_85 {l : Launch} {E : En}   (a0 : Nat) (a1 : Int32) (a2 : Int32) {k51 : Int32 → Int32 → Int32 → St → Prop} {post : Int32 → St → Prop}  (hk51 : ∀ (x3 : Int32) (x4 : Int32) (x5 : Int32) (st : St), k51 x3 x4 x5 st → Jg l E (CFc E) (Rm 10 0 0) cX12_toTrain 6 RX12 (some .int) (fun _ => True) (QI E post 0 0) 0 0 51 [(0, .ref a0), (1, .int a1), (2, .int a2), (3, .int x3), (4, .int x4), (5, .int x5)] [] st) (x3 : Int32) (x4 : Int32) (x5 : Int32) (st : St) (h : P_X12_toTrain_85  a0 a1 a2 k51 post x3 x4 x5 st) : Jg l E (CFc E) (Rm 10 0 0) cX12_toTrain 6 RX12 (some .int) (fun _ => True) (QI E post 0 0) 0 0 85 [(0, .ref a0), (1, .int a1), (2, .int a2), (3, .int x3), (4, .int x4), (5, .int x5)] [] st := by
  unfold P_X12_toTrain_85 at h
  refine J_iinc 5 (x5 + 1) _ dX12_toTrain_85 rfl (by rfl) (by decide) rfl ?_
  refine J_goto 51 dX12_toTrain_88 (by decide) ?_
  exact J_lv [1, 2, 3, 4, 5, 0] rfl (hk51 x3 x4 (x5 + 1) st h)
set_option maxRecDepth 100000 in
set_option maxHeartbeats 4000000 in
theorem K_X12_toTrain_51 {l : Launch} {E : En}   (a0 : Nat) (a1 : Int32) (a2 : Int32)  {post : Int32 → St → Prop}   : ∀ (n9 : Nat) (x3 : Int32) (x4 : Int32) (x5 : Int32) (st : St), P_X12_toTrain_51  a0 a1 a2  post n9 x3 x4 x5 st → Jg l E (CFc E) (Rm 10 0 0) cX12_toTrain 6 RX12 (some .int) (fun _ => True) (QI E post 0 0) 0 0 51 [(0, .ref a0), (1, .int a1), (2, .int a2), (3, .int x3), (4, .int x4), (5, .int x5)] [] st := by
  intro n9
  induction n9 with
  | zero => intro x3 x4 x5 st h; exact h.elim
  | succ n9 ih =>
    intro x3 x4 x5 st h
    unfold P_X12_toTrain_51 at h
    refine J_iload 5 dX12_toTrain_51 rfl ?_
    refine J_bipush 9 dX12_toTrain_53 (by decide) ?_
    refine J_icmp_gt 91 dX12_toTrain_55 (by decide) (fun hc => ?_) (fun hc => ?_)
    · have h := h.1 hc
      exact J_lv [0, 1, 2, 3, 4] rfl (K_X12_toTrain_91   a0 a1 a2  x3 x4 st h)
    · have h := h.2 hc
      refine J_iload 4 dX12_toTrain_58 rfl ?_
      refine J_iconst (-1) dX12_toTrain_60 (by decide) ?_
      refine J_icmp_ne 91 dX12_toTrain_61 (by decide) (fun hc => ?_) (fun hc => ?_)
      · have h := h.1 hc
        exact J_lv [0, 1, 2, 3, 4] rfl (K_X12_toTrain_91   a0 a1 a2  x3 x4 st h)
      · have h := h.2 hc
        refine J_aload_n 0 dX12_toTrain_64 rfl rfl ?_
        obtain ⟨r_1, hf, h⟩ := h
        refine J_getR fl_RX12_87 dX12_toTrain_65 hf ?_
        refine J_iload_n 1 dX12_toTrain_68 rfl rfl ?_
        refine J_iload 5 dX12_toTrain_69 rfl ?_
        obtain ⟨hi, h⟩ := h
        refine J_iast dX12_toTrain_71 hi ?_
        refine J_aload_n 0 dX12_toTrain_72 rfl rfl ?_
        refine J_iload_n 2 dX12_toTrain_73 rfl rfl ?_
        obtain ⟨ho, h⟩ := h
        refine J_cvi (As := [_]) md_X12_leaderOf k_1204 (rc_obj cl_12 ho) rfl rfl ⟨Nat.le_of_ble_eq_true rfl, Nat.le_of_ble_eq_true rfl⟩ ⟨Nat.le_of_ble_eq_true rfl, Nat.le_of_ble_eq_true rfl⟩ (Nat.le_of_ble_eq_true rfl) dX12_toTrain_74 (ct_X12_leaderOf  h) (fun z_2 st_3 h => ?_)
        refine J_iload_n 1 dX12_toTrain_77 rfl rfl ?_
        refine J_icmp_ne 85 dX12_toTrain_78 (by decide) (fun hc => ?_) (fun hc => ?_)
        · have h := h.1 hc
          exact J_lv [0, 1, 2, 3, 4, 5] rfl (K_X12_toTrain_85   a0 a1 a2 (fun x3 x4 x5 st h => ih x3 x4 x5 st h) x3 x4 x5 st_3 h)
        · have h := h.2 hc
          refine J_iload 5 dX12_toTrain_81 rfl ?_
          refine J_istore _ dX12_toTrain_83 (by decide) rfl ?_
          exact J_lv [1, 2, 3, 4, 0, 5] rfl (K_X12_toTrain_85   a0 a1 a2 (fun x3 x4 x5 st h => ih x3 x4 x5 st h) x3 x5 x5 st_3 h)
set_option maxRecDepth 100000 in
set_option maxHeartbeats 4000000 in
theorem K_X12_toTrain_21 {l : Launch} {E : En}   (a0 : Nat) (a1 : Int32) (a2 : Int32)  {post : Int32 → St → Prop}    (st : St) (h : P_X12_toTrain_21  a0 a1 a2  post  st) : Jg l E (CFc E) (Rm 10 0 0) cX12_toTrain 6 RX12 (some .int) (fun _ => True) (QI E post 0 0) 0 0 21 [(0, .ref a0), (1, .int a1), (2, .int a2)] [] st := by
  unfold P_X12_toTrain_21 at h
  refine J_aload_n 0 dX12_toTrain_21 rfl rfl ?_
  refine J_iconst 1 dX12_toTrain_22 (by decide) ?_
  obtain ⟨ho, h⟩ := h
  refine J_cvi (As := [_]) md_X12_fail k_1093 (rc_obj cl_12 ho) rfl rfl ⟨Nat.le_of_ble_eq_true rfl, Nat.le_of_ble_eq_true rfl⟩ ⟨Nat.le_of_ble_eq_true rfl, Nat.le_of_ble_eq_true rfl⟩ (Nat.le_of_ble_eq_true rfl) dX12_toTrain_23 (ct_X12_fail  h) (fun z_1 st_2 h => ?_)
  exact J_reti rfl dX12_toTrain_26 h
set_option maxRecDepth 100000 in
set_option maxHeartbeats 4000000 in
theorem ct_X12_toTrain {l : Launch} {E : En}  {a0 : Nat} {a1 : Int32} {a2 : Int32} {st : St} {post : Int32 → St → Prop} (h : P_X12_toTrain  a0 a1 a2 st post) : CtI l E (CFc E) 10 0 0 yX12_toTrain cX12_toTrain 6 (some .int) [.ref a0, .int a1, .int a2] st post := by
  refine ctI_of (by decide) (Nat.le_of_ble_eq_true rfl) ?_
  show Jg l E (CFc E) (Rm 10 0 0) cX12_toTrain 6 RX12 (some .int) (fun _ => True) (QI E post 0 0) 0 0 0 [(0, .ref a0), (1, .int a1), (2, .int a2)] [] st
  unfold P_X12_toTrain at h
  refine J_aload_n 0 dX12_toTrain_0 rfl rfl ?_
  refine J_iconst 0 dX12_toTrain_1 (by decide) ?_
  obtain ⟨hf, h⟩ := h
  refine J_putI fp_RX12_184 dX12_toTrain_2 rfl hf ?_
  refine J_aload_n 0 dX12_toTrain_5 rfl rfl ?_
  refine J_iload_n 1 dX12_toTrain_6 rfl rfl ?_
  obtain ⟨ho, h⟩ := h
  refine J_cvi (As := [_]) md_X12_isPerson k_1167 (rc_obj cl_12 ho) rfl rfl ⟨Nat.le_of_ble_eq_true rfl, Nat.le_of_ble_eq_true rfl⟩ ⟨Nat.le_of_ble_eq_true rfl, Nat.le_of_ble_eq_true rfl⟩ (Nat.le_of_ble_eq_true rfl) dX12_toTrain_7 (ct_X12_isPerson  h) (fun z_1 st_2 h => ?_)
  refine J_if_eq 21 dX12_toTrain_10 (by decide) (fun hc => ?_) (fun hc => ?_)
  · have h := h.1 hc
    exact J_lv [0, 1, 2] rfl (K_X12_toTrain_21   a0 a1 a2  st_2 h)
  · have h := h.2 hc
    refine J_aload_n 0 dX12_toTrain_13 rfl rfl ?_
    refine J_iload_n 2 dX12_toTrain_14 rfl rfl ?_
    obtain ⟨ho, h⟩ := h
    refine J_cvi (As := [_]) md_X12_isBride k_1170 (rc_obj cl_12 ho) rfl rfl ⟨Nat.le_of_ble_eq_true rfl, Nat.le_of_ble_eq_true rfl⟩ ⟨Nat.le_of_ble_eq_true rfl, Nat.le_of_ble_eq_true rfl⟩ (Nat.le_of_ble_eq_true rfl) dX12_toTrain_15 (ct_X12_isBride  h) (fun z_3 st_4 h => ?_)
    refine J_if_ne 27 dX12_toTrain_18 (by decide) (fun hc => ?_) (fun hc => ?_)
    · have h := h.1 hc
      refine J_aload_n 0 dX12_toTrain_27 rfl rfl ?_
      obtain ⟨r_5, hf, h⟩ := h
      refine J_getR fl_RX12_99 dX12_toTrain_28 hf ?_
      refine J_iload_n 2 dX12_toTrain_31 rfl rfl ?_
      obtain ⟨hi, h⟩ := h
      refine J_iald dX12_toTrain_32 hi ?_
      refine J_if_ne 38 dX12_toTrain_33 (by decide) (fun hc => ?_) (fun hc => ?_)
      · have h := h.1 hc
        refine J_aload_n 0 dX12_toTrain_38 rfl rfl ?_
        obtain ⟨r_6, hf, h⟩ := h
        refine J_getR fl_RX12_87 dX12_toTrain_39 hf ?_
        refine J_iload_n 1 dX12_toTrain_42 rfl rfl ?_
        obtain ⟨hi, h⟩ := h
        refine J_iald dX12_toTrain_43 hi ?_
        refine J_istore_n _ dX12_toTrain_44 rfl (by decide) rfl ?_
        refine J_iconst (-1) dX12_toTrain_45 (by decide) ?_
        refine J_istore _ dX12_toTrain_46 (by decide) rfl ?_
        refine J_iconst 0 dX12_toTrain_48 (by decide) ?_
        refine J_istore _ dX12_toTrain_49 (by decide) rfl ?_
        obtain ⟨n8, h⟩ := h
        exact J_lv [3, 4, 5, 2, 1, 0] rfl (K_X12_toTrain_51   a0 a1 a2  n8 (gA st_4 r_6 (a1 : Int32).toNatClampNeg) (-1) 0 st_4 h)
      · have h := h.2 hc
        refine J_iconst (-1) dX12_toTrain_36 (by decide) ?_
        exact J_reti rfl dX12_toTrain_37 h
    · have h := h.2 hc
      exact J_lv [0, 1, 2] rfl (K_X12_toTrain_21   a0 a1 a2  st_4 h)
/-! X12_tellLeaders -/
def P_X12_tellLeaders_17  (a0 : Nat)  (post : St → Prop) : Nat → Int32 → St → Prop
  | 0, _, _ => False
  | n9 + 1, x1, st => ((6 ≤ x1 → ∃ r_1, rv st a0 12 43 = some r_1 ∧ oC a0 12 ∧ P_X12_unpack  a0 r_1 0 st (fun st_3 => post st_3)) ∧ (¬ 6 ≤ x1 → ∃ r_4, rv st a0 12 44 = some r_4 ∧ ∃ r_5, rv st a0 12 33 = some r_5 ∧ vp_in x1 (al 0 r_5) ∧ vp_in x1 (al 0 r_4) ∧ P_X12_tellLeaders_17  a0  post n9 (x1 + 1) (sA st r_4 (x1 : Int32).toNatClampNeg (gA st r_5 (x1 : Int32).toNatClampNeg))))
def P_X12_tellLeaders  (a0 : Nat) (st : St) (post : St → Prop) : Prop := ∃ r_1, rv st a0 12 43 = some r_1 ∧ oC a0 12 ∧ P_X12_pack  a0 r_1 0 st (fun st_3 => oC a0 12 ∧ P_X12_goOn  a0 60 st_3 (fun st_5 => ∃ n8, P_X12_tellLeaders_17  a0  post n8 0 st_5))
set_option maxRecDepth 100000 in
set_option maxHeartbeats 4000000 in
theorem K_X12_tellLeaders_17 {l : Launch} {E : En}   (a0 : Nat)  {post : St → Prop}   : ∀ (n9 : Nat) (x1 : Int32) (st : St), P_X12_tellLeaders_17  a0  post n9 x1 st → Jg l E (CFc E) (Rm 9 0 0) cX12_tellLeaders 2 RX12 none (fun _ => True) (QV E post 0 0) 0 0 17 [(0, .ref a0), (1, .int x1)] [] st := by
  intro n9
  induction n9 with
  | zero => intro x1 st h; exact h.elim
  | succ n9 ih =>
    intro x1 st h
    unfold P_X12_tellLeaders_17 at h
    refine J_iload_n 1 dX12_tellLeaders_17 rfl rfl ?_
    refine J_bipush 6 dX12_tellLeaders_18 (by decide) ?_
    refine J_icmp_ge 41 dX12_tellLeaders_20 (by decide) (fun hc => ?_) (fun hc => ?_)
    · have h := h.1 hc
      refine J_aload_n 0 dX12_tellLeaders_41 rfl rfl ?_
      refine J_aload_n 0 dX12_tellLeaders_42 rfl rfl ?_
      obtain ⟨r_1, hf, h⟩ := h
      refine J_getR fl_RX12_120 dX12_tellLeaders_43 hf ?_
      refine J_iconst 0 dX12_tellLeaders_46 (by decide) ?_
      obtain ⟨ho, h⟩ := h
      refine J_cvv (As := [_, _]) md_X12_unpack k_1200 (rc_obj cl_12 ho) rfl rfl ⟨Nat.le_of_ble_eq_true rfl, Nat.le_of_ble_eq_true rfl⟩ ⟨Nat.le_of_ble_eq_true rfl, Nat.le_of_ble_eq_true rfl⟩ (Nat.le_of_ble_eq_true rfl) dX12_tellLeaders_47 (ct_X12_unpack  h) (fun st_3 h => ?_)
      exact J_retv rfl dX12_tellLeaders_50 h
    · have h := h.2 hc
      refine J_aload_n 0 dX12_tellLeaders_23 rfl rfl ?_
      obtain ⟨r_4, hf, h⟩ := h
      refine J_getR fl_RX12_123 dX12_tellLeaders_24 hf ?_
      refine J_iload_n 1 dX12_tellLeaders_27 rfl rfl ?_
      refine J_aload_n 0 dX12_tellLeaders_28 rfl rfl ?_
      obtain ⟨r_5, hf, h⟩ := h
      refine J_getR fl_RX12_102 dX12_tellLeaders_29 hf ?_
      refine J_iload_n 1 dX12_tellLeaders_32 rfl rfl ?_
      obtain ⟨hi, h⟩ := h
      refine J_iald dX12_tellLeaders_33 hi ?_
      obtain ⟨hi, h⟩ := h
      refine J_iast dX12_tellLeaders_34 hi ?_
      refine J_iinc 1 (x1 + 1) _ dX12_tellLeaders_35 rfl (by rfl) (by decide) rfl ?_
      refine J_goto 17 dX12_tellLeaders_38 (by decide) ?_
      exact J_lv [1, 0] rfl (ih (x1 + 1) (sA st r_4 (x1 : Int32).toNatClampNeg (gA st r_5 (x1 : Int32).toNatClampNeg)) h)
set_option maxRecDepth 100000 in
set_option maxHeartbeats 4000000 in
theorem ct_X12_tellLeaders {l : Launch} {E : En}  {a0 : Nat} {st : St} {post : St → Prop} (h : P_X12_tellLeaders  a0 st post) : CtV l E (CFc E) 9 0 0 yX12_tellLeaders cX12_tellLeaders 2 none [.ref a0] st post := by
  refine ctV_of (by decide) (Nat.le_of_ble_eq_true rfl) ?_
  show Jg l E (CFc E) (Rm 9 0 0) cX12_tellLeaders 2 RX12 none (fun _ => True) (QV E post 0 0) 0 0 0 [(0, .ref a0)] [] st
  unfold P_X12_tellLeaders at h
  refine J_aload_n 0 dX12_tellLeaders_0 rfl rfl ?_
  refine J_aload_n 0 dX12_tellLeaders_1 rfl rfl ?_
  obtain ⟨r_1, hf, h⟩ := h
  refine J_getR fl_RX12_120 dX12_tellLeaders_2 hf ?_
  refine J_iconst 0 dX12_tellLeaders_5 (by decide) ?_
  obtain ⟨ho, h⟩ := h
  refine J_cvv (As := [_, _]) md_X12_pack k_1178 (rc_obj cl_12 ho) rfl rfl ⟨Nat.le_of_ble_eq_true rfl, Nat.le_of_ble_eq_true rfl⟩ ⟨Nat.le_of_ble_eq_true rfl, Nat.le_of_ble_eq_true rfl⟩ (Nat.le_of_ble_eq_true rfl) dX12_tellLeaders_6 (ct_X12_pack  h) (fun st_3 h => ?_)
  refine J_aload_n 0 dX12_tellLeaders_9 rfl rfl ?_
  refine J_bipush 60 dX12_tellLeaders_10 (by decide) ?_
  obtain ⟨ho, h⟩ := h
  refine J_cvv (As := [_]) md_X12_goOn k_1188 (rc_obj cl_12 ho) rfl rfl ⟨Nat.le_of_ble_eq_true rfl, Nat.le_of_ble_eq_true rfl⟩ ⟨Nat.le_of_ble_eq_true rfl, Nat.le_of_ble_eq_true rfl⟩ (Nat.le_of_ble_eq_true rfl) dX12_tellLeaders_12 (ct_X12_goOn  h) (fun st_5 h => ?_)
  refine J_iconst 0 dX12_tellLeaders_15 (by decide) ?_
  refine J_istore_n _ dX12_tellLeaders_16 rfl (by decide) rfl ?_
  obtain ⟨n8, h⟩ := h
  exact J_lv [1, 0] rfl (K_X12_tellLeaders_17   a0  n8 0 st_5 h)
/-! X12_instead -/
def P_X12_instead_120  (a0 : Nat) (a1 : Int32) (k74 : Int32 → Int32 → Int32 → St → Prop) (post : Int32 → St → Prop) (x2 : Int32) (x4 : Int32) (s0 : Int32) (s1 : Int32) (st : St) : Prop := k74 x2 (s1 ||| s0) (x4 + 1) st
def P_X12_instead_119  (a0 : Nat) (a1 : Int32) (k74 : Int32 → Int32 → Int32 → St → Prop) (post : Int32 → St → Prop) (x2 : Int32) (x4 : Int32) (s0 : Int32) (st : St) : Prop := P_X12_instead_120  a0 a1 k74 post x2 x4 0 s0 st
def P_X12_instead_74  (a0 : Nat) (a1 : Int32)  (post : Int32 → St → Prop) : Nat → Int32 → Int32 → Int32 → St → Prop
  | 0, _, _, _, _ => False
  | n9 + 1, x2, x3, x4, st => ∃ r_1, rv st a0 12 5 = some r_1 ∧ vp_in 1 (al 0 r_1) ∧ (((gA st r_1 (1 : Int32).toNatClampNeg) ≤ x4 → ∃ r_2, rv st a0 12 43 = some r_2 ∧ oC a0 12 ∧ P_X12_unpack  a0 r_2 0 st (fun st_4 => post x3 st_4)) ∧ (¬ (gA st r_1 (1 : Int32).toNatClampNeg) ≤ x4 → P_X12_isOf  x2 x4 st (fun z_5 st_6 => ((z_5 = 0 → P_X12_instead_119  a0 a1 (fun x2 x3 x4 st => P_X12_instead_74  a0 a1  post n9 x2 x3 x4 st) post x2 x4 x3 st_6) ∧ (¬ z_5 = 0 → ∃ r_7, rv st_6 a0 12 33 = some r_7 ∧ vp_in x4 (al 0 r_7) ∧ ∃ r_8, rv st_6 a0 12 44 = some r_8 ∧ vp_in x4 (al 0 r_8) ∧ (((gA st_6 r_7 (x4 : Int32).toNatClampNeg) = (gA st_6 r_8 (x4 : Int32).toNatClampNeg) → P_X12_instead_119  a0 a1 (fun x2 x3 x4 st => P_X12_instead_74  a0 a1  post n9 x2 x3 x4 st) post x2 x4 x3 st_6) ∧ (¬ (gA st_6 r_7 (x4 : Int32).toNatClampNeg) = (gA st_6 r_8 (x4 : Int32).toNatClampNeg) → P_X12_instead_120  a0 a1 (fun x2 x3 x4 st => P_X12_instead_74  a0 a1  post n9 x2 x3 x4 st) post x2 x4 ((1 : Int32) <<< ((x4 : Int32) &&& 31)) x3 st_6)))))))
def P_X12_instead_39  (a0 : Nat) (a1 : Int32)  (post : Int32 → St → Prop) : Nat → Int32 → Int32 → St → Prop
  | 0, _, _, _ => False
  | n9 + 1, x2, x3, st => ((6 ≤ x3 → oC a0 12 ∧ P_X12_goOn  a0 60 st (fun st_2 => ∃ n8, P_X12_instead_74  a0 a1  post n8 x2 0 0 st_2)) ∧ (¬ 6 ≤ x3 → ∃ r_3, rv st a0 12 34 = some r_3 ∧ vp_in ((6 * a1) + x3) (al 0 r_3) ∧ P_X12_instead_39  a0 a1  post n9 x2 (x3 + 1) (sA st r_3 ((6 * a1) + x3 : Int32).toNatClampNeg 0)))
def P_X12_instead  (a0 : Nat) (a1 : Int32) (st : St) (post : Int32 → St → Prop) : Prop := fk a0 12 4 = some 0 ∧ oC a0 12 ∧ P_X12_isPerson  a0 a1 (sI st a0 4 0) (fun z_1 st_2 => ((¬ z_1 = 0 → oC a0 12 ∧ P_X12_tellLeaders  a0 st_2 (fun st_4 => ∃ r_5, rv st_4 a0 12 43 = some r_5 ∧ oC a0 12 ∧ P_X12_pack  a0 r_5 0 st_4 (fun st_7 => oC a0 12 ∧ P_X12_atHome  a0 st_7 (fun z_8 st_9 => ∃ n8, P_X12_instead_39  a0 a1  post n8 z_8 0 st_9)))) ∧ (z_1 = 0 → oC a0 12 ∧ P_X12_fail  a0 1 st_2 (fun z_10 st_11 => post z_10 st_11))))
set_option maxRecDepth 100000 in
set_option maxHeartbeats 4000000 in
theorem K_X12_instead_120 {l : Launch} {E : En}   (a0 : Nat) (a1 : Int32) {k74 : Int32 → Int32 → Int32 → St → Prop} {post : Int32 → St → Prop}  (hk74 : ∀ (x2 : Int32) (x3 : Int32) (x4 : Int32) (st : St), k74 x2 x3 x4 st → Jg l E (CFc E) (Rm 10 0 0) cX12_instead 5 RX12 (some .int) (fun _ => True) (QI E post 0 0) 0 0 74 [(0, .ref a0), (1, .int a1), (2, .int x2), (3, .int x3), (4, .int x4)] [] st) (x2 : Int32) (x4 : Int32) (s0 : Int32) (s1 : Int32) (st : St) (h : P_X12_instead_120  a0 a1 k74 post x2 x4 s0 s1 st) : Jg l E (CFc E) (Rm 10 0 0) cX12_instead 5 RX12 (some .int) (fun _ => True) (QI E post 0 0) 0 0 120 [(0, .ref a0), (1, .int a1), (2, .int x2), (4, .int x4)] [.int s0, .int s1] st := by
  unfold P_X12_instead_120 at h
  refine J_ior dX12_instead_120 ?_
  refine J_istore_n _ dX12_instead_121 rfl (by decide) rfl ?_
  refine J_iinc 4 (x4 + 1) _ dX12_instead_122 rfl (by rfl) (by decide) rfl ?_
  refine J_goto 74 dX12_instead_125 (by decide) ?_
  exact J_lv [2, 3, 4, 1, 0] rfl (hk74 x2 (s1 ||| s0) (x4 + 1) st h)
set_option maxRecDepth 100000 in
set_option maxHeartbeats 4000000 in
theorem K_X12_instead_119 {l : Launch} {E : En}   (a0 : Nat) (a1 : Int32) {k74 : Int32 → Int32 → Int32 → St → Prop} {post : Int32 → St → Prop}  (hk74 : ∀ (x2 : Int32) (x3 : Int32) (x4 : Int32) (st : St), k74 x2 x3 x4 st → Jg l E (CFc E) (Rm 10 0 0) cX12_instead 5 RX12 (some .int) (fun _ => True) (QI E post 0 0) 0 0 74 [(0, .ref a0), (1, .int a1), (2, .int x2), (3, .int x3), (4, .int x4)] [] st) (x2 : Int32) (x4 : Int32) (s0 : Int32) (st : St) (h : P_X12_instead_119  a0 a1 k74 post x2 x4 s0 st) : Jg l E (CFc E) (Rm 10 0 0) cX12_instead 5 RX12 (some .int) (fun _ => True) (QI E post 0 0) 0 0 119 [(0, .ref a0), (1, .int a1), (2, .int x2), (4, .int x4)] [.int s0] st := by
  unfold P_X12_instead_119 at h
  refine J_iconst 0 dX12_instead_119 (by decide) ?_
  exact J_lv [0, 1, 2, 3] rfl (K_X12_instead_120   a0 a1 hk74 x2 x4 0 s0 st h)
set_option maxRecDepth 100000 in
set_option maxHeartbeats 4000000 in
theorem K_X12_instead_74 {l : Launch} {E : En}   (a0 : Nat) (a1 : Int32)  {post : Int32 → St → Prop}   : ∀ (n9 : Nat) (x2 : Int32) (x3 : Int32) (x4 : Int32) (st : St), P_X12_instead_74  a0 a1  post n9 x2 x3 x4 st → Jg l E (CFc E) (Rm 10 0 0) cX12_instead 5 RX12 (some .int) (fun _ => True) (QI E post 0 0) 0 0 74 [(0, .ref a0), (1, .int a1), (2, .int x2), (3, .int x3), (4, .int x4)] [] st := by
  intro n9
  induction n9 with
  | zero => intro x2 x3 x4 st h; exact h.elim
  | succ n9 ih =>
    intro x2 x3 x4 st h
    unfold P_X12_instead_74 at h
    refine J_iload 4 dX12_instead_74 rfl ?_
    refine J_aload_n 0 dX12_instead_76 rfl rfl ?_
    obtain ⟨r_1, hf, h⟩ := h
    refine J_getR fl_RX12_48 dX12_instead_77 hf ?_
    refine J_iconst 1 dX12_instead_80 (by decide) ?_
    obtain ⟨hi, h⟩ := h
    refine J_iald dX12_instead_81 hi ?_
    refine J_icmp_ge 128 dX12_instead_82 (by decide) (fun hc => ?_) (fun hc => ?_)
    · have h := h.1 hc
      refine J_aload_n 0 dX12_instead_128 rfl rfl ?_
      refine J_aload_n 0 dX12_instead_129 rfl rfl ?_
      obtain ⟨r_2, hf, h⟩ := h
      refine J_getR fl_RX12_120 dX12_instead_130 hf ?_
      refine J_iconst 0 dX12_instead_133 (by decide) ?_
      obtain ⟨ho, h⟩ := h
      refine J_cvv (As := [_, _]) md_X12_unpack k_1200 (rc_obj cl_12 ho) rfl rfl ⟨Nat.le_of_ble_eq_true rfl, Nat.le_of_ble_eq_true rfl⟩ ⟨Nat.le_of_ble_eq_true rfl, Nat.le_of_ble_eq_true rfl⟩ (Nat.le_of_ble_eq_true rfl) dX12_instead_134 (ct_X12_unpack  h) (fun st_4 h => ?_)
      refine J_iload_n 3 dX12_instead_137 rfl rfl ?_
      exact J_reti rfl dX12_instead_138 h
    · have h := h.2 hc
      refine J_iload_n 3 dX12_instead_85 rfl rfl ?_
      refine J_iload_n 2 dX12_instead_86 rfl rfl ?_
      refine J_iload 4 dX12_instead_87 rfl ?_
      refine J_csi (As := [_, _]) md_X12_isOf k_1222 rfl rfl ⟨Nat.le_of_ble_eq_true rfl, Nat.le_of_ble_eq_true rfl⟩ ⟨Nat.le_of_ble_eq_true rfl, Nat.le_of_ble_eq_true rfl⟩ (Nat.le_of_ble_eq_true rfl) dX12_instead_89 (ct_X12_isOf  h) (fun z_5 st_6 h => ?_)
      refine J_if_eq 119 dX12_instead_92 (by decide) (fun hc => ?_) (fun hc => ?_)
      · have h := h.1 hc
        exact J_lv [0, 1, 2, 4] rfl (K_X12_instead_119   a0 a1 (fun x2 x3 x4 st h => ih x2 x3 x4 st h) x2 x4 x3 st_6 h)
      · have h := h.2 hc
        refine J_aload_n 0 dX12_instead_95 rfl rfl ?_
        obtain ⟨r_7, hf, h⟩ := h
        refine J_getR fl_RX12_102 dX12_instead_96 hf ?_
        refine J_iload 4 dX12_instead_99 rfl ?_
        obtain ⟨hi, h⟩ := h
        refine J_iald dX12_instead_101 hi ?_
        refine J_aload_n 0 dX12_instead_102 rfl rfl ?_
        obtain ⟨r_8, hf, h⟩ := h
        refine J_getR fl_RX12_123 dX12_instead_103 hf ?_
        refine J_iload 4 dX12_instead_106 rfl ?_
        obtain ⟨hi, h⟩ := h
        refine J_iald dX12_instead_108 hi ?_
        refine J_icmp_eq 119 dX12_instead_109 (by decide) (fun hc => ?_) (fun hc => ?_)
        · have h := h.1 hc
          exact J_lv [0, 1, 2, 4] rfl (K_X12_instead_119   a0 a1 (fun x2 x3 x4 st h => ih x2 x3 x4 st h) x2 x4 x3 st_6 h)
        · have h := h.2 hc
          refine J_iconst 1 dX12_instead_112 (by decide) ?_
          refine J_iload 4 dX12_instead_113 rfl ?_
          refine J_ishl dX12_instead_115 ?_
          refine J_goto 120 dX12_instead_116 (by decide) ?_
          exact J_lv [0, 1, 2, 4] rfl (K_X12_instead_120   a0 a1 (fun x2 x3 x4 st h => ih x2 x3 x4 st h) x2 x4 ((1 : Int32) <<< ((x4 : Int32) &&& 31)) x3 st_6 h)
set_option maxRecDepth 100000 in
set_option maxHeartbeats 4000000 in
theorem K_X12_instead_39 {l : Launch} {E : En}   (a0 : Nat) (a1 : Int32)  {post : Int32 → St → Prop}   : ∀ (n9 : Nat) (x2 : Int32) (x3 : Int32) (st : St), P_X12_instead_39  a0 a1  post n9 x2 x3 st → Jg l E (CFc E) (Rm 10 0 0) cX12_instead 5 RX12 (some .int) (fun _ => True) (QI E post 0 0) 0 0 39 [(0, .ref a0), (1, .int a1), (2, .int x2), (3, .int x3)] [] st := by
  intro n9
  induction n9 with
  | zero => intro x2 x3 st h; exact h.elim
  | succ n9 ih =>
    intro x2 x3 st h
    unfold P_X12_instead_39 at h
    refine J_iload_n 3 dX12_instead_39 rfl rfl ?_
    refine J_bipush 6 dX12_instead_40 (by decide) ?_
    refine J_icmp_ge 63 dX12_instead_42 (by decide) (fun hc => ?_) (fun hc => ?_)
    · have h := h.1 hc
      refine J_aload_n 0 dX12_instead_63 rfl rfl ?_
      refine J_bipush 60 dX12_instead_64 (by decide) ?_
      obtain ⟨ho, h⟩ := h
      refine J_cvv (As := [_]) md_X12_goOn k_1188 (rc_obj cl_12 ho) rfl rfl ⟨Nat.le_of_ble_eq_true rfl, Nat.le_of_ble_eq_true rfl⟩ ⟨Nat.le_of_ble_eq_true rfl, Nat.le_of_ble_eq_true rfl⟩ (Nat.le_of_ble_eq_true rfl) dX12_instead_66 (ct_X12_goOn  h) (fun st_2 h => ?_)
      refine J_iconst 0 dX12_instead_69 (by decide) ?_
      refine J_istore_n _ dX12_instead_70 rfl (by decide) rfl ?_
      refine J_iconst 0 dX12_instead_71 (by decide) ?_
      refine J_istore _ dX12_instead_72 (by decide) rfl ?_
      obtain ⟨n8, h⟩ := h
      exact J_lv [2, 3, 4, 1, 0] rfl (K_X12_instead_74   a0 a1  n8 x2 0 0 st_2 h)
    · have h := h.2 hc
      refine J_aload_n 0 dX12_instead_45 rfl rfl ?_
      obtain ⟨r_3, hf, h⟩ := h
      refine J_getR fl_RX12_105 dX12_instead_46 hf ?_
      refine J_bipush 6 dX12_instead_49 (by decide) ?_
      refine J_iload_n 1 dX12_instead_51 rfl rfl ?_
      refine J_imul dX12_instead_52 ?_
      refine J_iload_n 3 dX12_instead_53 rfl rfl ?_
      refine J_iadd dX12_instead_54 ?_
      refine J_iconst 0 dX12_instead_55 (by decide) ?_
      obtain ⟨hi, h⟩ := h
      refine J_iast dX12_instead_56 hi ?_
      refine J_iinc 3 (x3 + 1) _ dX12_instead_57 rfl (by rfl) (by decide) rfl ?_
      refine J_goto 39 dX12_instead_60 (by decide) ?_
      exact J_lv [1, 2, 3, 0] rfl (ih x2 (x3 + 1) (sA st r_3 ((6 * a1) + x3 : Int32).toNatClampNeg 0) h)
set_option maxRecDepth 100000 in
set_option maxHeartbeats 4000000 in
theorem ct_X12_instead {l : Launch} {E : En}  {a0 : Nat} {a1 : Int32} {st : St} {post : Int32 → St → Prop} (h : P_X12_instead  a0 a1 st post) : CtI l E (CFc E) 10 0 0 yX12_instead cX12_instead 5 (some .int) [.ref a0, .int a1] st post := by
  refine ctI_of (by decide) (Nat.le_of_ble_eq_true rfl) ?_
  show Jg l E (CFc E) (Rm 10 0 0) cX12_instead 5 RX12 (some .int) (fun _ => True) (QI E post 0 0) 0 0 0 [(0, .ref a0), (1, .int a1)] [] st
  unfold P_X12_instead at h
  refine J_aload_n 0 dX12_instead_0 rfl rfl ?_
  refine J_iconst 0 dX12_instead_1 (by decide) ?_
  obtain ⟨hf, h⟩ := h
  refine J_putI fp_RX12_184 dX12_instead_2 rfl hf ?_
  refine J_aload_n 0 dX12_instead_5 rfl rfl ?_
  refine J_iload_n 1 dX12_instead_6 rfl rfl ?_
  obtain ⟨ho, h⟩ := h
  refine J_cvi (As := [_]) md_X12_isPerson k_1167 (rc_obj cl_12 ho) rfl rfl ⟨Nat.le_of_ble_eq_true rfl, Nat.le_of_ble_eq_true rfl⟩ ⟨Nat.le_of_ble_eq_true rfl, Nat.le_of_ble_eq_true rfl⟩ (Nat.le_of_ble_eq_true rfl) dX12_instead_7 (ct_X12_isPerson  h) (fun z_1 st_2 h => ?_)
  refine J_if_ne 19 dX12_instead_10 (by decide) (fun hc => ?_) (fun hc => ?_)
  · have h := h.1 hc
    refine J_aload_n 0 dX12_instead_19 rfl rfl ?_
    obtain ⟨ho, h⟩ := h
    refine J_cvv (As := []) md_X12_tellLeaders k_1219 (rc_obj cl_12 ho) rfl rfl ⟨Nat.le_of_ble_eq_true rfl, Nat.le_of_ble_eq_true rfl⟩ ⟨Nat.le_of_ble_eq_true rfl, Nat.le_of_ble_eq_true rfl⟩ (Nat.le_of_ble_eq_true rfl) dX12_instead_20 (ct_X12_tellLeaders  h) (fun st_4 h => ?_)
    refine J_aload_n 0 dX12_instead_23 rfl rfl ?_
    refine J_aload_n 0 dX12_instead_24 rfl rfl ?_
    obtain ⟨r_5, hf, h⟩ := h
    refine J_getR fl_RX12_120 dX12_instead_25 hf ?_
    refine J_iconst 0 dX12_instead_28 (by decide) ?_
    obtain ⟨ho, h⟩ := h
    refine J_cvv (As := [_, _]) md_X12_pack k_1178 (rc_obj cl_12 ho) rfl rfl ⟨Nat.le_of_ble_eq_true rfl, Nat.le_of_ble_eq_true rfl⟩ ⟨Nat.le_of_ble_eq_true rfl, Nat.le_of_ble_eq_true rfl⟩ (Nat.le_of_ble_eq_true rfl) dX12_instead_29 (ct_X12_pack  h) (fun st_7 h => ?_)
    refine J_aload_n 0 dX12_instead_32 rfl rfl ?_
    obtain ⟨ho, h⟩ := h
    refine J_cvi (As := []) md_X12_atHome k_1159 (rc_obj cl_12 ho) rfl rfl ⟨Nat.le_of_ble_eq_true rfl, Nat.le_of_ble_eq_true rfl⟩ ⟨Nat.le_of_ble_eq_true rfl, Nat.le_of_ble_eq_true rfl⟩ (Nat.le_of_ble_eq_true rfl) dX12_instead_33 (ct_X12_atHome  h) (fun z_8 st_9 h => ?_)
    refine J_istore_n _ dX12_instead_36 rfl (by decide) rfl ?_
    refine J_iconst 0 dX12_instead_37 (by decide) ?_
    refine J_istore_n _ dX12_instead_38 rfl (by decide) rfl ?_
    obtain ⟨n8, h⟩ := h
    exact J_lv [2, 3, 1, 0] rfl (K_X12_instead_39   a0 a1  n8 z_8 0 st_9 h)
  · have h := h.2 hc
    refine J_aload_n 0 dX12_instead_13 rfl rfl ?_
    refine J_iconst 1 dX12_instead_14 (by decide) ?_
    obtain ⟨ho, h⟩ := h
    refine J_cvi (As := [_]) md_X12_fail k_1093 (rc_obj cl_12 ho) rfl rfl ⟨Nat.le_of_ble_eq_true rfl, Nat.le_of_ble_eq_true rfl⟩ ⟨Nat.le_of_ble_eq_true rfl, Nat.le_of_ble_eq_true rfl⟩ (Nat.le_of_ble_eq_true rfl) dX12_instead_15 (ct_X12_fail  h) (fun z_10 st_11 h => ?_)
    exact J_reti rfl dX12_instead_18 h
/-! X12_weightOn -/
def P_X12_weightOn_16  (a0 : Nat) (a1 : Int32) (a2 : Int32)  (post : Int32 → St → Prop) : Nat → St → Prop
  | 0, _ => False
  | n9 + 1, st => ∃ r_1, rv st a0 12 32 = some r_1 ∧ vp_in a1 (al 0 r_1) ∧ ((¬ (gA st r_1 (a1 : Int32).toNatClampNeg) = 1 → ∃ r_2, rv st a0 12 42 = some r_2 ∧ vp_in a1 (al 0 r_2) ∧ ∃ r_3, rv st a0 12 43 = some r_3 ∧ oC a0 12 ∧ P_X12_unpack  a0 r_3 0 st (fun st_5 => post (gA st r_2 (a1 : Int32).toNatClampNeg) st_5)) ∧ ((gA st r_1 (a1 : Int32).toNatClampNeg) = 1 → oC a0 12 ∧ P_X12_aDay  a0 st (fun st_7 => P_X12_weightOn_16  a0 a1 a2  post n9 st_7)))
def P_X12_weightOn  (a0 : Nat) (a1 : Int32) (a2 : Int32) (st : St) (post : Int32 → St → Prop) : Prop := ∃ r_1, rv st a0 12 43 = some r_1 ∧ oC a0 12 ∧ P_X12_pack  a0 r_1 0 st (fun st_3 => ∃ r_4, rv st_3 a0 12 31 = some r_4 ∧ vp_in a1 (al 0 r_4) ∧ ∃ n8, P_X12_weightOn_16  a0 a1 a2  post n8 (sA st_3 r_4 (a1 : Int32).toNatClampNeg a2))
set_option maxRecDepth 100000 in
set_option maxHeartbeats 4000000 in
theorem K_X12_weightOn_16 {l : Launch} {E : En}   (a0 : Nat) (a1 : Int32) (a2 : Int32)  {post : Int32 → St → Prop}   : ∀ (n9 : Nat)  (st : St), P_X12_weightOn_16  a0 a1 a2  post n9  st → Jg l E (CFc E) (Rm 8 0 0) cX12_weightOn 4 RX12 (some .int) (fun _ => True) (QI E post 0 0) 0 0 16 [(0, .ref a0), (1, .int a1), (2, .int a2)] [] st := by
  intro n9
  induction n9 with
  | zero => intro  st h; exact h.elim
  | succ n9 ih =>
    intro  st h
    unfold P_X12_weightOn_16 at h
    refine J_aload_n 0 dX12_weightOn_16 rfl rfl ?_
    obtain ⟨r_1, hf, h⟩ := h
    refine J_getR fl_RX12_99 dX12_weightOn_17 hf ?_
    refine J_iload_n 1 dX12_weightOn_20 rfl rfl ?_
    obtain ⟨hi, h⟩ := h
    refine J_iald dX12_weightOn_21 hi ?_
    refine J_iconst 1 dX12_weightOn_22 (by decide) ?_
    refine J_icmp_ne 33 dX12_weightOn_23 (by decide) (fun hc => ?_) (fun hc => ?_)
    · have h := h.1 hc
      refine J_aload_n 0 dX12_weightOn_33 rfl rfl ?_
      obtain ⟨r_2, hf, h⟩ := h
      refine J_getR fl_RX12_117 dX12_weightOn_34 hf ?_
      refine J_iload_n 1 dX12_weightOn_37 rfl rfl ?_
      obtain ⟨hi, h⟩ := h
      refine J_iald dX12_weightOn_38 hi ?_
      refine J_istore_n _ dX12_weightOn_39 rfl (by decide) rfl ?_
      refine J_aload_n 1 dX12_weightOn_40 rfl rfl ?_
      refine J_aload_n 1 dX12_weightOn_41 rfl rfl ?_
      obtain ⟨r_3, hf, h⟩ := h
      refine J_getR fl_RX12_120 dX12_weightOn_42 hf ?_
      refine J_iconst 0 dX12_weightOn_45 (by decide) ?_
      obtain ⟨ho, h⟩ := h
      refine J_cvv (As := [_, _]) md_X12_unpack k_1200 (rc_obj cl_12 ho) rfl rfl ⟨Nat.le_of_ble_eq_true rfl, Nat.le_of_ble_eq_true rfl⟩ ⟨Nat.le_of_ble_eq_true rfl, Nat.le_of_ble_eq_true rfl⟩ (Nat.le_of_ble_eq_true rfl) dX12_weightOn_46 (ct_X12_unpack  h) (fun st_5 h => ?_)
      refine J_iload_n 0 dX12_weightOn_49 rfl rfl ?_
      exact J_reti rfl dX12_weightOn_50 h
    · have h := h.2 hc
      refine J_aload_n 0 dX12_weightOn_26 rfl rfl ?_
      obtain ⟨ho, h⟩ := h
      refine J_cvv (As := []) md_X12_aDay k_1146 (rc_obj cl_12 ho) rfl rfl ⟨Nat.le_of_ble_eq_true rfl, Nat.le_of_ble_eq_true rfl⟩ ⟨Nat.le_of_ble_eq_true rfl, Nat.le_of_ble_eq_true rfl⟩ (Nat.le_of_ble_eq_true rfl) dX12_weightOn_27 (ct_X12_aDay  h) (fun st_7 h => ?_)
      refine J_goto 16 dX12_weightOn_30 (by decide) ?_
      exact J_lv [0, 1, 2] rfl (ih st_7 h)
set_option maxRecDepth 100000 in
set_option maxHeartbeats 4000000 in
theorem ct_X12_weightOn {l : Launch} {E : En}  {a0 : Nat} {a1 : Int32} {a2 : Int32} {st : St} {post : Int32 → St → Prop} (h : P_X12_weightOn  a0 a1 a2 st post) : CtI l E (CFc E) 8 0 0 yX12_weightOn cX12_weightOn 4 (some .int) [.ref a0, .int a1, .int a2] st post := by
  refine ctI_of (by decide) (Nat.le_of_ble_eq_true rfl) ?_
  show Jg l E (CFc E) (Rm 8 0 0) cX12_weightOn 4 RX12 (some .int) (fun _ => True) (QI E post 0 0) 0 0 0 [(0, .ref a0), (1, .int a1), (2, .int a2)] [] st
  unfold P_X12_weightOn at h
  refine J_aload_n 0 dX12_weightOn_0 rfl rfl ?_
  refine J_aload_n 0 dX12_weightOn_1 rfl rfl ?_
  obtain ⟨r_1, hf, h⟩ := h
  refine J_getR fl_RX12_120 dX12_weightOn_2 hf ?_
  refine J_iconst 0 dX12_weightOn_5 (by decide) ?_
  obtain ⟨ho, h⟩ := h
  refine J_cvv (As := [_, _]) md_X12_pack k_1178 (rc_obj cl_12 ho) rfl rfl ⟨Nat.le_of_ble_eq_true rfl, Nat.le_of_ble_eq_true rfl⟩ ⟨Nat.le_of_ble_eq_true rfl, Nat.le_of_ble_eq_true rfl⟩ (Nat.le_of_ble_eq_true rfl) dX12_weightOn_6 (ct_X12_pack  h) (fun st_3 h => ?_)
  refine J_aload_n 0 dX12_weightOn_9 rfl rfl ?_
  obtain ⟨r_4, hf, h⟩ := h
  refine J_getR fl_RX12_96 dX12_weightOn_10 hf ?_
  refine J_iload_n 1 dX12_weightOn_13 rfl rfl ?_
  refine J_iload_n 2 dX12_weightOn_14 rfl rfl ?_
  obtain ⟨hi, h⟩ := h
  refine J_iast dX12_weightOn_15 hi ?_
  obtain ⟨n8, h⟩ := h
  exact J_lv [0, 1, 2] rfl (K_X12_weightOn_16   a0 a1 a2  n8 (sA st_3 r_4 (a1 : Int32).toNatClampNeg a2) h)
/-! X12_bestDay -/
def P_X12_bestDay_115  (a0 : Nat) (a1 : Int32) (a2 : Int32)  (post : Int32 → St → Prop) (s0 : Int32) (st : St) : Prop := post s0 st
def P_X12_bestDay_109  (a0 : Nat) (a1 : Int32) (a2 : Int32)  (post : Int32 → St → Prop) (x3 : Int32) (st : St) : Prop := P_X12_bestDay_115  a0 a1 a2  post x3 st
def P_X12_bestDay_94  (a0 : Nat) (a1 : Int32) (a2 : Int32) (k50 : Int32 → Int32 → Int32 → St → Prop) (post : Int32 → St → Prop) (x3 : Int32) (x4 : Int32) (x5 : Int32) (st : St) : Prop := k50 x3 x4 (x5 + 1) st
def P_X12_bestDay_50  (a0 : Nat) (a1 : Int32) (a2 : Int32)  (post : Int32 → St → Prop) : Nat → Int32 → Int32 → Int32 → St → Prop
  | 0, _, _, _, _ => False
  | n9 + 1, x3, x4, x5, st => fk a0 12 36 = some 0 ∧ (((if (((gI st a0 36) + 30) : Int32) < 999 then ((gI st a0 36) + 30) else 999) < x5 → ((a2 = 0 → P_X12_bestDay_109  a0 a1 a2  post x3 st) ∧ (¬ a2 = 0 → ((¬ x3 = (-1) → P_X12_bestDay_115  a0 a1 a2  post x4 st) ∧ (x3 = (-1) → P_X12_bestDay_109  a0 a1 a2  post x3 st))))) ∧ (¬ (if (((gI st a0 36) + 30) : Int32) < 999 then ((gI st a0 36) + 30) else 999) < x5 → oC a0 12 ∧ P_X12_weightOn  a0 a1 x5 st (fun z_1 st_2 => ((x4 < z_1 → P_X12_bestDay_94  a0 a1 a2 (fun x3 x4 x5 st => P_X12_bestDay_50  a0 a1 a2  post n9 x3 x4 x5 st) post x5 z_1 x5 st_2) ∧ (¬ x4 < z_1 → P_X12_bestDay_94  a0 a1 a2 (fun x3 x4 x5 st => P_X12_bestDay_50  a0 a1 a2  post n9 x3 x4 x5 st) post x3 x4 x5 st_2)))))
def P_X12_bestDay_22  (a0 : Nat) (a1 : Int32) (a2 : Int32)  (post : Int32 → St → Prop)  (st : St) : Prop := oC a0 12 ∧ P_X12_fail  a0 1 st (fun z_1 st_2 => post z_1 st_2)
def P_X12_bestDay  (a0 : Nat) (a1 : Int32) (a2 : Int32) (st : St) (post : Int32 → St → Prop) : Prop := fk a0 12 4 = some 0 ∧ oC a0 12 ∧ P_X12_isBride  a0 a1 (sI st a0 4 0) (fun z_1 st_2 => ((z_1 = 0 → P_X12_bestDay_22  a0 a1 a2  post st_2) ∧ (¬ z_1 = 0 → ((a2 < 0 → P_X12_bestDay_22  a0 a1 a2  post st_2) ∧ (¬ a2 < 0 → ((a2 ≤ 1 → ∃ r_3, rv st_2 a0 12 32 = some r_3 ∧ vp_in a1 (al 0 r_3) ∧ ((¬ (gA st_2 r_3 (a1 : Int32).toNatClampNeg) = 0 → fk a0 12 36 = some 0 ∧ ∃ n8, P_X12_bestDay_50  a0 a1 a2  post n8 (-1) 0 (gI st_2 a0 36) st_2) ∧ ((gA st_2 r_3 (a1 : Int32).toNatClampNeg) = 0 → post (-1) st_2))) ∧ (¬ a2 ≤ 1 → P_X12_bestDay_22  a0 a1 a2  post st_2)))))))
set_option maxRecDepth 100000 in
set_option maxHeartbeats 4000000 in
theorem K_X12_bestDay_115 {l : Launch} {E : En}   (a0 : Nat) (a1 : Int32) (a2 : Int32)  {post : Int32 → St → Prop}   (s0 : Int32) (st : St) (h : P_X12_bestDay_115  a0 a1 a2  post s0 st) : Jg l E (CFc E) (Rm 9 0 0) cX12_bestDay 7 RX12 (some .int) (fun _ => True) (QI E post 0 0) 0 0 115 [(0, .ref a0), (1, .int a1), (2, .int a2)] [.int s0] st := by
  unfold P_X12_bestDay_115 at h
  exact J_reti rfl dX12_bestDay_115 h
set_option maxRecDepth 100000 in
set_option maxHeartbeats 4000000 in
theorem K_X12_bestDay_109 {l : Launch} {E : En}   (a0 : Nat) (a1 : Int32) (a2 : Int32)  {post : Int32 → St → Prop}   (x3 : Int32) (st : St) (h : P_X12_bestDay_109  a0 a1 a2  post x3 st) : Jg l E (CFc E) (Rm 9 0 0) cX12_bestDay 7 RX12 (some .int) (fun _ => True) (QI E post 0 0) 0 0 109 [(0, .ref a0), (1, .int a1), (2, .int a2), (3, .int x3)] [] st := by
  unfold P_X12_bestDay_109 at h
  refine J_iload_n 3 dX12_bestDay_109 rfl rfl ?_
  refine J_goto 115 dX12_bestDay_110 (by decide) ?_
  exact J_lv [0, 1, 2] rfl (K_X12_bestDay_115   a0 a1 a2  x3 st h)
set_option maxRecDepth 100000 in
set_option maxHeartbeats 4000000 in
theorem K_X12_bestDay_94 {l : Launch} {E : En}   (a0 : Nat) (a1 : Int32) (a2 : Int32) {k50 : Int32 → Int32 → Int32 → St → Prop} {post : Int32 → St → Prop}  (hk50 : ∀ (x3 : Int32) (x4 : Int32) (x5 : Int32) (st : St), k50 x3 x4 x5 st → Jg l E (CFc E) (Rm 9 0 0) cX12_bestDay 7 RX12 (some .int) (fun _ => True) (QI E post 0 0) 0 0 50 [(0, .ref a0), (1, .int a1), (2, .int a2), (3, .int x3), (4, .int x4), (5, .int x5)] [] st) (x3 : Int32) (x4 : Int32) (x5 : Int32) (st : St) (h : P_X12_bestDay_94  a0 a1 a2 k50 post x3 x4 x5 st) : Jg l E (CFc E) (Rm 9 0 0) cX12_bestDay 7 RX12 (some .int) (fun _ => True) (QI E post 0 0) 0 0 94 [(0, .ref a0), (1, .int a1), (2, .int a2), (3, .int x3), (4, .int x4), (5, .int x5)] [] st := by
  unfold P_X12_bestDay_94 at h
  refine J_iinc 5 (x5 + 1) _ dX12_bestDay_94 rfl (by rfl) (by decide) rfl ?_
  refine J_goto 50 dX12_bestDay_97 (by decide) ?_
  exact J_lv [1, 2, 3, 4, 5, 0] rfl (hk50 x3 x4 (x5 + 1) st h)
set_option maxRecDepth 100000 in
set_option maxHeartbeats 4000000 in
theorem K_X12_bestDay_50 {l : Launch} {E : En}   (a0 : Nat) (a1 : Int32) (a2 : Int32)  {post : Int32 → St → Prop}   : ∀ (n9 : Nat) (x3 : Int32) (x4 : Int32) (x5 : Int32) (st : St), P_X12_bestDay_50  a0 a1 a2  post n9 x3 x4 x5 st → Jg l E (CFc E) (Rm 9 0 0) cX12_bestDay 7 RX12 (some .int) (fun _ => True) (QI E post 0 0) 0 0 50 [(0, .ref a0), (1, .int a1), (2, .int a2), (3, .int x3), (4, .int x4), (5, .int x5)] [] st := by
  intro n9
  induction n9 with
  | zero => intro x3 x4 x5 st h; exact h.elim
  | succ n9 ih =>
    intro x3 x4 x5 st h
    unfold P_X12_bestDay_50 at h
    refine J_iload 5 dX12_bestDay_50 rfl ?_
    refine J_sipush 999 dX12_bestDay_52 (by decide) ?_
    refine J_aload_n 0 dX12_bestDay_55 rfl rfl ?_
    obtain ⟨hf, h⟩ := h
    refine J_getI fl_RX12_342 dX12_bestDay_56 hf ?_
    refine J_bipush 30 dX12_bestDay_59 (by decide) ?_
    refine J_iadd dX12_bestDay_61 ?_
    refine J_mmin k_987 k_162 k_158 k_163 ⟨Nat.le_of_ble_eq_true rfl, Nat.le_of_ble_eq_true rfl, Nat.le_of_ble_eq_true rfl, Nat.le_of_ble_eq_true rfl⟩ dX12_bestDay_62 ?_
    refine J_icmp_gt 100 dX12_bestDay_65 (by decide) (fun hc => ?_) (fun hc => ?_)
    · have h := h.1 hc
      refine J_iload_n 2 dX12_bestDay_100 rfl rfl ?_
      refine J_if_eq 109 dX12_bestDay_101 (by decide) (fun hc => ?_) (fun hc => ?_)
      · have h := h.1 hc
        exact J_lv [0, 1, 2, 3] rfl (K_X12_bestDay_109   a0 a1 a2  x3 st h)
      · have h := h.2 hc
        refine J_iload_n 3 dX12_bestDay_104 rfl rfl ?_
        refine J_iconst (-1) dX12_bestDay_105 (by decide) ?_
        refine J_icmp_ne 113 dX12_bestDay_106 (by decide) (fun hc => ?_) (fun hc => ?_)
        · have h := h.1 hc
          refine J_iload 4 dX12_bestDay_113 rfl ?_
          exact J_lv [0, 1, 2] rfl (K_X12_bestDay_115   a0 a1 a2  x4 st h)
        · have h := h.2 hc
          exact J_lv [0, 1, 2, 3] rfl (K_X12_bestDay_109   a0 a1 a2  x3 st h)
    · have h := h.2 hc
      refine J_aload_n 0 dX12_bestDay_68 rfl rfl ?_
      refine J_iload_n 1 dX12_bestDay_69 rfl rfl ?_
      refine J_iload 5 dX12_bestDay_70 rfl ?_
      obtain ⟨ho, h⟩ := h
      refine J_cvi (As := [_, _]) md_X12_weightOn k_1226 (rc_obj cl_12 ho) rfl rfl ⟨Nat.le_of_ble_eq_true rfl, Nat.le_of_ble_eq_true rfl⟩ ⟨Nat.le_of_ble_eq_true rfl, Nat.le_of_ble_eq_true rfl⟩ (Nat.le_of_ble_eq_true rfl) dX12_bestDay_72 (ct_X12_weightOn  h) (fun z_1 st_2 h => ?_)
      refine J_istore _ dX12_bestDay_75 (by decide) rfl ?_
      refine J_iload 0 dX12_bestDay_77 rfl ?_
      refine J_iload 5 dX12_bestDay_79 rfl ?_
      refine J_icmp_gt 87 dX12_bestDay_81 (by decide) (fun hc => ?_) (fun hc => ?_)
      · have h := h.1 hc
        refine J_iload 6 dX12_bestDay_87 rfl ?_
        refine J_istore_n _ dX12_bestDay_89 rfl (by decide) rfl ?_
        refine J_iload 1 dX12_bestDay_90 rfl ?_
        refine J_istore _ dX12_bestDay_92 (by decide) rfl ?_
        exact J_lv [3, 4, 5, 1, 0, 6] rfl (K_X12_bestDay_94   a0 a1 a2 (fun x3 x4 x5 st h => ih x3 x4 x5 st h) x5 z_1 x5 st_2 h)
      · have h := h.2 hc
        refine J_goto 94 dX12_bestDay_84 (by decide) ?_
        exact J_lv [1, 2, 3, 4, 5, 6] rfl (K_X12_bestDay_94   a0 a1 a2 (fun x3 x4 x5 st h => ih x3 x4 x5 st h) x3 x4 x5 st_2 h)
set_option maxRecDepth 100000 in
set_option maxHeartbeats 4000000 in
theorem K_X12_bestDay_22 {l : Launch} {E : En}   (a0 : Nat) (a1 : Int32) (a2 : Int32)  {post : Int32 → St → Prop}    (st : St) (h : P_X12_bestDay_22  a0 a1 a2  post  st) : Jg l E (CFc E) (Rm 9 0 0) cX12_bestDay 7 RX12 (some .int) (fun _ => True) (QI E post 0 0) 0 0 22 [(0, .ref a0), (1, .int a1), (2, .int a2)] [] st := by
  unfold P_X12_bestDay_22 at h
  refine J_aload_n 0 dX12_bestDay_22 rfl rfl ?_
  refine J_iconst 1 dX12_bestDay_23 (by decide) ?_
  obtain ⟨ho, h⟩ := h
  refine J_cvi (As := [_]) md_X12_fail k_1093 (rc_obj cl_12 ho) rfl rfl ⟨Nat.le_of_ble_eq_true rfl, Nat.le_of_ble_eq_true rfl⟩ ⟨Nat.le_of_ble_eq_true rfl, Nat.le_of_ble_eq_true rfl⟩ (Nat.le_of_ble_eq_true rfl) dX12_bestDay_24 (ct_X12_fail  h) (fun z_1 st_2 h => ?_)
  exact J_reti rfl dX12_bestDay_27 h
set_option maxRecDepth 100000 in
set_option maxHeartbeats 4000000 in
theorem ct_X12_bestDay {l : Launch} {E : En}  {a0 : Nat} {a1 : Int32} {a2 : Int32} {st : St} {post : Int32 → St → Prop} (h : P_X12_bestDay  a0 a1 a2 st post) : CtI l E (CFc E) 9 0 0 yX12_bestDay cX12_bestDay 7 (some .int) [.ref a0, .int a1, .int a2] st post := by
  refine ctI_of (by decide) (Nat.le_of_ble_eq_true rfl) ?_
  show Jg l E (CFc E) (Rm 9 0 0) cX12_bestDay 7 RX12 (some .int) (fun _ => True) (QI E post 0 0) 0 0 0 [(0, .ref a0), (1, .int a1), (2, .int a2)] [] st
  unfold P_X12_bestDay at h
  refine J_aload_n 0 dX12_bestDay_0 rfl rfl ?_
  refine J_iconst 0 dX12_bestDay_1 (by decide) ?_
  obtain ⟨hf, h⟩ := h
  refine J_putI fp_RX12_184 dX12_bestDay_2 rfl hf ?_
  refine J_aload_n 0 dX12_bestDay_5 rfl rfl ?_
  refine J_iload_n 1 dX12_bestDay_6 rfl rfl ?_
  obtain ⟨ho, h⟩ := h
  refine J_cvi (As := [_]) md_X12_isBride k_1170 (rc_obj cl_12 ho) rfl rfl ⟨Nat.le_of_ble_eq_true rfl, Nat.le_of_ble_eq_true rfl⟩ ⟨Nat.le_of_ble_eq_true rfl, Nat.le_of_ble_eq_true rfl⟩ (Nat.le_of_ble_eq_true rfl) dX12_bestDay_7 (ct_X12_isBride  h) (fun z_1 st_2 h => ?_)
  refine J_if_eq 22 dX12_bestDay_10 (by decide) (fun hc => ?_) (fun hc => ?_)
  · have h := h.1 hc
    exact J_lv [0, 1, 2] rfl (K_X12_bestDay_22   a0 a1 a2  st_2 h)
  · have h := h.2 hc
    refine J_iload_n 2 dX12_bestDay_13 rfl rfl ?_
    refine J_if_lt 22 dX12_bestDay_14 (by decide) (fun hc => ?_) (fun hc => ?_)
    · have h := h.1 hc
      exact J_lv [0, 1, 2] rfl (K_X12_bestDay_22   a0 a1 a2  st_2 h)
    · have h := h.2 hc
      refine J_iload_n 2 dX12_bestDay_17 rfl rfl ?_
      refine J_iconst 1 dX12_bestDay_18 (by decide) ?_
      refine J_icmp_le 28 dX12_bestDay_19 (by decide) (fun hc => ?_) (fun hc => ?_)
      · have h := h.1 hc
        refine J_aload_n 0 dX12_bestDay_28 rfl rfl ?_
        obtain ⟨r_3, hf, h⟩ := h
        refine J_getR fl_RX12_99 dX12_bestDay_29 hf ?_
        refine J_iload_n 1 dX12_bestDay_32 rfl rfl ?_
        obtain ⟨hi, h⟩ := h
        refine J_iald dX12_bestDay_33 hi ?_
        refine J_if_ne 39 dX12_bestDay_34 (by decide) (fun hc => ?_) (fun hc => ?_)
        · have h := h.1 hc
          refine J_iconst (-1) dX12_bestDay_39 (by decide) ?_
          refine J_istore_n _ dX12_bestDay_40 rfl (by decide) rfl ?_
          refine J_iconst 0 dX12_bestDay_41 (by decide) ?_
          refine J_istore _ dX12_bestDay_42 (by decide) rfl ?_
          refine J_aload_n 2 dX12_bestDay_44 rfl rfl ?_
          obtain ⟨hf, h⟩ := h
          refine J_getI fl_RX12_342 dX12_bestDay_45 hf ?_
          refine J_istore _ dX12_bestDay_48 (by decide) rfl ?_
          obtain ⟨n8, h⟩ := h
          exact J_lv [3, 4, 5, 2, 1, 0] rfl (K_X12_bestDay_50   a0 a1 a2  n8 (-1) 0 (gI st_2 a0 36) st_2 h)
        · have h := h.2 hc
          refine J_iconst (-1) dX12_bestDay_37 (by decide) ?_
          exact J_reti rfl dX12_bestDay_38 h
      · have h := h.2 hc
        exact J_lv [0, 1, 2] rfl (K_X12_bestDay_22   a0 a1 a2  st_2 h)
/-! X12_with -/
def P_X12_with  (a0 : Nat) (a1 : Int32) (a2 : Int32) (a3 : Int32) (st : St) (post : Int32 → St → Prop) : Prop := ((¬ a3 = (-1) → oC a0 12 ∧ P_X12_weightOf  a0 a3 a1 st (fun z_1 st_2 => ∃ r_3, rv st_2 a0 12 45 = some r_3 ∧ vp_in (((a1 + 1 : Int32) <<< ((9 : Int32) &&& 31)) + (a2 ||| ((1 : Int32) <<< ((a3 : Int32) &&& 31)))) (al 0 r_3) ∧ post (z_1 + (gA st_2 r_3 (((a1 + 1 : Int32) <<< ((9 : Int32) &&& 31)) + (a2 ||| ((1 : Int32) <<< ((a3 : Int32) &&& 31))) : Int32).toNatClampNeg)) st_2)) ∧ (a3 = (-1) → ∃ r_4, rv st a0 12 45 = some r_4 ∧ vp_in (((a1 + 1 : Int32) <<< ((9 : Int32) &&& 31)) + a2) (al 0 r_4) ∧ post (gA st r_4 (((a1 + 1 : Int32) <<< ((9 : Int32) &&& 31)) + a2 : Int32).toNatClampNeg) st))
set_option maxRecDepth 100000 in
set_option maxHeartbeats 4000000 in
theorem ct_X12_with {l : Launch} {E : En}  {a0 : Nat} {a1 : Int32} {a2 : Int32} {a3 : Int32} {st : St} {post : Int32 → St → Prop} (h : P_X12_with  a0 a1 a2 a3 st post) : CtI l E (CFc E) 4 0 0 yX12_with cX12_with 4 (some .int) [.ref a0, .int a1, .int a2, .int a3] st post := by
  refine ctI_of (by decide) (Nat.le_of_ble_eq_true rfl) ?_
  show Jg l E (CFc E) (Rm 4 0 0) cX12_with 4 RX12 (some .int) (fun _ => True) (QI E post 0 0) 0 0 0 [(0, .ref a0), (1, .int a1), (2, .int a2), (3, .int a3)] [] st
  unfold P_X12_with at h
  refine J_iload_n 3 dX12_with_0 rfl rfl ?_
  refine J_iconst (-1) dX12_with_1 (by decide) ?_
  refine J_icmp_ne 19 dX12_with_2 (by decide) (fun hc => ?_) (fun hc => ?_)
  · have h := h.1 hc
    refine J_aload_n 0 dX12_with_19 rfl rfl ?_
    refine J_iload_n 3 dX12_with_20 rfl rfl ?_
    refine J_iload_n 1 dX12_with_21 rfl rfl ?_
    obtain ⟨ho, h⟩ := h
    refine J_cvi (As := [_, _]) md_X12_weightOf k_1126 (rc_obj cl_12 ho) rfl rfl ⟨Nat.le_of_ble_eq_true rfl, Nat.le_of_ble_eq_true rfl⟩ ⟨Nat.le_of_ble_eq_true rfl, Nat.le_of_ble_eq_true rfl⟩ (Nat.le_of_ble_eq_true rfl) dX12_with_22 (ct_X12_weightOf  h) (fun z_1 st_2 h => ?_)
    refine J_aload_n 0 dX12_with_25 rfl rfl ?_
    obtain ⟨r_3, hf, h⟩ := h
    refine J_getR fl_RX12_126 dX12_with_26 hf ?_
    refine J_iload_n 1 dX12_with_29 rfl rfl ?_
    refine J_iconst 1 dX12_with_30 (by decide) ?_
    refine J_iadd dX12_with_31 ?_
    refine J_bipush 9 dX12_with_32 (by decide) ?_
    refine J_ishl dX12_with_34 ?_
    refine J_iload_n 2 dX12_with_35 rfl rfl ?_
    refine J_iconst 1 dX12_with_36 (by decide) ?_
    refine J_iload_n 3 dX12_with_37 rfl rfl ?_
    refine J_ishl dX12_with_38 ?_
    refine J_ior dX12_with_39 ?_
    refine J_iadd dX12_with_40 ?_
    obtain ⟨hi, h⟩ := h
    refine J_iald dX12_with_41 hi ?_
    refine J_iadd dX12_with_42 ?_
    exact J_reti rfl dX12_with_43 h
  · have h := h.2 hc
    refine J_aload_n 0 dX12_with_5 rfl rfl ?_
    obtain ⟨r_4, hf, h⟩ := h
    refine J_getR fl_RX12_126 dX12_with_6 hf ?_
    refine J_iload_n 1 dX12_with_9 rfl rfl ?_
    refine J_iconst 1 dX12_with_10 (by decide) ?_
    refine J_iadd dX12_with_11 ?_
    refine J_bipush 9 dX12_with_12 (by decide) ?_
    refine J_ishl dX12_with_14 ?_
    refine J_iload_n 2 dX12_with_15 rfl rfl ?_
    refine J_iadd dX12_with_16 ?_
    obtain ⟨hi, h⟩ := h
    refine J_iald dX12_with_17 hi ?_
    exact J_reti rfl dX12_with_18 h
/-! X12_mayLead -/
def P_X12_mayLead_37  (a0 : Nat) (a1 : Int32) (a2 : Int32) (a3 : Int32)  (post : Int32 → St → Prop) (s0 : Int32) (st : St) : Prop := (s0 = 0 ∨ s0 = 1) ∧ post s0 st
def P_X12_mayLead_36  (a0 : Nat) (a1 : Int32) (a2 : Int32) (a3 : Int32)  (post : Int32 → St → Prop)  (st : St) : Prop := P_X12_mayLead_37  a0 a1 a2 a3  post 0 st
def P_X12_mayLead  (a0 : Nat) (a1 : Int32) (a2 : Int32) (a3 : Int32) (st : St) (post : Int32 → St → Prop) : Prop := ∃ r_1, rv st a0 12 32 = some r_1 ∧ vp_in a1 (al 0 r_1) ∧ ((¬ (gA st r_1 (a1 : Int32).toNatClampNeg) = 1 → P_X12_mayLead_36  a0 a1 a2 a3  post st) ∧ ((gA st r_1 (a1 : Int32).toNatClampNeg) = 1 → P_X12_isOf  a2 a3 st (fun z_2 st_3 => ((¬ z_2 = 0 → P_X12_mayLead_36  a0 a1 a2 a3  post st_3) ∧ (z_2 = 0 → ∃ r_4, rv st_3 a0 12 34 = some r_4 ∧ vp_in ((6 * a3) + a1) (al 0 r_4) ∧ (((gA st_3 r_4 ((6 * a3) + a1 : Int32).toNatClampNeg) ≤ 0 → P_X12_mayLead_36  a0 a1 a2 a3  post st_3) ∧ (¬ (gA st_3 r_4 ((6 * a3) + a1 : Int32).toNatClampNeg) ≤ 0 → P_X12_mayLead_37  a0 a1 a2 a3  post 1 st_3)))))))
set_option maxRecDepth 100000 in
set_option maxHeartbeats 4000000 in
theorem K_X12_mayLead_37 {l : Launch} {E : En}   (a0 : Nat) (a1 : Int32) (a2 : Int32) (a3 : Int32)  {post : Int32 → St → Prop}   (s0 : Int32) (st : St) (h : P_X12_mayLead_37  a0 a1 a2 a3  post s0 st) : Jg l E (CFc E) (Rm 2 0 0) cX12_mayLead 4 RX12 (some .boolean) (fun _ => True) (QI E post 0 0) 0 0 37 [(0, .ref a0), (1, .int a1), (2, .int a2), (3, .int a3)] [.int s0] st := by
  unfold P_X12_mayLead_37 at h
  exact J_retz rfl h.1 dX12_mayLead_37 h.2
set_option maxRecDepth 100000 in
set_option maxHeartbeats 4000000 in
theorem K_X12_mayLead_36 {l : Launch} {E : En}   (a0 : Nat) (a1 : Int32) (a2 : Int32) (a3 : Int32)  {post : Int32 → St → Prop}    (st : St) (h : P_X12_mayLead_36  a0 a1 a2 a3  post  st) : Jg l E (CFc E) (Rm 2 0 0) cX12_mayLead 4 RX12 (some .boolean) (fun _ => True) (QI E post 0 0) 0 0 36 [(0, .ref a0), (1, .int a1), (2, .int a2), (3, .int a3)] [] st := by
  unfold P_X12_mayLead_36 at h
  refine J_iconst 0 dX12_mayLead_36 (by decide) ?_
  exact J_lv [0, 1, 2, 3] rfl (K_X12_mayLead_37   a0 a1 a2 a3  0 st h)
set_option maxRecDepth 100000 in
set_option maxHeartbeats 4000000 in
theorem ct_X12_mayLead {l : Launch} {E : En}  {a0 : Nat} {a1 : Int32} {a2 : Int32} {a3 : Int32} {st : St} {post : Int32 → St → Prop} (h : P_X12_mayLead  a0 a1 a2 a3 st post) : CtI l E (CFc E) 2 0 0 yX12_mayLead cX12_mayLead 4 (some .boolean) [.ref a0, .int a1, .int a2, .int a3] st post := by
  refine ctI_of (by decide) (Nat.le_of_ble_eq_true rfl) ?_
  show Jg l E (CFc E) (Rm 2 0 0) cX12_mayLead 4 RX12 (some .boolean) (fun _ => True) (QI E post 0 0) 0 0 0 [(0, .ref a0), (1, .int a1), (2, .int a2), (3, .int a3)] [] st
  unfold P_X12_mayLead at h
  refine J_aload_n 0 dX12_mayLead_0 rfl rfl ?_
  obtain ⟨r_1, hf, h⟩ := h
  refine J_getR fl_RX12_99 dX12_mayLead_1 hf ?_
  refine J_iload_n 1 dX12_mayLead_4 rfl rfl ?_
  obtain ⟨hi, h⟩ := h
  refine J_iald dX12_mayLead_5 hi ?_
  refine J_iconst 1 dX12_mayLead_6 (by decide) ?_
  refine J_icmp_ne 36 dX12_mayLead_7 (by decide) (fun hc => ?_) (fun hc => ?_)
  · have h := h.1 hc
    exact J_lv [0, 1, 2, 3] rfl (K_X12_mayLead_36   a0 a1 a2 a3  st h)
  · have h := h.2 hc
    refine J_iload_n 2 dX12_mayLead_10 rfl rfl ?_
    refine J_iload_n 3 dX12_mayLead_11 rfl rfl ?_
    refine J_csi (As := [_, _]) md_X12_isOf k_1222 rfl rfl ⟨Nat.le_of_ble_eq_true rfl, Nat.le_of_ble_eq_true rfl⟩ ⟨Nat.le_of_ble_eq_true rfl, Nat.le_of_ble_eq_true rfl⟩ (Nat.le_of_ble_eq_true rfl) dX12_mayLead_12 (ct_X12_isOf  h) (fun z_2 st_3 h => ?_)
    refine J_if_ne 36 dX12_mayLead_15 (by decide) (fun hc => ?_) (fun hc => ?_)
    · have h := h.1 hc
      exact J_lv [0, 1, 2, 3] rfl (K_X12_mayLead_36   a0 a1 a2 a3  st_3 h)
    · have h := h.2 hc
      refine J_aload_n 0 dX12_mayLead_18 rfl rfl ?_
      obtain ⟨r_4, hf, h⟩ := h
      refine J_getR fl_RX12_105 dX12_mayLead_19 hf ?_
      refine J_bipush 6 dX12_mayLead_22 (by decide) ?_
      refine J_iload_n 3 dX12_mayLead_24 rfl rfl ?_
      refine J_imul dX12_mayLead_25 ?_
      refine J_iload_n 1 dX12_mayLead_26 rfl rfl ?_
      refine J_iadd dX12_mayLead_27 ?_
      obtain ⟨hi, h⟩ := h
      refine J_iald dX12_mayLead_28 hi ?_
      refine J_if_le 36 dX12_mayLead_29 (by decide) (fun hc => ?_) (fun hc => ?_)
      · have h := h.1 hc
        exact J_lv [0, 1, 2, 3] rfl (K_X12_mayLead_36   a0 a1 a2 a3  st_3 h)
      · have h := h.2 hc
        refine J_iconst 1 dX12_mayLead_32 (by decide) ?_
        refine J_goto 37 dX12_mayLead_33 (by decide) ?_
        exact J_lv [0, 1, 2, 3] rfl (K_X12_mayLead_37   a0 a1 a2 a3  1 st_3 h)
/-! X12_tellMost -/
def P_X12_tellMost_108  (a0 : Nat) (k71 : Int32 → Int32 → Int32 → Int32 → Int32 → St → Prop) (post : St → Prop) (x1 : Int32) (x2 : Int32) (x3 : Int32) (x4 : Int32) (x5 : Int32) (st : St) : Prop := k71 x1 x2 x3 x4 (x5 + 1) st
def P_X12_tellMost_71  (a0 : Nat) (k54 : Int32 → Int32 → Int32 → St → Prop) (post : St → Prop) : Nat → Int32 → Int32 → Int32 → Int32 → Int32 → St → Prop
  | 0, _, _, _, _, _, _ => False
  | n9 + 1, x1, x2, x3, x4, x5, st => ∃ r_1, rv st a0 12 5 = some r_1 ∧ vp_in 0 (al 0 r_1) ∧ (((gA st r_1 (0 : Int32).toNatClampNeg) ≤ x5 → ∃ r_2, rv st a0 12 45 = some r_2 ∧ vp_in (((x2 : Int32) <<< ((9 : Int32) &&& 31)) + x3) (al 0 r_2) ∧ k54 x1 x2 (x3 + 1) (sA st r_2 (((x2 : Int32) <<< ((9 : Int32) &&& 31)) + x3 : Int32).toNatClampNeg x4)) ∧ (¬ (gA st r_1 (0 : Int32).toNatClampNeg) ≤ x5 → oC a0 12 ∧ P_X12_mayLead  a0 x2 x3 x5 st (fun z_3 st_4 => ((z_3 = 0 → P_X12_tellMost_108  a0 (fun x1 x2 x3 x4 x5 st => P_X12_tellMost_71  a0 k54 post n9 x1 x2 x3 x4 x5 st) post x1 x2 x3 x4 x5 st_4) ∧ (¬ z_3 = 0 → oC a0 12 ∧ P_X12_with  a0 x2 x3 x5 st_4 (fun z_5 st_6 => P_X12_tellMost_108  a0 (fun x1 x2 x3 x4 x5 st => P_X12_tellMost_71  a0 k54 post n9 x1 x2 x3 x4 x5 st) post x1 x2 x3 (if (x4 : Int32) < z_5 then z_5 else x4) x5 st_6))))))
def P_X12_tellMost_54  (a0 : Nat) (k48 : Int32 → Int32 → St → Prop) (post : St → Prop) : Nat → Int32 → Int32 → Int32 → St → Prop
  | 0, _, _, _, _ => False
  | n9 + 1, x1, x2, x3, st => ((x1 ≤ x3 → k48 x1 (x2 + (-1)) st) ∧ (¬ x1 ≤ x3 → oC a0 12 ∧ P_X12_with  a0 x2 x3 (-1) st (fun z_1 st_2 => ∃ n8, P_X12_tellMost_71  a0 (fun x1 x2 x3 st => P_X12_tellMost_54  a0 k48 post n9 x1 x2 x3 st) post n8 x1 x2 x3 z_1 0 st_2)))
def P_X12_tellMost_48  (a0 : Nat)  (post : St → Prop) : Nat → Int32 → Int32 → St → Prop
  | 0, _, _, _ => False
  | n9 + 1, x1, x2, st => ((x2 < 0 → post st) ∧ (¬ x2 < 0 → ∃ n8, P_X12_tellMost_54  a0 (fun x1 x2 st => P_X12_tellMost_48  a0  post n9 x1 x2 st) post n8 x1 x2 0 st))
def P_X12_tellMost_11  (a0 : Nat)  (post : St → Prop) : Nat → Int32 → Int32 → St → Prop
  | 0, _, _, _ => False
  | n9 + 1, x1, x2, st => ((x1 ≤ x2 → ∃ r_1, rv st a0 12 5 = some r_1 ∧ vp_in 1 (al 0 r_1) ∧ ∃ n8, P_X12_tellMost_48  a0  post n8 x1 ((gA st r_1 (1 : Int32).toNatClampNeg) - 1) st) ∧ (¬ x1 ≤ x2 → ∃ r_2, rv st a0 12 45 = some r_2 ∧ ∃ r_3, rv st a0 12 5 = some r_3 ∧ vp_in 1 (al 0 r_3) ∧ vp_in (((gA st r_3 (1 : Int32).toNatClampNeg : Int32) <<< ((9 : Int32) &&& 31)) + x2) (al 0 r_2) ∧ P_X12_tellMost_11  a0  post n9 x1 (x2 + 1) (sA st r_2 (((gA st r_3 (1 : Int32).toNatClampNeg : Int32) <<< ((9 : Int32) &&& 31)) + x2 : Int32).toNatClampNeg 0)))
def P_X12_tellMost  (a0 : Nat) (st : St) (post : St → Prop) : Prop := ∃ r_1, rv st a0 12 5 = some r_1 ∧ vp_in 0 (al 0 r_1) ∧ ∃ n8, P_X12_tellMost_11  a0  post n8 ((1 : Int32) <<< ((gA st r_1 (0 : Int32).toNatClampNeg : Int32) &&& 31)) 0 st
set_option maxRecDepth 100000 in
set_option maxHeartbeats 4000000 in
theorem K_X12_tellMost_108 {l : Launch} {E : En}   (a0 : Nat) {k71 : Int32 → Int32 → Int32 → Int32 → Int32 → St → Prop} {post : St → Prop}  (hk71 : ∀ (x1 : Int32) (x2 : Int32) (x3 : Int32) (x4 : Int32) (x5 : Int32) (st : St), k71 x1 x2 x3 x4 x5 st → Jg l E (CFc E) (Rm 5 0 0) cX12_tellMost 6 RX12 none (fun _ => True) (QV E post 0 0) 0 0 71 [(0, .ref a0), (1, .int x1), (2, .int x2), (3, .int x3), (4, .int x4), (5, .int x5)] [] st) (x1 : Int32) (x2 : Int32) (x3 : Int32) (x4 : Int32) (x5 : Int32) (st : St) (h : P_X12_tellMost_108  a0 k71 post x1 x2 x3 x4 x5 st) : Jg l E (CFc E) (Rm 5 0 0) cX12_tellMost 6 RX12 none (fun _ => True) (QV E post 0 0) 0 0 108 [(0, .ref a0), (1, .int x1), (2, .int x2), (3, .int x3), (4, .int x4), (5, .int x5)] [] st := by
  unfold P_X12_tellMost_108 at h
  refine J_iinc 5 (x5 + 1) _ dX12_tellMost_108 rfl (by rfl) (by decide) rfl ?_
  refine J_goto 71 dX12_tellMost_111 (by decide) ?_
  exact J_lv [1, 2, 3, 4, 5, 0] rfl (hk71 x1 x2 x3 x4 (x5 + 1) st h)
set_option maxRecDepth 100000 in
set_option maxHeartbeats 4000000 in
theorem K_X12_tellMost_71 {l : Launch} {E : En}   (a0 : Nat) {k54 : Int32 → Int32 → Int32 → St → Prop} {post : St → Prop}  (hk54 : ∀ (x1 : Int32) (x2 : Int32) (x3 : Int32) (st : St), k54 x1 x2 x3 st → Jg l E (CFc E) (Rm 5 0 0) cX12_tellMost 6 RX12 none (fun _ => True) (QV E post 0 0) 0 0 54 [(0, .ref a0), (1, .int x1), (2, .int x2), (3, .int x3)] [] st) : ∀ (n9 : Nat) (x1 : Int32) (x2 : Int32) (x3 : Int32) (x4 : Int32) (x5 : Int32) (st : St), P_X12_tellMost_71  a0 k54 post n9 x1 x2 x3 x4 x5 st → Jg l E (CFc E) (Rm 5 0 0) cX12_tellMost 6 RX12 none (fun _ => True) (QV E post 0 0) 0 0 71 [(0, .ref a0), (1, .int x1), (2, .int x2), (3, .int x3), (4, .int x4), (5, .int x5)] [] st := by
  intro n9
  induction n9 with
  | zero => intro x1 x2 x3 x4 x5 st h; exact h.elim
  | succ n9 ih =>
    intro x1 x2 x3 x4 x5 st h
    unfold P_X12_tellMost_71 at h
    refine J_iload 5 dX12_tellMost_71 rfl ?_
    refine J_aload_n 0 dX12_tellMost_73 rfl rfl ?_
    obtain ⟨r_1, hf, h⟩ := h
    refine J_getR fl_RX12_48 dX12_tellMost_74 hf ?_
    refine J_iconst 0 dX12_tellMost_77 (by decide) ?_
    obtain ⟨hi, h⟩ := h
    refine J_iald dX12_tellMost_78 hi ?_
    refine J_icmp_ge 114 dX12_tellMost_79 (by decide) (fun hc => ?_) (fun hc => ?_)
    · have h := h.1 hc
      refine J_aload_n 0 dX12_tellMost_114 rfl rfl ?_
      obtain ⟨r_2, hf, h⟩ := h
      refine J_getR fl_RX12_126 dX12_tellMost_115 hf ?_
      refine J_iload_n 2 dX12_tellMost_118 rfl rfl ?_
      refine J_bipush 9 dX12_tellMost_119 (by decide) ?_
      refine J_ishl dX12_tellMost_121 ?_
      refine J_iload_n 3 dX12_tellMost_122 rfl rfl ?_
      refine J_iadd dX12_tellMost_123 ?_
      refine J_iload 4 dX12_tellMost_124 rfl ?_
      obtain ⟨hi, h⟩ := h
      refine J_iast dX12_tellMost_126 hi ?_
      refine J_iinc 3 (x3 + 1) _ dX12_tellMost_127 rfl (by rfl) (by decide) rfl ?_
      refine J_goto 54 dX12_tellMost_130 (by decide) ?_
      exact J_lv [1, 2, 3, 0] rfl (hk54 x1 x2 (x3 + 1) (sA st r_2 (((x2 : Int32) <<< ((9 : Int32) &&& 31)) + x3 : Int32).toNatClampNeg x4) h)
    · have h := h.2 hc
      refine J_aload_n 0 dX12_tellMost_82 rfl rfl ?_
      refine J_iload_n 2 dX12_tellMost_83 rfl rfl ?_
      refine J_iload_n 3 dX12_tellMost_84 rfl rfl ?_
      refine J_iload 5 dX12_tellMost_85 rfl ?_
      obtain ⟨ho, h⟩ := h
      refine J_cvi (As := [_, _, _]) md_X12_mayLead k_1235 (rc_obj cl_12 ho) rfl rfl ⟨Nat.le_of_ble_eq_true rfl, Nat.le_of_ble_eq_true rfl⟩ ⟨Nat.le_of_ble_eq_true rfl, Nat.le_of_ble_eq_true rfl⟩ (Nat.le_of_ble_eq_true rfl) dX12_tellMost_87 (ct_X12_mayLead  h) (fun z_3 st_4 h => ?_)
      refine J_if_eq 108 dX12_tellMost_90 (by decide) (fun hc => ?_) (fun hc => ?_)
      · have h := h.1 hc
        exact J_lv [0, 1, 2, 3, 4, 5] rfl (K_X12_tellMost_108   a0 (fun x1 x2 x3 x4 x5 st h => ih x1 x2 x3 x4 x5 st h) x1 x2 x3 x4 x5 st_4 h)
      · have h := h.2 hc
        refine J_iload 4 dX12_tellMost_93 rfl ?_
        refine J_aload_n 0 dX12_tellMost_95 rfl rfl ?_
        refine J_iload_n 2 dX12_tellMost_96 rfl rfl ?_
        refine J_iload_n 3 dX12_tellMost_97 rfl rfl ?_
        refine J_iload 5 dX12_tellMost_98 rfl ?_
        obtain ⟨ho, h⟩ := h
        refine J_cvi (As := [_, _, _]) md_X12_with k_1232 (rc_obj cl_12 ho) rfl rfl ⟨Nat.le_of_ble_eq_true rfl, Nat.le_of_ble_eq_true rfl⟩ ⟨Nat.le_of_ble_eq_true rfl, Nat.le_of_ble_eq_true rfl⟩ (Nat.le_of_ble_eq_true rfl) dX12_tellMost_100 (ct_X12_with  h) (fun z_5 st_6 h => ?_)
        refine J_mmax k_1115 k_157 k_158 k_159 ⟨Nat.le_of_ble_eq_true rfl, Nat.le_of_ble_eq_true rfl, Nat.le_of_ble_eq_true rfl, Nat.le_of_ble_eq_true rfl⟩ dX12_tellMost_103 ?_
        refine J_istore _ dX12_tellMost_106 (by decide) rfl ?_
        exact J_lv [1, 2, 3, 4, 0, 5] rfl (K_X12_tellMost_108   a0 (fun x1 x2 x3 x4 x5 st h => ih x1 x2 x3 x4 x5 st h) x1 x2 x3 (if (x4 : Int32) < z_5 then z_5 else x4) x5 st_6 h)
set_option maxRecDepth 100000 in
set_option maxHeartbeats 4000000 in
theorem K_X12_tellMost_54 {l : Launch} {E : En}   (a0 : Nat) {k48 : Int32 → Int32 → St → Prop} {post : St → Prop}  (hk48 : ∀ (x1 : Int32) (x2 : Int32) (st : St), k48 x1 x2 st → Jg l E (CFc E) (Rm 5 0 0) cX12_tellMost 6 RX12 none (fun _ => True) (QV E post 0 0) 0 0 48 [(0, .ref a0), (1, .int x1), (2, .int x2)] [] st) : ∀ (n9 : Nat) (x1 : Int32) (x2 : Int32) (x3 : Int32) (st : St), P_X12_tellMost_54  a0 k48 post n9 x1 x2 x3 st → Jg l E (CFc E) (Rm 5 0 0) cX12_tellMost 6 RX12 none (fun _ => True) (QV E post 0 0) 0 0 54 [(0, .ref a0), (1, .int x1), (2, .int x2), (3, .int x3)] [] st := by
  intro n9
  induction n9 with
  | zero => intro x1 x2 x3 st h; exact h.elim
  | succ n9 ih =>
    intro x1 x2 x3 st h
    unfold P_X12_tellMost_54 at h
    refine J_iload_n 3 dX12_tellMost_54 rfl rfl ?_
    refine J_iload_n 1 dX12_tellMost_55 rfl rfl ?_
    refine J_icmp_ge 133 dX12_tellMost_56 (by decide) (fun hc => ?_) (fun hc => ?_)
    · have h := h.1 hc
      refine J_iinc 2 (x2 + (-1)) _ dX12_tellMost_133 rfl (by rfl) (by decide) rfl ?_
      refine J_goto 48 dX12_tellMost_136 (by decide) ?_
      exact J_lv [1, 2, 0] rfl (hk48 x1 (x2 + (-1)) st h)
    · have h := h.2 hc
      refine J_aload_n 0 dX12_tellMost_59 rfl rfl ?_
      refine J_iload_n 2 dX12_tellMost_60 rfl rfl ?_
      refine J_iload_n 3 dX12_tellMost_61 rfl rfl ?_
      refine J_iconst (-1) dX12_tellMost_62 (by decide) ?_
      obtain ⟨ho, h⟩ := h
      refine J_cvi (As := [_, _, _]) md_X12_with k_1232 (rc_obj cl_12 ho) rfl rfl ⟨Nat.le_of_ble_eq_true rfl, Nat.le_of_ble_eq_true rfl⟩ ⟨Nat.le_of_ble_eq_true rfl, Nat.le_of_ble_eq_true rfl⟩ (Nat.le_of_ble_eq_true rfl) dX12_tellMost_63 (ct_X12_with  h) (fun z_1 st_2 h => ?_)
      refine J_istore _ dX12_tellMost_66 (by decide) rfl ?_
      refine J_iconst 0 dX12_tellMost_68 (by decide) ?_
      refine J_istore _ dX12_tellMost_69 (by decide) rfl ?_
      obtain ⟨n8, h⟩ := h
      exact J_lv [2, 3, 4, 5, 1, 0] rfl (K_X12_tellMost_71   a0 (fun x1 x2 x3 st h => ih x1 x2 x3 st h) n8 x1 x2 x3 z_1 0 st_2 h)
set_option maxRecDepth 100000 in
set_option maxHeartbeats 4000000 in
theorem K_X12_tellMost_48 {l : Launch} {E : En}   (a0 : Nat)  {post : St → Prop}   : ∀ (n9 : Nat) (x1 : Int32) (x2 : Int32) (st : St), P_X12_tellMost_48  a0  post n9 x1 x2 st → Jg l E (CFc E) (Rm 5 0 0) cX12_tellMost 6 RX12 none (fun _ => True) (QV E post 0 0) 0 0 48 [(0, .ref a0), (1, .int x1), (2, .int x2)] [] st := by
  intro n9
  induction n9 with
  | zero => intro x1 x2 st h; exact h.elim
  | succ n9 ih =>
    intro x1 x2 st h
    unfold P_X12_tellMost_48 at h
    refine J_iload_n 2 dX12_tellMost_48 rfl rfl ?_
    refine J_if_lt 139 dX12_tellMost_49 (by decide) (fun hc => ?_) (fun hc => ?_)
    · have h := h.1 hc
      exact J_retv rfl dX12_tellMost_139 h
    · have h := h.2 hc
      refine J_iconst 0 dX12_tellMost_52 (by decide) ?_
      refine J_istore_n _ dX12_tellMost_53 rfl (by decide) rfl ?_
      obtain ⟨n8, h⟩ := h
      exact J_lv [1, 2, 3, 0] rfl (K_X12_tellMost_54   a0 (fun x1 x2 st h => ih x1 x2 st h) n8 x1 x2 0 st h)
set_option maxRecDepth 100000 in
set_option maxHeartbeats 4000000 in
theorem K_X12_tellMost_11 {l : Launch} {E : En}   (a0 : Nat)  {post : St → Prop}   : ∀ (n9 : Nat) (x1 : Int32) (x2 : Int32) (st : St), P_X12_tellMost_11  a0  post n9 x1 x2 st → Jg l E (CFc E) (Rm 5 0 0) cX12_tellMost 6 RX12 none (fun _ => True) (QV E post 0 0) 0 0 11 [(0, .ref a0), (1, .int x1), (2, .int x2)] [] st := by
  intro n9
  induction n9 with
  | zero => intro x1 x2 st h; exact h.elim
  | succ n9 ih =>
    intro x1 x2 st h
    unfold P_X12_tellMost_11 at h
    refine J_iload_n 2 dX12_tellMost_11 rfl rfl ?_
    refine J_iload_n 1 dX12_tellMost_12 rfl rfl ?_
    refine J_icmp_ge 39 dX12_tellMost_13 (by decide) (fun hc => ?_) (fun hc => ?_)
    · have h := h.1 hc
      refine J_aload_n 0 dX12_tellMost_39 rfl rfl ?_
      obtain ⟨r_1, hf, h⟩ := h
      refine J_getR fl_RX12_48 dX12_tellMost_40 hf ?_
      refine J_iconst 1 dX12_tellMost_43 (by decide) ?_
      obtain ⟨hi, h⟩ := h
      refine J_iald dX12_tellMost_44 hi ?_
      refine J_iconst 1 dX12_tellMost_45 (by decide) ?_
      refine J_isub dX12_tellMost_46 ?_
      refine J_istore_n _ dX12_tellMost_47 rfl (by decide) rfl ?_
      obtain ⟨n8, h⟩ := h
      exact J_lv [1, 2, 0] rfl (K_X12_tellMost_48   a0  n8 x1 ((gA st r_1 (1 : Int32).toNatClampNeg) - 1) st h)
    · have h := h.2 hc
      refine J_aload_n 0 dX12_tellMost_16 rfl rfl ?_
      obtain ⟨r_2, hf, h⟩ := h
      refine J_getR fl_RX12_126 dX12_tellMost_17 hf ?_
      refine J_aload_n 0 dX12_tellMost_20 rfl rfl ?_
      obtain ⟨r_3, hf, h⟩ := h
      refine J_getR fl_RX12_48 dX12_tellMost_21 hf ?_
      refine J_iconst 1 dX12_tellMost_24 (by decide) ?_
      obtain ⟨hi, h⟩ := h
      refine J_iald dX12_tellMost_25 hi ?_
      refine J_bipush 9 dX12_tellMost_26 (by decide) ?_
      refine J_ishl dX12_tellMost_28 ?_
      refine J_iload_n 2 dX12_tellMost_29 rfl rfl ?_
      refine J_iadd dX12_tellMost_30 ?_
      refine J_iconst 0 dX12_tellMost_31 (by decide) ?_
      obtain ⟨hi, h⟩ := h
      refine J_iast dX12_tellMost_32 hi ?_
      refine J_iinc 2 (x2 + 1) _ dX12_tellMost_33 rfl (by rfl) (by decide) rfl ?_
      refine J_goto 11 dX12_tellMost_36 (by decide) ?_
      exact J_lv [1, 2, 0] rfl (ih x1 (x2 + 1) (sA st r_2 (((gA st r_3 (1 : Int32).toNatClampNeg : Int32) <<< ((9 : Int32) &&& 31)) + x2 : Int32).toNatClampNeg 0) h)
set_option maxRecDepth 100000 in
set_option maxHeartbeats 4000000 in
theorem ct_X12_tellMost {l : Launch} {E : En}  {a0 : Nat} {st : St} {post : St → Prop} (h : P_X12_tellMost  a0 st post) : CtV l E (CFc E) 5 0 0 yX12_tellMost cX12_tellMost 6 none [.ref a0] st post := by
  refine ctV_of (by decide) (Nat.le_of_ble_eq_true rfl) ?_
  show Jg l E (CFc E) (Rm 5 0 0) cX12_tellMost 6 RX12 none (fun _ => True) (QV E post 0 0) 0 0 0 [(0, .ref a0)] [] st
  unfold P_X12_tellMost at h
  refine J_iconst 1 dX12_tellMost_0 (by decide) ?_
  refine J_aload_n 0 dX12_tellMost_1 rfl rfl ?_
  obtain ⟨r_1, hf, h⟩ := h
  refine J_getR fl_RX12_48 dX12_tellMost_2 hf ?_
  refine J_iconst 0 dX12_tellMost_5 (by decide) ?_
  obtain ⟨hi, h⟩ := h
  refine J_iald dX12_tellMost_6 hi ?_
  refine J_ishl dX12_tellMost_7 ?_
  refine J_istore_n _ dX12_tellMost_8 rfl (by decide) rfl ?_
  refine J_iconst 0 dX12_tellMost_9 (by decide) ?_
  refine J_istore_n _ dX12_tellMost_10 rfl (by decide) rfl ?_
  obtain ⟨n8, h⟩ := h
  exact J_lv [2, 1, 0] rfl (K_X12_tellMost_11   a0  n8 ((1 : Int32) <<< ((gA st r_1 (0 : Int32).toNatClampNeg : Int32) &&& 31)) 0 st h)
/-! X12_choice -/
def P_X12_choice_135  (a0 : Nat) (a1 : Int32) (k54 : Int32 → Int32 → Int32 → St → Prop) (post : Int32 → St → Prop) (x3 : Int32) (x4 : Int32) (s0 : Int32) (s1 : Int32) (st : St) : Prop := k54 (s1 ||| s0) x3 (x4 + 1) st
def P_X12_choice_116  (a0 : Nat) (a1 : Int32) (k72 : Int32 → Int32 → Int32 → Int32 → St → Prop) (post : Int32 → St → Prop) (x2 : Int32) (x3 : Int32) (x4 : Int32) (x5 : Int32) (st : St) : Prop := k72 x2 x3 x4 (x5 + (-1)) st
def P_X12_choice_72  (a0 : Nat) (a1 : Int32) (k54 : Int32 → Int32 → Int32 → St → Prop) (post : Int32 → St → Prop) : Nat → Int32 → Int32 → Int32 → Int32 → St → Prop
  | 0, _, _, _, _, _ => False
  | n9 + 1, x2, x3, x4, x5, st => ((x5 < 0 → ((¬ x3 = (-1) → P_X12_choice_135  a0 a1 k54 post x3 x4 ((1 : Int32) <<< ((x3 : Int32) &&& 31)) x2 st) ∧ (x3 = (-1) → P_X12_choice_135  a0 a1 k54 post x3 x4 0 x2 st))) ∧ (¬ x5 < 0 → oC a0 12 ∧ P_X12_mayLead  a0 x4 x2 x5 st (fun z_1 st_2 => ((z_1 = 0 → P_X12_choice_116  a0 a1 (fun x2 x3 x4 x5 st => P_X12_choice_72  a0 a1 k54 post n9 x2 x3 x4 x5 st) post x2 x3 x4 x5 st_2) ∧ (¬ z_1 = 0 → oC a0 12 ∧ P_X12_with  a0 x4 x2 x5 st_2 (fun z_3 st_4 => ∃ r_5, rv st_4 a0 12 45 = some r_5 ∧ vp_in (((x4 : Int32) <<< ((9 : Int32) &&& 31)) + x2) (al 0 r_5) ∧ ((¬ z_3 = (gA st_4 r_5 (((x4 : Int32) <<< ((9 : Int32) &&& 31)) + x2 : Int32).toNatClampNeg) → P_X12_choice_116  a0 a1 (fun x2 x3 x4 x5 st => P_X12_choice_72  a0 a1 k54 post n9 x2 x3 x4 x5 st) post x2 x3 x4 x5 st_4) ∧ (z_3 = (gA st_4 r_5 (((x4 : Int32) <<< ((9 : Int32) &&& 31)) + x2 : Int32).toNatClampNeg) → P_X12_choice_116  a0 a1 (fun x2 x3 x4 x5 st => P_X12_choice_72  a0 a1 k54 post n9 x2 x3 x4 x5 st) post x2 x5 x4 x5 st_4))))))))
def P_X12_choice_54  (a0 : Nat) (a1 : Int32)  (post : Int32 → St → Prop) : Nat → Int32 → Int32 → Int32 → St → Prop
  | 0, _, _, _, _ => False
  | n9 + 1, x2, x3, x4, st => ((a1 < x4 → post x3 st) ∧ (¬ a1 < x4 → ∃ r_1, rv st a0 12 5 = some r_1 ∧ vp_in 0 (al 0 r_1) ∧ ∃ n8, P_X12_choice_72  a0 a1 (fun x2 x3 x4 st => P_X12_choice_54  a0 a1  post n9 x2 x3 x4 st) post n8 x2 (-1) x4 ((gA st r_1 (0 : Int32).toNatClampNeg) - 1) st))
def P_X12_choice  (a0 : Nat) (a1 : Int32) (st : St) (post : Int32 → St → Prop) : Prop := fk a0 12 4 = some 0 ∧ ∃ r_1, rv (sI st a0 4 0) a0 12 5 = some r_1 ∧ vp_in 1 (al 0 r_1) ∧ P_X12_isIn  ((a1 : Int32).toInt64) (-1) (((gA (sI st a0 4 0) r_1 (1 : Int32).toNatClampNeg) - 1 : Int32).toInt64) (sI st a0 4 0) (fun z_2 st_3 => ((¬ z_2 = 0 → oC a0 12 ∧ P_X12_tellMost  a0 st_3 (fun st_5 => ((¬ a1 = (-1) → ∃ n8, P_X12_choice_54  a0 a1  post n8 0 (-1) 0 st_5) ∧ (a1 = (-1) → ∃ r_6, rv st_5 a0 12 45 = some r_6 ∧ vp_in 0 (al 0 r_6) ∧ post (gA st_5 r_6 (0 : Int32).toNatClampNeg) st_5)))) ∧ (z_2 = 0 → oC a0 12 ∧ P_X12_fail  a0 1 st_3 (fun z_7 st_8 => post z_7 st_8))))
set_option maxRecDepth 100000 in
set_option maxHeartbeats 4000000 in
theorem K_X12_choice_135 {l : Launch} {E : En}   (a0 : Nat) (a1 : Int32) {k54 : Int32 → Int32 → Int32 → St → Prop} {post : Int32 → St → Prop}  (hk54 : ∀ (x2 : Int32) (x3 : Int32) (x4 : Int32) (st : St), k54 x2 x3 x4 st → Jg l E (CFc E) (Rm 6 0 0) cX12_choice 6 RX12 (some .int) (fun _ => True) (QI E post 0 0) 0 0 54 [(0, .ref a0), (1, .int a1), (2, .int x2), (3, .int x3), (4, .int x4)] [] st) (x3 : Int32) (x4 : Int32) (s0 : Int32) (s1 : Int32) (st : St) (h : P_X12_choice_135  a0 a1 k54 post x3 x4 s0 s1 st) : Jg l E (CFc E) (Rm 6 0 0) cX12_choice 6 RX12 (some .int) (fun _ => True) (QI E post 0 0) 0 0 135 [(0, .ref a0), (1, .int a1), (3, .int x3), (4, .int x4)] [.int s0, .int s1] st := by
  unfold P_X12_choice_135 at h
  refine J_ior dX12_choice_135 ?_
  refine J_istore_n _ dX12_choice_136 rfl (by decide) rfl ?_
  refine J_iinc 4 (x4 + 1) _ dX12_choice_137 rfl (by rfl) (by decide) rfl ?_
  refine J_goto 54 dX12_choice_140 (by decide) ?_
  exact J_lv [2, 3, 1, 4, 0] rfl (hk54 (s1 ||| s0) x3 (x4 + 1) st h)
set_option maxRecDepth 100000 in
set_option maxHeartbeats 4000000 in
theorem K_X12_choice_116 {l : Launch} {E : En}   (a0 : Nat) (a1 : Int32) {k72 : Int32 → Int32 → Int32 → Int32 → St → Prop} {post : Int32 → St → Prop}  (hk72 : ∀ (x2 : Int32) (x3 : Int32) (x4 : Int32) (x5 : Int32) (st : St), k72 x2 x3 x4 x5 st → Jg l E (CFc E) (Rm 6 0 0) cX12_choice 6 RX12 (some .int) (fun _ => True) (QI E post 0 0) 0 0 72 [(0, .ref a0), (1, .int a1), (2, .int x2), (3, .int x3), (4, .int x4), (5, .int x5)] [] st) (x2 : Int32) (x3 : Int32) (x4 : Int32) (x5 : Int32) (st : St) (h : P_X12_choice_116  a0 a1 k72 post x2 x3 x4 x5 st) : Jg l E (CFc E) (Rm 6 0 0) cX12_choice 6 RX12 (some .int) (fun _ => True) (QI E post 0 0) 0 0 116 [(0, .ref a0), (1, .int a1), (2, .int x2), (3, .int x3), (4, .int x4), (5, .int x5)] [] st := by
  unfold P_X12_choice_116 at h
  refine J_iinc 5 (x5 + (-1)) _ dX12_choice_116 rfl (by rfl) (by decide) rfl ?_
  refine J_goto 72 dX12_choice_119 (by decide) ?_
  exact J_lv [1, 2, 3, 4, 5, 0] rfl (hk72 x2 x3 x4 (x5 + (-1)) st h)
set_option maxRecDepth 100000 in
set_option maxHeartbeats 4000000 in
theorem K_X12_choice_72 {l : Launch} {E : En}   (a0 : Nat) (a1 : Int32) {k54 : Int32 → Int32 → Int32 → St → Prop} {post : Int32 → St → Prop}  (hk54 : ∀ (x2 : Int32) (x3 : Int32) (x4 : Int32) (st : St), k54 x2 x3 x4 st → Jg l E (CFc E) (Rm 6 0 0) cX12_choice 6 RX12 (some .int) (fun _ => True) (QI E post 0 0) 0 0 54 [(0, .ref a0), (1, .int a1), (2, .int x2), (3, .int x3), (4, .int x4)] [] st) : ∀ (n9 : Nat) (x2 : Int32) (x3 : Int32) (x4 : Int32) (x5 : Int32) (st : St), P_X12_choice_72  a0 a1 k54 post n9 x2 x3 x4 x5 st → Jg l E (CFc E) (Rm 6 0 0) cX12_choice 6 RX12 (some .int) (fun _ => True) (QI E post 0 0) 0 0 72 [(0, .ref a0), (1, .int a1), (2, .int x2), (3, .int x3), (4, .int x4), (5, .int x5)] [] st := by
  intro n9
  induction n9 with
  | zero => intro x2 x3 x4 x5 st h; exact h.elim
  | succ n9 ih =>
    intro x2 x3 x4 x5 st h
    unfold P_X12_choice_72 at h
    refine J_iload 5 dX12_choice_72 rfl ?_
    refine J_if_lt 122 dX12_choice_74 (by decide) (fun hc => ?_) (fun hc => ?_)
    · have h := h.1 hc
      refine J_iload_n 2 dX12_choice_122 rfl rfl ?_
      refine J_iload_n 3 dX12_choice_123 rfl rfl ?_
      refine J_iconst (-1) dX12_choice_124 (by decide) ?_
      refine J_icmp_ne 132 dX12_choice_125 (by decide) (fun hc => ?_) (fun hc => ?_)
      · have h := h.1 hc
        refine J_iconst 1 dX12_choice_132 (by decide) ?_
        refine J_iload_n 3 dX12_choice_133 rfl rfl ?_
        refine J_ishl dX12_choice_134 ?_
        exact J_lv [0, 1, 3, 4] rfl (K_X12_choice_135   a0 a1 hk54 x3 x4 ((1 : Int32) <<< ((x3 : Int32) &&& 31)) x2 st h)
      · have h := h.2 hc
        refine J_iconst 0 dX12_choice_128 (by decide) ?_
        refine J_goto 135 dX12_choice_129 (by decide) ?_
        exact J_lv [0, 1, 3, 4] rfl (K_X12_choice_135   a0 a1 hk54 x3 x4 0 x2 st h)
    · have h := h.2 hc
      refine J_aload_n 0 dX12_choice_77 rfl rfl ?_
      refine J_iload 4 dX12_choice_78 rfl ?_
      refine J_iload_n 2 dX12_choice_80 rfl rfl ?_
      refine J_iload 5 dX12_choice_81 rfl ?_
      obtain ⟨ho, h⟩ := h
      refine J_cvi (As := [_, _, _]) md_X12_mayLead k_1235 (rc_obj cl_12 ho) rfl rfl ⟨Nat.le_of_ble_eq_true rfl, Nat.le_of_ble_eq_true rfl⟩ ⟨Nat.le_of_ble_eq_true rfl, Nat.le_of_ble_eq_true rfl⟩ (Nat.le_of_ble_eq_true rfl) dX12_choice_83 (ct_X12_mayLead  h) (fun z_1 st_2 h => ?_)
      refine J_if_eq 116 dX12_choice_86 (by decide) (fun hc => ?_) (fun hc => ?_)
      · have h := h.1 hc
        exact J_lv [0, 1, 2, 3, 4, 5] rfl (K_X12_choice_116   a0 a1 (fun x2 x3 x4 x5 st h => ih x2 x3 x4 x5 st h) x2 x3 x4 x5 st_2 h)
      · have h := h.2 hc
        refine J_aload_n 0 dX12_choice_89 rfl rfl ?_
        refine J_iload 4 dX12_choice_90 rfl ?_
        refine J_iload_n 2 dX12_choice_92 rfl rfl ?_
        refine J_iload 5 dX12_choice_93 rfl ?_
        obtain ⟨ho, h⟩ := h
        refine J_cvi (As := [_, _, _]) md_X12_with k_1232 (rc_obj cl_12 ho) rfl rfl ⟨Nat.le_of_ble_eq_true rfl, Nat.le_of_ble_eq_true rfl⟩ ⟨Nat.le_of_ble_eq_true rfl, Nat.le_of_ble_eq_true rfl⟩ (Nat.le_of_ble_eq_true rfl) dX12_choice_95 (ct_X12_with  h) (fun z_3 st_4 h => ?_)
        refine J_aload_n 0 dX12_choice_98 rfl rfl ?_
        obtain ⟨r_5, hf, h⟩ := h
        refine J_getR fl_RX12_126 dX12_choice_99 hf ?_
        refine J_iload 4 dX12_choice_102 rfl ?_
        refine J_bipush 9 dX12_choice_104 (by decide) ?_
        refine J_ishl dX12_choice_106 ?_
        refine J_iload_n 2 dX12_choice_107 rfl rfl ?_
        refine J_iadd dX12_choice_108 ?_
        obtain ⟨hi, h⟩ := h
        refine J_iald dX12_choice_109 hi ?_
        refine J_icmp_ne 116 dX12_choice_110 (by decide) (fun hc => ?_) (fun hc => ?_)
        · have h := h.1 hc
          exact J_lv [0, 1, 2, 3, 4, 5] rfl (K_X12_choice_116   a0 a1 (fun x2 x3 x4 x5 st h => ih x2 x3 x4 x5 st h) x2 x3 x4 x5 st_4 h)
        · have h := h.2 hc
          refine J_iload 5 dX12_choice_113 rfl ?_
          refine J_istore_n _ dX12_choice_115 rfl (by decide) rfl ?_
          exact J_lv [1, 2, 3, 0, 4, 5] rfl (K_X12_choice_116   a0 a1 (fun x2 x3 x4 x5 st h => ih x2 x3 x4 x5 st h) x2 x5 x4 x5 st_4 h)
set_option maxRecDepth 100000 in
set_option maxHeartbeats 4000000 in
theorem K_X12_choice_54 {l : Launch} {E : En}   (a0 : Nat) (a1 : Int32)  {post : Int32 → St → Prop}   : ∀ (n9 : Nat) (x2 : Int32) (x3 : Int32) (x4 : Int32) (st : St), P_X12_choice_54  a0 a1  post n9 x2 x3 x4 st → Jg l E (CFc E) (Rm 6 0 0) cX12_choice 6 RX12 (some .int) (fun _ => True) (QI E post 0 0) 0 0 54 [(0, .ref a0), (1, .int a1), (2, .int x2), (3, .int x3), (4, .int x4)] [] st := by
  intro n9
  induction n9 with
  | zero => intro x2 x3 x4 st h; exact h.elim
  | succ n9 ih =>
    intro x2 x3 x4 st h
    unfold P_X12_choice_54 at h
    refine J_iload 4 dX12_choice_54 rfl ?_
    refine J_iload_n 1 dX12_choice_56 rfl rfl ?_
    refine J_icmp_gt 143 dX12_choice_57 (by decide) (fun hc => ?_) (fun hc => ?_)
    · have h := h.1 hc
      refine J_iload_n 3 dX12_choice_143 rfl rfl ?_
      exact J_reti rfl dX12_choice_144 h
    · have h := h.2 hc
      refine J_iconst (-1) dX12_choice_60 (by decide) ?_
      refine J_istore_n _ dX12_choice_61 rfl (by decide) rfl ?_
      refine J_aload_n 1 dX12_choice_62 rfl rfl ?_
      obtain ⟨r_1, hf, h⟩ := h
      refine J_getR fl_RX12_48 dX12_choice_63 hf ?_
      refine J_iconst 0 dX12_choice_66 (by decide) ?_
      obtain ⟨hi, h⟩ := h
      refine J_iald dX12_choice_67 hi ?_
      refine J_iconst 1 dX12_choice_68 (by decide) ?_
      refine J_isub dX12_choice_69 ?_
      refine J_istore _ dX12_choice_70 (by decide) rfl ?_
      obtain ⟨n8, h⟩ := h
      exact J_lv [2, 3, 4, 1, 5, 0] rfl (K_X12_choice_72   a0 a1 (fun x2 x3 x4 st h => ih x2 x3 x4 st h) n8 x2 (-1) x4 ((gA st r_1 (0 : Int32).toNatClampNeg) - 1) st h)
set_option maxRecDepth 100000 in
set_option maxHeartbeats 4000000 in
theorem ct_X12_choice {l : Launch} {E : En}  {a0 : Nat} {a1 : Int32} {st : St} {post : Int32 → St → Prop} (h : P_X12_choice  a0 a1 st post) : CtI l E (CFc E) 6 0 0 yX12_choice cX12_choice 6 (some .int) [.ref a0, .int a1] st post := by
  refine ctI_of (by decide) (Nat.le_of_ble_eq_true rfl) ?_
  show Jg l E (CFc E) (Rm 6 0 0) cX12_choice 6 RX12 (some .int) (fun _ => True) (QI E post 0 0) 0 0 0 [(0, .ref a0), (1, .int a1)] [] st
  unfold P_X12_choice at h
  refine J_aload_n 0 dX12_choice_0 rfl rfl ?_
  refine J_iconst 0 dX12_choice_1 (by decide) ?_
  obtain ⟨hf, h⟩ := h
  refine J_putI fp_RX12_184 dX12_choice_2 rfl hf ?_
  refine J_iload_n 1 dX12_choice_5 rfl rfl ?_
  refine J_i2l dX12_choice_6 ?_
  refine J_ldc2 k_1239 dX12_choice_7 ?_
  refine J_aload_n 0 dX12_choice_10 rfl rfl ?_
  obtain ⟨r_1, hf, h⟩ := h
  refine J_getR fl_RX12_48 dX12_choice_11 hf ?_
  refine J_iconst 1 dX12_choice_14 (by decide) ?_
  obtain ⟨hi, h⟩ := h
  refine J_iald dX12_choice_15 hi ?_
  refine J_iconst 1 dX12_choice_16 (by decide) ?_
  refine J_isub dX12_choice_17 ?_
  refine J_i2l dX12_choice_18 ?_
  refine J_csi (As := [_, _, _]) md_X12_isIn k_971 rfl rfl ⟨Nat.le_of_ble_eq_true rfl, Nat.le_of_ble_eq_true rfl⟩ ⟨Nat.le_of_ble_eq_true rfl, Nat.le_of_ble_eq_true rfl⟩ (Nat.le_of_ble_eq_true rfl) dX12_choice_19 (ct_X12_isIn  h) (fun z_2 st_3 h => ?_)
  refine J_if_ne 31 dX12_choice_22 (by decide) (fun hc => ?_) (fun hc => ?_)
  · have h := h.1 hc
    refine J_aload_n 0 dX12_choice_31 rfl rfl ?_
    obtain ⟨ho, h⟩ := h
    refine J_cvv (As := []) md_X12_tellMost k_1240 (rc_obj cl_12 ho) rfl rfl ⟨Nat.le_of_ble_eq_true rfl, Nat.le_of_ble_eq_true rfl⟩ ⟨Nat.le_of_ble_eq_true rfl, Nat.le_of_ble_eq_true rfl⟩ (Nat.le_of_ble_eq_true rfl) dX12_choice_32 (ct_X12_tellMost  h) (fun st_5 h => ?_)
    refine J_iload_n 1 dX12_choice_35 rfl rfl ?_
    refine J_iconst (-1) dX12_choice_36 (by decide) ?_
    refine J_icmp_ne 47 dX12_choice_37 (by decide) (fun hc => ?_) (fun hc => ?_)
    · have h := h.1 hc
      refine J_iconst 0 dX12_choice_47 (by decide) ?_
      refine J_istore_n _ dX12_choice_48 rfl (by decide) rfl ?_
      refine J_iconst (-1) dX12_choice_49 (by decide) ?_
      refine J_istore_n _ dX12_choice_50 rfl (by decide) rfl ?_
      refine J_iconst 0 dX12_choice_51 (by decide) ?_
      refine J_istore _ dX12_choice_52 (by decide) rfl ?_
      obtain ⟨n8, h⟩ := h
      exact J_lv [3, 4, 2, 1, 0] rfl (K_X12_choice_54   a0 a1  n8 0 (-1) 0 st_5 h)
    · have h := h.2 hc
      refine J_aload_n 0 dX12_choice_40 rfl rfl ?_
      obtain ⟨r_6, hf, h⟩ := h
      refine J_getR fl_RX12_126 dX12_choice_41 hf ?_
      refine J_iconst 0 dX12_choice_44 (by decide) ?_
      obtain ⟨hi, h⟩ := h
      refine J_iald dX12_choice_45 hi ?_
      exact J_reti rfl dX12_choice_46 h
  · have h := h.2 hc
    refine J_aload_n 0 dX12_choice_25 rfl rfl ?_
    refine J_iconst 1 dX12_choice_26 (by decide) ?_
    obtain ⟨ho, h⟩ := h
    refine J_cvi (As := [_]) md_X12_fail k_1093 (rc_obj cl_12 ho) rfl rfl ⟨Nat.le_of_ble_eq_true rfl, Nat.le_of_ble_eq_true rfl⟩ ⟨Nat.le_of_ble_eq_true rfl, Nat.le_of_ble_eq_true rfl⟩ (Nat.le_of_ble_eq_true rfl) dX12_choice_27 (ct_X12_fail  h) (fun z_7 st_8 h => ?_)
    exact J_reti rfl dX12_choice_30 h
/-! X12_unloved -/
def P_X12_unloved_45  (a0 : Nat) (k9 : Int32 → Int32 → St → Prop) (post : Int32 → St → Prop) (x2 : Int32) (s0 : Int32) (s1 : Int32) (st : St) : Prop := k9 (s1 ||| s0) (x2 + 1) st
def P_X12_unloved_44  (a0 : Nat) (k9 : Int32 → Int32 → St → Prop) (post : Int32 → St → Prop) (x2 : Int32) (s0 : Int32) (st : St) : Prop := P_X12_unloved_45  a0 k9 post x2 0 s0 st
def P_X12_unloved_9  (a0 : Nat)  (post : Int32 → St → Prop) : Nat → Int32 → Int32 → St → Prop
  | 0, _, _, _ => False
  | n9 + 1, x1, x2, st => ∃ r_1, rv st a0 12 5 = some r_1 ∧ vp_in 1 (al 0 r_1) ∧ (((gA st r_1 (1 : Int32).toNatClampNeg) ≤ x2 → post x1 st) ∧ (¬ (gA st r_1 (1 : Int32).toNatClampNeg) ≤ x2 → ∃ r_2, rv st a0 12 32 = some r_2 ∧ vp_in x2 (al 0 r_2) ∧ ((¬ (gA st r_2 (x2 : Int32).toNatClampNeg) = 1 → P_X12_unloved_44  a0 (fun x1 x2 st => P_X12_unloved_9  a0  post n9 x1 x2 st) post x2 x1 st) ∧ ((gA st r_2 (x2 : Int32).toNatClampNeg) = 1 → oC a0 12 ∧ P_X12_tiedTo  a0 x2 st (fun z_3 st_4 => ((¬ z_3 = 0 → P_X12_unloved_44  a0 (fun x1 x2 st => P_X12_unloved_9  a0  post n9 x1 x2 st) post x2 x1 st_4) ∧ (z_3 = 0 → P_X12_unloved_45  a0 (fun x1 x2 st => P_X12_unloved_9  a0  post n9 x1 x2 st) post x2 ((1 : Int32) <<< ((x2 : Int32) &&& 31)) x1 st_4)))))))
def P_X12_unloved  (a0 : Nat) (st : St) (post : Int32 → St → Prop) : Prop := fk a0 12 4 = some 0 ∧ ∃ n8, P_X12_unloved_9  a0  post n8 0 0 (sI st a0 4 0)
set_option maxRecDepth 100000 in
set_option maxHeartbeats 4000000 in
theorem K_X12_unloved_45 {l : Launch} {E : En}   (a0 : Nat) {k9 : Int32 → Int32 → St → Prop} {post : Int32 → St → Prop}  (hk9 : ∀ (x1 : Int32) (x2 : Int32) (st : St), k9 x1 x2 st → Jg l E (CFc E) (Rm 2 0 0) cX12_unloved 3 RX12 (some .int) (fun _ => True) (QI E post 0 0) 0 0 9 [(0, .ref a0), (1, .int x1), (2, .int x2)] [] st) (x2 : Int32) (s0 : Int32) (s1 : Int32) (st : St) (h : P_X12_unloved_45  a0 k9 post x2 s0 s1 st) : Jg l E (CFc E) (Rm 2 0 0) cX12_unloved 3 RX12 (some .int) (fun _ => True) (QI E post 0 0) 0 0 45 [(0, .ref a0), (2, .int x2)] [.int s0, .int s1] st := by
  unfold P_X12_unloved_45 at h
  refine J_ior dX12_unloved_45 ?_
  refine J_istore_n _ dX12_unloved_46 rfl (by decide) rfl ?_
  refine J_iinc 2 (x2 + 1) _ dX12_unloved_47 rfl (by rfl) (by decide) rfl ?_
  refine J_goto 9 dX12_unloved_50 (by decide) ?_
  exact J_lv [2, 1, 0] rfl (hk9 (s1 ||| s0) (x2 + 1) st h)
set_option maxRecDepth 100000 in
set_option maxHeartbeats 4000000 in
theorem K_X12_unloved_44 {l : Launch} {E : En}   (a0 : Nat) {k9 : Int32 → Int32 → St → Prop} {post : Int32 → St → Prop}  (hk9 : ∀ (x1 : Int32) (x2 : Int32) (st : St), k9 x1 x2 st → Jg l E (CFc E) (Rm 2 0 0) cX12_unloved 3 RX12 (some .int) (fun _ => True) (QI E post 0 0) 0 0 9 [(0, .ref a0), (1, .int x1), (2, .int x2)] [] st) (x2 : Int32) (s0 : Int32) (st : St) (h : P_X12_unloved_44  a0 k9 post x2 s0 st) : Jg l E (CFc E) (Rm 2 0 0) cX12_unloved 3 RX12 (some .int) (fun _ => True) (QI E post 0 0) 0 0 44 [(0, .ref a0), (2, .int x2)] [.int s0] st := by
  unfold P_X12_unloved_44 at h
  refine J_iconst 0 dX12_unloved_44 (by decide) ?_
  exact J_lv [0, 1] rfl (K_X12_unloved_45   a0 hk9 x2 0 s0 st h)
set_option maxRecDepth 100000 in
set_option maxHeartbeats 4000000 in
theorem K_X12_unloved_9 {l : Launch} {E : En}   (a0 : Nat)  {post : Int32 → St → Prop}   : ∀ (n9 : Nat) (x1 : Int32) (x2 : Int32) (st : St), P_X12_unloved_9  a0  post n9 x1 x2 st → Jg l E (CFc E) (Rm 2 0 0) cX12_unloved 3 RX12 (some .int) (fun _ => True) (QI E post 0 0) 0 0 9 [(0, .ref a0), (1, .int x1), (2, .int x2)] [] st := by
  intro n9
  induction n9 with
  | zero => intro x1 x2 st h; exact h.elim
  | succ n9 ih =>
    intro x1 x2 st h
    unfold P_X12_unloved_9 at h
    refine J_iload_n 2 dX12_unloved_9 rfl rfl ?_
    refine J_aload_n 0 dX12_unloved_10 rfl rfl ?_
    obtain ⟨r_1, hf, h⟩ := h
    refine J_getR fl_RX12_48 dX12_unloved_11 hf ?_
    refine J_iconst 1 dX12_unloved_14 (by decide) ?_
    obtain ⟨hi, h⟩ := h
    refine J_iald dX12_unloved_15 hi ?_
    refine J_icmp_ge 53 dX12_unloved_16 (by decide) (fun hc => ?_) (fun hc => ?_)
    · have h := h.1 hc
      refine J_iload_n 1 dX12_unloved_53 rfl rfl ?_
      exact J_reti rfl dX12_unloved_54 h
    · have h := h.2 hc
      refine J_iload_n 1 dX12_unloved_19 rfl rfl ?_
      refine J_aload_n 0 dX12_unloved_20 rfl rfl ?_
      obtain ⟨r_2, hf, h⟩ := h
      refine J_getR fl_RX12_99 dX12_unloved_21 hf ?_
      refine J_iload_n 2 dX12_unloved_24 rfl rfl ?_
      obtain ⟨hi, h⟩ := h
      refine J_iald dX12_unloved_25 hi ?_
      refine J_iconst 1 dX12_unloved_26 (by decide) ?_
      refine J_icmp_ne 44 dX12_unloved_27 (by decide) (fun hc => ?_) (fun hc => ?_)
      · have h := h.1 hc
        exact J_lv [0, 2] rfl (K_X12_unloved_44   a0 (fun x1 x2 st h => ih x1 x2 st h) x2 x1 st h)
      · have h := h.2 hc
        refine J_aload_n 0 dX12_unloved_30 rfl rfl ?_
        refine J_iload_n 2 dX12_unloved_31 rfl rfl ?_
        obtain ⟨ho, h⟩ := h
        refine J_cvi (As := [_]) md_X12_tiedTo k_1119 (rc_obj cl_12 ho) rfl rfl ⟨Nat.le_of_ble_eq_true rfl, Nat.le_of_ble_eq_true rfl⟩ ⟨Nat.le_of_ble_eq_true rfl, Nat.le_of_ble_eq_true rfl⟩ (Nat.le_of_ble_eq_true rfl) dX12_unloved_32 (ct_X12_tiedTo  h) (fun z_3 st_4 h => ?_)
        refine J_if_ne 44 dX12_unloved_35 (by decide) (fun hc => ?_) (fun hc => ?_)
        · have h := h.1 hc
          exact J_lv [0, 2] rfl (K_X12_unloved_44   a0 (fun x1 x2 st h => ih x1 x2 st h) x2 x1 st_4 h)
        · have h := h.2 hc
          refine J_iconst 1 dX12_unloved_38 (by decide) ?_
          refine J_iload_n 2 dX12_unloved_39 rfl rfl ?_
          refine J_ishl dX12_unloved_40 ?_
          refine J_goto 45 dX12_unloved_41 (by decide) ?_
          exact J_lv [0, 2] rfl (K_X12_unloved_45   a0 (fun x1 x2 st h => ih x1 x2 st h) x2 ((1 : Int32) <<< ((x2 : Int32) &&& 31)) x1 st_4 h)
set_option maxRecDepth 100000 in
set_option maxHeartbeats 4000000 in
theorem ct_X12_unloved {l : Launch} {E : En}  {a0 : Nat} {st : St} {post : Int32 → St → Prop} (h : P_X12_unloved  a0 st post) : CtI l E (CFc E) 2 0 0 yX12_unloved cX12_unloved 3 (some .int) [.ref a0] st post := by
  refine ctI_of (by decide) (Nat.le_of_ble_eq_true rfl) ?_
  show Jg l E (CFc E) (Rm 2 0 0) cX12_unloved 3 RX12 (some .int) (fun _ => True) (QI E post 0 0) 0 0 0 [(0, .ref a0)] [] st
  unfold P_X12_unloved at h
  refine J_aload_n 0 dX12_unloved_0 rfl rfl ?_
  refine J_iconst 0 dX12_unloved_1 (by decide) ?_
  obtain ⟨hf, h⟩ := h
  refine J_putI fp_RX12_184 dX12_unloved_2 rfl hf ?_
  refine J_iconst 0 dX12_unloved_5 (by decide) ?_
  refine J_istore_n _ dX12_unloved_6 rfl (by decide) rfl ?_
  refine J_iconst 0 dX12_unloved_7 (by decide) ?_
  refine J_istore_n _ dX12_unloved_8 rfl (by decide) rfl ?_
  obtain ⟨n8, h⟩ := h
  exact J_lv [2, 1, 0] rfl (K_X12_unloved_9   a0  n8 0 0 (sI st a0 4 0) h)
/-! X12_weights -/
def P_X12_weights_37  (a0 : Nat) (a1 : Int32) (a2 : Int32) (k5 : Int32 → Int32 → St → Prop) (post : Int32 → St → Prop) (x4 : Int32) (s0 : Int32) (s1 : Int32) (st : St) : Prop := k5 (s1 + s0) (x4 + 1) st
def P_X12_weights_5  (a0 : Nat) (a1 : Int32) (a2 : Int32)  (post : Int32 → St → Prop) : Nat → Int32 → Int32 → St → Prop
  | 0, _, _, _ => False
  | n9 + 1, x3, x4, st => ∃ r_1, rv st a0 12 5 = some r_1 ∧ vp_in 0 (al 0 r_1) ∧ (((gA st r_1 (0 : Int32).toNatClampNeg) ≤ x4 → post x3 st) ∧ (¬ (gA st r_1 (0 : Int32).toNatClampNeg) ≤ x4 → P_X12_isOf  a1 x4 st (fun z_2 st_3 => ((z_2 = 0 → P_X12_weights_37  a0 a1 a2 (fun x3 x4 st => P_X12_weights_5  a0 a1 a2  post n9 x3 x4 st) post x4 0 x3 st_3) ∧ (¬ z_2 = 0 → oC a0 12 ∧ P_X12_weightOf  a0 x4 a2 st_3 (fun z_4 st_5 => P_X12_weights_37  a0 a1 a2 (fun x3 x4 st => P_X12_weights_5  a0 a1 a2  post n9 x3 x4 st) post x4 z_4 x3 st_5))))))
def P_X12_weights  (a0 : Nat) (a1 : Int32) (a2 : Int32) (st : St) (post : Int32 → St → Prop) : Prop := ∃ n8, P_X12_weights_5  a0 a1 a2  post n8 0 0 st
set_option maxRecDepth 100000 in
set_option maxHeartbeats 4000000 in
theorem K_X12_weights_37 {l : Launch} {E : En}   (a0 : Nat) (a1 : Int32) (a2 : Int32) {k5 : Int32 → Int32 → St → Prop} {post : Int32 → St → Prop}  (hk5 : ∀ (x3 : Int32) (x4 : Int32) (st : St), k5 x3 x4 st → Jg l E (CFc E) (Rm 4 0 0) cX12_weights 5 RX12 (some .int) (fun _ => True) (QI E post 0 0) 0 0 5 [(0, .ref a0), (1, .int a1), (2, .int a2), (3, .int x3), (4, .int x4)] [] st) (x4 : Int32) (s0 : Int32) (s1 : Int32) (st : St) (h : P_X12_weights_37  a0 a1 a2 k5 post x4 s0 s1 st) : Jg l E (CFc E) (Rm 4 0 0) cX12_weights 5 RX12 (some .int) (fun _ => True) (QI E post 0 0) 0 0 37 [(0, .ref a0), (1, .int a1), (2, .int a2), (4, .int x4)] [.int s0, .int s1] st := by
  unfold P_X12_weights_37 at h
  refine J_iadd dX12_weights_37 ?_
  refine J_istore_n _ dX12_weights_38 rfl (by decide) rfl ?_
  refine J_iinc 4 (x4 + 1) _ dX12_weights_39 rfl (by rfl) (by decide) rfl ?_
  refine J_goto 5 dX12_weights_42 (by decide) ?_
  exact J_lv [2, 3, 4, 1, 0] rfl (hk5 (s1 + s0) (x4 + 1) st h)
set_option maxRecDepth 100000 in
set_option maxHeartbeats 4000000 in
theorem K_X12_weights_5 {l : Launch} {E : En}   (a0 : Nat) (a1 : Int32) (a2 : Int32)  {post : Int32 → St → Prop}   : ∀ (n9 : Nat) (x3 : Int32) (x4 : Int32) (st : St), P_X12_weights_5  a0 a1 a2  post n9 x3 x4 st → Jg l E (CFc E) (Rm 4 0 0) cX12_weights 5 RX12 (some .int) (fun _ => True) (QI E post 0 0) 0 0 5 [(0, .ref a0), (1, .int a1), (2, .int a2), (3, .int x3), (4, .int x4)] [] st := by
  intro n9
  induction n9 with
  | zero => intro x3 x4 st h; exact h.elim
  | succ n9 ih =>
    intro x3 x4 st h
    unfold P_X12_weights_5 at h
    refine J_iload 4 dX12_weights_5 rfl ?_
    refine J_aload_n 0 dX12_weights_7 rfl rfl ?_
    obtain ⟨r_1, hf, h⟩ := h
    refine J_getR fl_RX12_48 dX12_weights_8 hf ?_
    refine J_iconst 0 dX12_weights_11 (by decide) ?_
    obtain ⟨hi, h⟩ := h
    refine J_iald dX12_weights_12 hi ?_
    refine J_icmp_ge 45 dX12_weights_13 (by decide) (fun hc => ?_) (fun hc => ?_)
    · have h := h.1 hc
      refine J_iload_n 3 dX12_weights_45 rfl rfl ?_
      exact J_reti rfl dX12_weights_46 h
    · have h := h.2 hc
      refine J_iload_n 3 dX12_weights_16 rfl rfl ?_
      refine J_iload_n 1 dX12_weights_17 rfl rfl ?_
      refine J_iload 4 dX12_weights_18 rfl ?_
      refine J_csi (As := [_, _]) md_X12_isOf k_1222 rfl rfl ⟨Nat.le_of_ble_eq_true rfl, Nat.le_of_ble_eq_true rfl⟩ ⟨Nat.le_of_ble_eq_true rfl, Nat.le_of_ble_eq_true rfl⟩ (Nat.le_of_ble_eq_true rfl) dX12_weights_20 (ct_X12_isOf  h) (fun z_2 st_3 h => ?_)
      refine J_if_eq 36 dX12_weights_23 (by decide) (fun hc => ?_) (fun hc => ?_)
      · have h := h.1 hc
        refine J_iconst 0 dX12_weights_36 (by decide) ?_
        exact J_lv [0, 1, 2, 4] rfl (K_X12_weights_37   a0 a1 a2 (fun x3 x4 st h => ih x3 x4 st h) x4 0 x3 st_3 h)
      · have h := h.2 hc
        refine J_aload_n 0 dX12_weights_26 rfl rfl ?_
        refine J_iload 4 dX12_weights_27 rfl ?_
        refine J_iload_n 2 dX12_weights_29 rfl rfl ?_
        obtain ⟨ho, h⟩ := h
        refine J_cvi (As := [_, _]) md_X12_weightOf k_1126 (rc_obj cl_12 ho) rfl rfl ⟨Nat.le_of_ble_eq_true rfl, Nat.le_of_ble_eq_true rfl⟩ ⟨Nat.le_of_ble_eq_true rfl, Nat.le_of_ble_eq_true rfl⟩ (Nat.le_of_ble_eq_true rfl) dX12_weights_30 (ct_X12_weightOf  h) (fun z_4 st_5 h => ?_)
        refine J_goto 37 dX12_weights_33 (by decide) ?_
        exact J_lv [0, 1, 2, 4] rfl (K_X12_weights_37   a0 a1 a2 (fun x3 x4 st h => ih x3 x4 st h) x4 z_4 x3 st_5 h)
set_option maxRecDepth 100000 in
set_option maxHeartbeats 4000000 in
theorem ct_X12_weights {l : Launch} {E : En}  {a0 : Nat} {a1 : Int32} {a2 : Int32} {st : St} {post : Int32 → St → Prop} (h : P_X12_weights  a0 a1 a2 st post) : CtI l E (CFc E) 4 0 0 yX12_weights cX12_weights 5 (some .int) [.ref a0, .int a1, .int a2] st post := by
  refine ctI_of (by decide) (Nat.le_of_ble_eq_true rfl) ?_
  show Jg l E (CFc E) (Rm 4 0 0) cX12_weights 5 RX12 (some .int) (fun _ => True) (QI E post 0 0) 0 0 0 [(0, .ref a0), (1, .int a1), (2, .int a2)] [] st
  unfold P_X12_weights at h
  refine J_iconst 0 dX12_weights_0 (by decide) ?_
  refine J_istore_n _ dX12_weights_1 rfl (by decide) rfl ?_
  refine J_iconst 0 dX12_weights_2 (by decide) ?_
  refine J_istore _ dX12_weights_3 (by decide) rfl ?_
  obtain ⟨n8, h⟩ := h
  exact J_lv [2, 3, 4, 1, 0] rfl (K_X12_weights_5   a0 a1 a2  n8 0 0 st h)
/-! X12_tug -/
def P_X12_tug_89  (a0 : Nat) (a1 : Int32) (k38 : Int32 → Int32 → Int32 → Int32 → St → Prop) (post : Int32 → St → Prop) (x2 : Int32) (x3 : Int32) (x4 : Int32) (x5 : Int32) (st : St) : Prop := k38 x2 x3 x4 (x5 + 1) st
def P_X12_tug_85  (a0 : Nat) (a1 : Int32) (k38 : Int32 → Int32 → Int32 → Int32 → St → Prop) (post : Int32 → St → Prop) (x2 : Int32) (x3 : Int32) (x5 : Int32) (st : St) : Prop := P_X12_tug_89  a0 a1 k38 post x2 x3 x5 x5 st
def P_X12_tug_38  (a0 : Nat) (a1 : Int32)  (post : Int32 → St → Prop) : Nat → Int32 → Int32 → Int32 → Int32 → St → Prop
  | 0, _, _, _, _, _ => False
  | n9 + 1, x2, x3, x4, x5, st => ((x2 < x5 → post x4 st) ∧ (¬ x2 < x5 → ((¬ (x5 &&& (x2 ^^^ (-1))) = 0 → P_X12_tug_89  a0 a1 (fun x2 x3 x4 x5 st => P_X12_tug_38  a0 a1  post n9 x2 x3 x4 x5 st) post x2 x3 x4 x5 st) ∧ ((x5 &&& (x2 ^^^ (-1))) = 0 → oC a0 12 ∧ P_X12_weights  a0 x5 a1 st (fun z_1 st_2 => (((2 * z_1) ≤ x3 → P_X12_tug_89  a0 a1 (fun x2 x3 x4 x5 st => P_X12_tug_38  a0 a1  post n9 x2 x3 x4 x5 st) post x2 x3 x4 x5 st_2) ∧ (¬ (2 * z_1) ≤ x3 → ((x4 = (-1) → P_X12_tug_85  a0 a1 (fun x2 x3 x4 x5 st => P_X12_tug_38  a0 a1  post n9 x2 x3 x4 x5 st) post x2 x3 x5 st_2) ∧ (¬ x4 = (-1) → P_X12_bitsOf  x5 st_2 (fun z_3 st_4 => P_X12_bitsOf  x4 st_4 (fun z_5 st_6 => ((z_5 ≤ z_3 → P_X12_tug_89  a0 a1 (fun x2 x3 x4 x5 st => P_X12_tug_38  a0 a1  post n9 x2 x3 x4 x5 st) post x2 x3 x4 x5 st_6) ∧ (¬ z_5 ≤ z_3 → P_X12_tug_85  a0 a1 (fun x2 x3 x4 x5 st => P_X12_tug_38  a0 a1  post n9 x2 x3 x4 x5 st) post x2 x3 x5 st_6)))))))))))))
def P_X12_tug  (a0 : Nat) (a1 : Int32) (st : St) (post : Int32 → St → Prop) : Prop := fk a0 12 4 = some 0 ∧ oC a0 12 ∧ P_X12_isBride  a0 a1 (sI st a0 4 0) (fun z_1 st_2 => ((¬ z_1 = 0 → oC a0 12 ∧ P_X12_tiedTo  a0 a1 st_2 (fun z_3 st_4 => oC a0 12 ∧ P_X12_weights  a0 z_3 a1 st_4 (fun z_5 st_6 => ∃ n8, P_X12_tug_38  a0 a1  post n8 z_3 z_5 (-1) 1 st_6))) ∧ (z_1 = 0 → oC a0 12 ∧ P_X12_fail  a0 1 st_2 (fun z_7 st_8 => post z_7 st_8))))
set_option maxRecDepth 100000 in
set_option maxHeartbeats 4000000 in
theorem K_X12_tug_89 {l : Launch} {E : En}   (a0 : Nat) (a1 : Int32) {k38 : Int32 → Int32 → Int32 → Int32 → St → Prop} {post : Int32 → St → Prop}  (hk38 : ∀ (x2 : Int32) (x3 : Int32) (x4 : Int32) (x5 : Int32) (st : St), k38 x2 x3 x4 x5 st → Jg l E (CFc E) (Rm 5 0 0) cX12_tug 6 RX12 (some .int) (fun _ => True) (QI E post 0 0) 0 0 38 [(0, .ref a0), (1, .int a1), (2, .int x2), (3, .int x3), (4, .int x4), (5, .int x5)] [] st) (x2 : Int32) (x3 : Int32) (x4 : Int32) (x5 : Int32) (st : St) (h : P_X12_tug_89  a0 a1 k38 post x2 x3 x4 x5 st) : Jg l E (CFc E) (Rm 5 0 0) cX12_tug 6 RX12 (some .int) (fun _ => True) (QI E post 0 0) 0 0 89 [(0, .ref a0), (1, .int a1), (2, .int x2), (3, .int x3), (4, .int x4), (5, .int x5)] [] st := by
  unfold P_X12_tug_89 at h
  refine J_iinc 5 (x5 + 1) _ dX12_tug_89 rfl (by rfl) (by decide) rfl ?_
  refine J_goto 38 dX12_tug_92 (by decide) ?_
  exact J_lv [1, 2, 3, 4, 5, 0] rfl (hk38 x2 x3 x4 (x5 + 1) st h)
set_option maxRecDepth 100000 in
set_option maxHeartbeats 4000000 in
theorem K_X12_tug_85 {l : Launch} {E : En}   (a0 : Nat) (a1 : Int32) {k38 : Int32 → Int32 → Int32 → Int32 → St → Prop} {post : Int32 → St → Prop}  (hk38 : ∀ (x2 : Int32) (x3 : Int32) (x4 : Int32) (x5 : Int32) (st : St), k38 x2 x3 x4 x5 st → Jg l E (CFc E) (Rm 5 0 0) cX12_tug 6 RX12 (some .int) (fun _ => True) (QI E post 0 0) 0 0 38 [(0, .ref a0), (1, .int a1), (2, .int x2), (3, .int x3), (4, .int x4), (5, .int x5)] [] st) (x2 : Int32) (x3 : Int32) (x5 : Int32) (st : St) (h : P_X12_tug_85  a0 a1 k38 post x2 x3 x5 st) : Jg l E (CFc E) (Rm 5 0 0) cX12_tug 6 RX12 (some .int) (fun _ => True) (QI E post 0 0) 0 0 85 [(0, .ref a0), (1, .int a1), (2, .int x2), (3, .int x3), (5, .int x5)] [] st := by
  unfold P_X12_tug_85 at h
  refine J_iload 4 dX12_tug_85 rfl ?_
  refine J_istore _ dX12_tug_87 (by decide) rfl ?_
  exact J_lv [1, 2, 3, 4, 0, 5] rfl (K_X12_tug_89   a0 a1 hk38 x2 x3 x5 x5 st h)
set_option maxRecDepth 100000 in
set_option maxHeartbeats 4000000 in
theorem K_X12_tug_38 {l : Launch} {E : En}   (a0 : Nat) (a1 : Int32)  {post : Int32 → St → Prop}   : ∀ (n9 : Nat) (x2 : Int32) (x3 : Int32) (x4 : Int32) (x5 : Int32) (st : St), P_X12_tug_38  a0 a1  post n9 x2 x3 x4 x5 st → Jg l E (CFc E) (Rm 5 0 0) cX12_tug 6 RX12 (some .int) (fun _ => True) (QI E post 0 0) 0 0 38 [(0, .ref a0), (1, .int a1), (2, .int x2), (3, .int x3), (4, .int x4), (5, .int x5)] [] st := by
  intro n9
  induction n9 with
  | zero => intro x2 x3 x4 x5 st h; exact h.elim
  | succ n9 ih =>
    intro x2 x3 x4 x5 st h
    unfold P_X12_tug_38 at h
    refine J_iload 5 dX12_tug_38 rfl ?_
    refine J_iload_n 2 dX12_tug_40 rfl rfl ?_
    refine J_icmp_gt 95 dX12_tug_41 (by decide) (fun hc => ?_) (fun hc => ?_)
    · have h := h.1 hc
      refine J_iload 4 dX12_tug_95 rfl ?_
      exact J_reti rfl dX12_tug_97 h
    · have h := h.2 hc
      refine J_iload 5 dX12_tug_44 rfl ?_
      refine J_iload_n 2 dX12_tug_46 rfl rfl ?_
      refine J_iconst (-1) dX12_tug_47 (by decide) ?_
      refine J_ixor dX12_tug_48 ?_
      refine J_iand dX12_tug_49 ?_
      refine J_if_ne 89 dX12_tug_50 (by decide) (fun hc => ?_) (fun hc => ?_)
      · have h := h.1 hc
        exact J_lv [0, 1, 2, 3, 4, 5] rfl (K_X12_tug_89   a0 a1 (fun x2 x3 x4 x5 st h => ih x2 x3 x4 x5 st h) x2 x3 x4 x5 st h)
      · have h := h.2 hc
        refine J_iconst 2 dX12_tug_53 (by decide) ?_
        refine J_aload_n 0 dX12_tug_54 rfl rfl ?_
        refine J_iload 5 dX12_tug_55 rfl ?_
        refine J_iload_n 1 dX12_tug_57 rfl rfl ?_
        obtain ⟨ho, h⟩ := h
        refine J_cvi (As := [_, _]) md_X12_weights k_1246 (rc_obj cl_12 ho) rfl rfl ⟨Nat.le_of_ble_eq_true rfl, Nat.le_of_ble_eq_true rfl⟩ ⟨Nat.le_of_ble_eq_true rfl, Nat.le_of_ble_eq_true rfl⟩ (Nat.le_of_ble_eq_true rfl) dX12_tug_58 (ct_X12_weights  h) (fun z_1 st_2 h => ?_)
        refine J_imul dX12_tug_61 ?_
        refine J_iload_n 3 dX12_tug_62 rfl rfl ?_
        refine J_icmp_le 89 dX12_tug_63 (by decide) (fun hc => ?_) (fun hc => ?_)
        · have h := h.1 hc
          exact J_lv [0, 1, 2, 3, 4, 5] rfl (K_X12_tug_89   a0 a1 (fun x2 x3 x4 x5 st h => ih x2 x3 x4 x5 st h) x2 x3 x4 x5 st_2 h)
        · have h := h.2 hc
          refine J_iload 4 dX12_tug_66 rfl ?_
          refine J_iconst (-1) dX12_tug_68 (by decide) ?_
          refine J_icmp_eq 85 dX12_tug_69 (by decide) (fun hc => ?_) (fun hc => ?_)
          · have h := h.1 hc
            exact J_lv [0, 1, 2, 3, 5] rfl (K_X12_tug_85   a0 a1 (fun x2 x3 x4 x5 st h => ih x2 x3 x4 x5 st h) x2 x3 x5 st_2 h)
          · have h := h.2 hc
            refine J_iload 5 dX12_tug_72 rfl ?_
            refine J_csi (As := [_]) md_X12_bitsOf k_1111 rfl rfl ⟨Nat.le_of_ble_eq_true rfl, Nat.le_of_ble_eq_true rfl⟩ ⟨Nat.le_of_ble_eq_true rfl, Nat.le_of_ble_eq_true rfl⟩ (Nat.le_of_ble_eq_true rfl) dX12_tug_74 (ct_X12_bitsOf  h) (fun z_3 st_4 h => ?_)
            refine J_iload 4 dX12_tug_77 rfl ?_
            refine J_csi (As := [_]) md_X12_bitsOf k_1111 rfl rfl ⟨Nat.le_of_ble_eq_true rfl, Nat.le_of_ble_eq_true rfl⟩ ⟨Nat.le_of_ble_eq_true rfl, Nat.le_of_ble_eq_true rfl⟩ (Nat.le_of_ble_eq_true rfl) dX12_tug_79 (ct_X12_bitsOf  h) (fun z_5 st_6 h => ?_)
            refine J_icmp_ge 89 dX12_tug_82 (by decide) (fun hc => ?_) (fun hc => ?_)
            · have h := h.1 hc
              exact J_lv [0, 1, 2, 3, 4, 5] rfl (K_X12_tug_89   a0 a1 (fun x2 x3 x4 x5 st h => ih x2 x3 x4 x5 st h) x2 x3 x4 x5 st_6 h)
            · have h := h.2 hc
              exact J_lv [0, 1, 2, 3, 5] rfl (K_X12_tug_85   a0 a1 (fun x2 x3 x4 x5 st h => ih x2 x3 x4 x5 st h) x2 x3 x5 st_6 h)
set_option maxRecDepth 100000 in
set_option maxHeartbeats 4000000 in
theorem ct_X12_tug {l : Launch} {E : En}  {a0 : Nat} {a1 : Int32} {st : St} {post : Int32 → St → Prop} (h : P_X12_tug  a0 a1 st post) : CtI l E (CFc E) 5 0 0 yX12_tug cX12_tug 6 (some .int) [.ref a0, .int a1] st post := by
  refine ctI_of (by decide) (Nat.le_of_ble_eq_true rfl) ?_
  show Jg l E (CFc E) (Rm 5 0 0) cX12_tug 6 RX12 (some .int) (fun _ => True) (QI E post 0 0) 0 0 0 [(0, .ref a0), (1, .int a1)] [] st
  unfold P_X12_tug at h
  refine J_aload_n 0 dX12_tug_0 rfl rfl ?_
  refine J_iconst 0 dX12_tug_1 (by decide) ?_
  obtain ⟨hf, h⟩ := h
  refine J_putI fp_RX12_184 dX12_tug_2 rfl hf ?_
  refine J_aload_n 0 dX12_tug_5 rfl rfl ?_
  refine J_iload_n 1 dX12_tug_6 rfl rfl ?_
  obtain ⟨ho, h⟩ := h
  refine J_cvi (As := [_]) md_X12_isBride k_1170 (rc_obj cl_12 ho) rfl rfl ⟨Nat.le_of_ble_eq_true rfl, Nat.le_of_ble_eq_true rfl⟩ ⟨Nat.le_of_ble_eq_true rfl, Nat.le_of_ble_eq_true rfl⟩ (Nat.le_of_ble_eq_true rfl) dX12_tug_7 (ct_X12_isBride  h) (fun z_1 st_2 h => ?_)
  refine J_if_ne 19 dX12_tug_10 (by decide) (fun hc => ?_) (fun hc => ?_)
  · have h := h.1 hc
    refine J_aload_n 0 dX12_tug_19 rfl rfl ?_
    refine J_iload_n 1 dX12_tug_20 rfl rfl ?_
    obtain ⟨ho, h⟩ := h
    refine J_cvi (As := [_]) md_X12_tiedTo k_1119 (rc_obj cl_12 ho) rfl rfl ⟨Nat.le_of_ble_eq_true rfl, Nat.le_of_ble_eq_true rfl⟩ ⟨Nat.le_of_ble_eq_true rfl, Nat.le_of_ble_eq_true rfl⟩ (Nat.le_of_ble_eq_true rfl) dX12_tug_21 (ct_X12_tiedTo  h) (fun z_3 st_4 h => ?_)
    refine J_istore_n _ dX12_tug_24 rfl (by decide) rfl ?_
    refine J_aload_n 1 dX12_tug_25 rfl rfl ?_
    refine J_iload_n 0 dX12_tug_26 rfl rfl ?_
    refine J_iload_n 2 dX12_tug_27 rfl rfl ?_
    obtain ⟨ho, h⟩ := h
    refine J_cvi (As := [_, _]) md_X12_weights k_1246 (rc_obj cl_12 ho) rfl rfl ⟨Nat.le_of_ble_eq_true rfl, Nat.le_of_ble_eq_true rfl⟩ ⟨Nat.le_of_ble_eq_true rfl, Nat.le_of_ble_eq_true rfl⟩ (Nat.le_of_ble_eq_true rfl) dX12_tug_28 (ct_X12_weights  h) (fun z_5 st_6 h => ?_)
    refine J_istore_n _ dX12_tug_31 rfl (by decide) rfl ?_
    refine J_iconst (-1) dX12_tug_32 (by decide) ?_
    refine J_istore _ dX12_tug_33 (by decide) rfl ?_
    refine J_iconst 1 dX12_tug_35 (by decide) ?_
    refine J_istore _ dX12_tug_36 (by decide) rfl ?_
    obtain ⟨n8, h⟩ := h
    exact J_lv [4, 5, 3, 2, 1, 0] rfl (K_X12_tug_38   a0 a1  n8 z_3 z_5 (-1) 1 st_6 h)
  · have h := h.2 hc
    refine J_aload_n 0 dX12_tug_13 rfl rfl ?_
    refine J_iconst 1 dX12_tug_14 (by decide) ?_
    obtain ⟨ho, h⟩ := h
    refine J_cvi (As := [_]) md_X12_fail k_1093 (rc_obj cl_12 ho) rfl rfl ⟨Nat.le_of_ble_eq_true rfl, Nat.le_of_ble_eq_true rfl⟩ ⟨Nat.le_of_ble_eq_true rfl, Nat.le_of_ble_eq_true rfl⟩ (Nat.le_of_ble_eq_true rfl) dX12_tug_15 (ct_X12_fail  h) (fun z_7 st_8 h => ?_)
    exact J_reti rfl dX12_tug_18 h
/-! X12_decisive -/
def P_X12_decisive_108  (a0 : Nat) (a1 : Int32) (a2 : Int32) (k47 : Int32 → Int32 → Int32 → Int32 → St → Prop) (post : Int32 → St → Prop) (x3 : Int32) (x4 : Int32) (x5 : Int32) (x6 : Int32) (st : St) : Prop := k47 x3 x4 x5 (x6 + 1) st
def P_X12_decisive_47  (a0 : Nat) (a1 : Int32) (a2 : Int32)  (post : Int32 → St → Prop) : Nat → Int32 → Int32 → Int32 → Int32 → St → Prop
  | 0, _, _, _, _, _ => False
  | n9 + 1, x3, x4, x5, x6, st => ((x3 < x6 → post x5 st) ∧ (¬ x3 < x6 → ((¬ (x6 &&& (x3 ^^^ (-1))) = 0 → P_X12_decisive_108  a0 a1 a2 (fun x3 x4 x5 x6 st => P_X12_decisive_47  a0 a1 a2  post n9 x3 x4 x5 x6 st) post x3 x4 x5 x6 st) ∧ ((x6 &&& (x3 ^^^ (-1))) = 0 → P_X12_isOf  x6 a1 st (fun z_1 st_2 => ((z_1 = 0 → P_X12_decisive_108  a0 a1 a2 (fun x3 x4 x5 x6 st => P_X12_decisive_47  a0 a1 a2  post n9 x3 x4 x5 x6 st) post x3 x4 x5 x6 st_2) ∧ (¬ z_1 = 0 → oC a0 12 ∧ P_X12_weights  a0 x6 a2 st_2 (fun z_3 st_4 => (((2 * z_3) ≤ x4 → P_X12_decisive_108  a0 a1 a2 (fun x3 x4 x5 x6 st => P_X12_decisive_47  a0 a1 a2  post n9 x3 x4 x5 x6 st) post x3 x4 x5 x6 st_4) ∧ (¬ (2 * z_3) ≤ x4 → oC a0 12 ∧ P_X12_weights  a0 (x6 &&& (((1 : Int32) <<< ((a1 : Int32) &&& 31)) ^^^ (-1))) a2 st_4 (fun z_5 st_6 => ((x4 < (2 * z_5) → P_X12_decisive_108  a0 a1 a2 (fun x3 x4 x5 x6 st => P_X12_decisive_47  a0 a1 a2  post n9 x3 x4 x5 x6 st) post x3 x4 x5 x6 st_6) ∧ (¬ x4 < (2 * z_5) → P_X12_decisive_108  a0 a1 a2 (fun x3 x4 x5 x6 st => P_X12_decisive_47  a0 a1 a2  post n9 x3 x4 x5 x6 st) post x3 x4 (x5 + 1) x6 st_6)))))))))))))
def P_X12_decisive_21  (a0 : Nat) (a1 : Int32) (a2 : Int32)  (post : Int32 → St → Prop)  (st : St) : Prop := oC a0 12 ∧ P_X12_fail  a0 1 st (fun z_1 st_2 => post z_1 st_2)
def P_X12_decisive  (a0 : Nat) (a1 : Int32) (a2 : Int32) (st : St) (post : Int32 → St → Prop) : Prop := fk a0 12 4 = some 0 ∧ oC a0 12 ∧ P_X12_isPerson  a0 a1 (sI st a0 4 0) (fun z_1 st_2 => ((z_1 = 0 → P_X12_decisive_21  a0 a1 a2  post st_2) ∧ (¬ z_1 = 0 → oC a0 12 ∧ P_X12_isBride  a0 a2 st_2 (fun z_3 st_4 => ((¬ z_3 = 0 → oC a0 12 ∧ P_X12_tiedTo  a0 a2 st_4 (fun z_5 st_6 => oC a0 12 ∧ P_X12_weights  a0 z_5 a2 st_6 (fun z_7 st_8 => ∃ n8, P_X12_decisive_47  a0 a1 a2  post n8 z_5 z_7 0 1 st_8))) ∧ (z_3 = 0 → P_X12_decisive_21  a0 a1 a2  post st_4))))))
set_option maxRecDepth 100000 in
set_option maxHeartbeats 4000000 in
theorem K_X12_decisive_108 {l : Launch} {E : En}   (a0 : Nat) (a1 : Int32) (a2 : Int32) {k47 : Int32 → Int32 → Int32 → Int32 → St → Prop} {post : Int32 → St → Prop}  (hk47 : ∀ (x3 : Int32) (x4 : Int32) (x5 : Int32) (x6 : Int32) (st : St), k47 x3 x4 x5 x6 st → Jg l E (CFc E) (Rm 5 0 0) cX12_decisive 7 RX12 (some .int) (fun _ => True) (QI E post 0 0) 0 0 47 [(0, .ref a0), (1, .int a1), (2, .int a2), (3, .int x3), (4, .int x4), (5, .int x5), (6, .int x6)] [] st) (x3 : Int32) (x4 : Int32) (x5 : Int32) (x6 : Int32) (st : St) (h : P_X12_decisive_108  a0 a1 a2 k47 post x3 x4 x5 x6 st) : Jg l E (CFc E) (Rm 5 0 0) cX12_decisive 7 RX12 (some .int) (fun _ => True) (QI E post 0 0) 0 0 108 [(0, .ref a0), (1, .int a1), (2, .int a2), (3, .int x3), (4, .int x4), (5, .int x5), (6, .int x6)] [] st := by
  unfold P_X12_decisive_108 at h
  refine J_iinc 6 (x6 + 1) _ dX12_decisive_108 rfl (by rfl) (by decide) rfl ?_
  refine J_goto 47 dX12_decisive_111 (by decide) ?_
  exact J_lv [1, 2, 3, 4, 5, 6, 0] rfl (hk47 x3 x4 x5 (x6 + 1) st h)
set_option maxRecDepth 100000 in
set_option maxHeartbeats 4000000 in
theorem K_X12_decisive_47 {l : Launch} {E : En}   (a0 : Nat) (a1 : Int32) (a2 : Int32)  {post : Int32 → St → Prop}   : ∀ (n9 : Nat) (x3 : Int32) (x4 : Int32) (x5 : Int32) (x6 : Int32) (st : St), P_X12_decisive_47  a0 a1 a2  post n9 x3 x4 x5 x6 st → Jg l E (CFc E) (Rm 5 0 0) cX12_decisive 7 RX12 (some .int) (fun _ => True) (QI E post 0 0) 0 0 47 [(0, .ref a0), (1, .int a1), (2, .int a2), (3, .int x3), (4, .int x4), (5, .int x5), (6, .int x6)] [] st := by
  intro n9
  induction n9 with
  | zero => intro x3 x4 x5 x6 st h; exact h.elim
  | succ n9 ih =>
    intro x3 x4 x5 x6 st h
    unfold P_X12_decisive_47 at h
    refine J_iload 6 dX12_decisive_47 rfl ?_
    refine J_iload_n 3 dX12_decisive_49 rfl rfl ?_
    refine J_icmp_gt 114 dX12_decisive_50 (by decide) (fun hc => ?_) (fun hc => ?_)
    · have h := h.1 hc
      refine J_iload 5 dX12_decisive_114 rfl ?_
      exact J_reti rfl dX12_decisive_116 h
    · have h := h.2 hc
      refine J_iload 6 dX12_decisive_53 rfl ?_
      refine J_iload_n 3 dX12_decisive_55 rfl rfl ?_
      refine J_iconst (-1) dX12_decisive_56 (by decide) ?_
      refine J_ixor dX12_decisive_57 ?_
      refine J_iand dX12_decisive_58 ?_
      refine J_if_ne 108 dX12_decisive_59 (by decide) (fun hc => ?_) (fun hc => ?_)
      · have h := h.1 hc
        exact J_lv [0, 1, 2, 3, 4, 5, 6] rfl (K_X12_decisive_108   a0 a1 a2 (fun x3 x4 x5 x6 st h => ih x3 x4 x5 x6 st h) x3 x4 x5 x6 st h)
      · have h := h.2 hc
        refine J_iload 6 dX12_decisive_62 rfl ?_
        refine J_iload_n 1 dX12_decisive_64 rfl rfl ?_
        refine J_csi (As := [_, _]) md_X12_isOf k_1222 rfl rfl ⟨Nat.le_of_ble_eq_true rfl, Nat.le_of_ble_eq_true rfl⟩ ⟨Nat.le_of_ble_eq_true rfl, Nat.le_of_ble_eq_true rfl⟩ (Nat.le_of_ble_eq_true rfl) dX12_decisive_65 (ct_X12_isOf  h) (fun z_1 st_2 h => ?_)
        refine J_if_eq 108 dX12_decisive_68 (by decide) (fun hc => ?_) (fun hc => ?_)
        · have h := h.1 hc
          exact J_lv [0, 1, 2, 3, 4, 5, 6] rfl (K_X12_decisive_108   a0 a1 a2 (fun x3 x4 x5 x6 st h => ih x3 x4 x5 x6 st h) x3 x4 x5 x6 st_2 h)
        · have h := h.2 hc
          refine J_iconst 2 dX12_decisive_71 (by decide) ?_
          refine J_aload_n 0 dX12_decisive_72 rfl rfl ?_
          refine J_iload 6 dX12_decisive_73 rfl ?_
          refine J_iload_n 2 dX12_decisive_75 rfl rfl ?_
          obtain ⟨ho, h⟩ := h
          refine J_cvi (As := [_, _]) md_X12_weights k_1246 (rc_obj cl_12 ho) rfl rfl ⟨Nat.le_of_ble_eq_true rfl, Nat.le_of_ble_eq_true rfl⟩ ⟨Nat.le_of_ble_eq_true rfl, Nat.le_of_ble_eq_true rfl⟩ (Nat.le_of_ble_eq_true rfl) dX12_decisive_76 (ct_X12_weights  h) (fun z_3 st_4 h => ?_)
          refine J_imul dX12_decisive_79 ?_
          refine J_iload 4 dX12_decisive_80 rfl ?_
          refine J_icmp_le 108 dX12_decisive_82 (by decide) (fun hc => ?_) (fun hc => ?_)
          · have h := h.1 hc
            exact J_lv [0, 1, 2, 3, 4, 5, 6] rfl (K_X12_decisive_108   a0 a1 a2 (fun x3 x4 x5 x6 st h => ih x3 x4 x5 x6 st h) x3 x4 x5 x6 st_4 h)
          · have h := h.2 hc
            refine J_iconst 2 dX12_decisive_85 (by decide) ?_
            refine J_aload_n 0 dX12_decisive_86 rfl rfl ?_
            refine J_iload 6 dX12_decisive_87 rfl ?_
            refine J_iconst 1 dX12_decisive_89 (by decide) ?_
            refine J_iload_n 1 dX12_decisive_90 rfl rfl ?_
            refine J_ishl dX12_decisive_91 ?_
            refine J_iconst (-1) dX12_decisive_92 (by decide) ?_
            refine J_ixor dX12_decisive_93 ?_
            refine J_iand dX12_decisive_94 ?_
            refine J_iload_n 2 dX12_decisive_95 rfl rfl ?_
            obtain ⟨ho, h⟩ := h
            refine J_cvi (As := [_, _]) md_X12_weights k_1246 (rc_obj cl_12 ho) rfl rfl ⟨Nat.le_of_ble_eq_true rfl, Nat.le_of_ble_eq_true rfl⟩ ⟨Nat.le_of_ble_eq_true rfl, Nat.le_of_ble_eq_true rfl⟩ (Nat.le_of_ble_eq_true rfl) dX12_decisive_96 (ct_X12_weights  h) (fun z_5 st_6 h => ?_)
            refine J_imul dX12_decisive_99 ?_
            refine J_iload 4 dX12_decisive_100 rfl ?_
            refine J_icmp_gt 108 dX12_decisive_102 (by decide) (fun hc => ?_) (fun hc => ?_)
            · have h := h.1 hc
              exact J_lv [0, 1, 2, 3, 4, 5, 6] rfl (K_X12_decisive_108   a0 a1 a2 (fun x3 x4 x5 x6 st h => ih x3 x4 x5 x6 st h) x3 x4 x5 x6 st_6 h)
            · have h := h.2 hc
              refine J_iinc 5 (x5 + 1) _ dX12_decisive_105 rfl (by rfl) (by decide) rfl ?_
              exact J_lv [1, 2, 3, 4, 5, 0, 6] rfl (K_X12_decisive_108   a0 a1 a2 (fun x3 x4 x5 x6 st h => ih x3 x4 x5 x6 st h) x3 x4 (x5 + 1) x6 st_6 h)
set_option maxRecDepth 100000 in
set_option maxHeartbeats 4000000 in
theorem K_X12_decisive_21 {l : Launch} {E : En}   (a0 : Nat) (a1 : Int32) (a2 : Int32)  {post : Int32 → St → Prop}    (st : St) (h : P_X12_decisive_21  a0 a1 a2  post  st) : Jg l E (CFc E) (Rm 5 0 0) cX12_decisive 7 RX12 (some .int) (fun _ => True) (QI E post 0 0) 0 0 21 [(0, .ref a0), (1, .int a1), (2, .int a2)] [] st := by
  unfold P_X12_decisive_21 at h
  refine J_aload_n 0 dX12_decisive_21 rfl rfl ?_
  refine J_iconst 1 dX12_decisive_22 (by decide) ?_
  obtain ⟨ho, h⟩ := h
  refine J_cvi (As := [_]) md_X12_fail k_1093 (rc_obj cl_12 ho) rfl rfl ⟨Nat.le_of_ble_eq_true rfl, Nat.le_of_ble_eq_true rfl⟩ ⟨Nat.le_of_ble_eq_true rfl, Nat.le_of_ble_eq_true rfl⟩ (Nat.le_of_ble_eq_true rfl) dX12_decisive_23 (ct_X12_fail  h) (fun z_1 st_2 h => ?_)
  exact J_reti rfl dX12_decisive_26 h
set_option maxRecDepth 100000 in
set_option maxHeartbeats 4000000 in
theorem ct_X12_decisive {l : Launch} {E : En}  {a0 : Nat} {a1 : Int32} {a2 : Int32} {st : St} {post : Int32 → St → Prop} (h : P_X12_decisive  a0 a1 a2 st post) : CtI l E (CFc E) 5 0 0 yX12_decisive cX12_decisive 7 (some .int) [.ref a0, .int a1, .int a2] st post := by
  refine ctI_of (by decide) (Nat.le_of_ble_eq_true rfl) ?_
  show Jg l E (CFc E) (Rm 5 0 0) cX12_decisive 7 RX12 (some .int) (fun _ => True) (QI E post 0 0) 0 0 0 [(0, .ref a0), (1, .int a1), (2, .int a2)] [] st
  unfold P_X12_decisive at h
  refine J_aload_n 0 dX12_decisive_0 rfl rfl ?_
  refine J_iconst 0 dX12_decisive_1 (by decide) ?_
  obtain ⟨hf, h⟩ := h
  refine J_putI fp_RX12_184 dX12_decisive_2 rfl hf ?_
  refine J_aload_n 0 dX12_decisive_5 rfl rfl ?_
  refine J_iload_n 1 dX12_decisive_6 rfl rfl ?_
  obtain ⟨ho, h⟩ := h
  refine J_cvi (As := [_]) md_X12_isPerson k_1167 (rc_obj cl_12 ho) rfl rfl ⟨Nat.le_of_ble_eq_true rfl, Nat.le_of_ble_eq_true rfl⟩ ⟨Nat.le_of_ble_eq_true rfl, Nat.le_of_ble_eq_true rfl⟩ (Nat.le_of_ble_eq_true rfl) dX12_decisive_7 (ct_X12_isPerson  h) (fun z_1 st_2 h => ?_)
  refine J_if_eq 21 dX12_decisive_10 (by decide) (fun hc => ?_) (fun hc => ?_)
  · have h := h.1 hc
    exact J_lv [0, 1, 2] rfl (K_X12_decisive_21   a0 a1 a2  st_2 h)
  · have h := h.2 hc
    refine J_aload_n 0 dX12_decisive_13 rfl rfl ?_
    refine J_iload_n 2 dX12_decisive_14 rfl rfl ?_
    obtain ⟨ho, h⟩ := h
    refine J_cvi (As := [_]) md_X12_isBride k_1170 (rc_obj cl_12 ho) rfl rfl ⟨Nat.le_of_ble_eq_true rfl, Nat.le_of_ble_eq_true rfl⟩ ⟨Nat.le_of_ble_eq_true rfl, Nat.le_of_ble_eq_true rfl⟩ (Nat.le_of_ble_eq_true rfl) dX12_decisive_15 (ct_X12_isBride  h) (fun z_3 st_4 h => ?_)
    refine J_if_ne 27 dX12_decisive_18 (by decide) (fun hc => ?_) (fun hc => ?_)
    · have h := h.1 hc
      refine J_aload_n 0 dX12_decisive_27 rfl rfl ?_
      refine J_iload_n 2 dX12_decisive_28 rfl rfl ?_
      obtain ⟨ho, h⟩ := h
      refine J_cvi (As := [_]) md_X12_tiedTo k_1119 (rc_obj cl_12 ho) rfl rfl ⟨Nat.le_of_ble_eq_true rfl, Nat.le_of_ble_eq_true rfl⟩ ⟨Nat.le_of_ble_eq_true rfl, Nat.le_of_ble_eq_true rfl⟩ (Nat.le_of_ble_eq_true rfl) dX12_decisive_29 (ct_X12_tiedTo  h) (fun z_5 st_6 h => ?_)
      refine J_istore_n _ dX12_decisive_32 rfl (by decide) rfl ?_
      refine J_aload_n 1 dX12_decisive_33 rfl rfl ?_
      refine J_iload_n 0 dX12_decisive_34 rfl rfl ?_
      refine J_iload_n 3 dX12_decisive_35 rfl rfl ?_
      obtain ⟨ho, h⟩ := h
      refine J_cvi (As := [_, _]) md_X12_weights k_1246 (rc_obj cl_12 ho) rfl rfl ⟨Nat.le_of_ble_eq_true rfl, Nat.le_of_ble_eq_true rfl⟩ ⟨Nat.le_of_ble_eq_true rfl, Nat.le_of_ble_eq_true rfl⟩ (Nat.le_of_ble_eq_true rfl) dX12_decisive_36 (ct_X12_weights  h) (fun z_7 st_8 h => ?_)
      refine J_istore _ dX12_decisive_39 (by decide) rfl ?_
      refine J_iconst 0 dX12_decisive_41 (by decide) ?_
      refine J_istore _ dX12_decisive_42 (by decide) rfl ?_
      refine J_iconst 1 dX12_decisive_44 (by decide) ?_
      refine J_istore _ dX12_decisive_45 (by decide) rfl ?_
      obtain ⟨n8, h⟩ := h
      exact J_lv [4, 5, 6, 3, 2, 1, 0] rfl (K_X12_decisive_47   a0 a1 a2  n8 z_5 z_7 0 1 st_8 h)
    · have h := h.2 hc
      exact J_lv [0, 1, 2] rfl (K_X12_decisive_21   a0 a1 a2  st_4 h)
/-! X12_steps -/
def P_X12_steps_117  (a0 : Nat) (a1 : Int32) (a2 : Int32) (k72 : Int32 → Int32 → Int32 → Int32 → Int32 → St → Prop) (post : Int32 → St → Prop) (x3 : Int32) (x4 : Int32) (x5 : Int32) (x6 : Int32) (x7 : Int32) (st : St) : Prop := k72 x3 x4 x5 x6 (x7 + 1) st
def P_X12_steps_72  (a0 : Nat) (a1 : Int32) (a2 : Int32) (k58 : Int32 → Int32 → Int32 → Int32 → St → Prop) (post : Int32 → St → Prop) : Nat → Int32 → Int32 → Int32 → Int32 → Int32 → St → Prop
  | 0, _, _, _, _, _, _ => False
  | n9 + 1, x3, x4, x5, x6, x7, st => ∃ r_1, rv st a0 12 5 = some r_1 ∧ vp_in 0 (al 0 r_1) ∧ (((gA st r_1 (0 : Int32).toNatClampNeg) ≤ x7 → k58 x3 x4 x5 (x6 + 1) st) ∧ (¬ (gA st r_1 (0 : Int32).toNatClampNeg) ≤ x7 → P_X12_isOf  x3 x6 st (fun z_2 st_3 => ((z_2 = 0 → P_X12_steps_117  a0 a1 a2 (fun x3 x4 x5 x6 x7 st => P_X12_steps_72  a0 a1 a2 k58 post n9 x3 x4 x5 x6 x7 st) post x3 x4 x5 x6 x7 st_3) ∧ (¬ z_2 = 0 → oC a0 12 ∧ P_X12_tiesOf  a0 x6 st_3 (fun z_4 st_5 => oC a0 12 ∧ P_X12_tiesOf  a0 x7 st_5 (fun z_6 st_7 => (((z_4 &&& z_6) = 0 → P_X12_steps_117  a0 a1 a2 (fun x3 x4 x5 x6 x7 st => P_X12_steps_72  a0 a1 a2 k58 post n9 x3 x4 x5 x6 x7 st) post x3 x4 x5 x6 x7 st_7) ∧ (¬ (z_4 &&& z_6) = 0 → P_X12_steps_117  a0 a1 a2 (fun x3 x4 x5 x6 x7 st => P_X12_steps_72  a0 a1 a2 k58 post n9 x3 x4 x5 x6 x7 st) post x3 x4 (x5 ||| ((1 : Int32) <<< ((x7 : Int32) &&& 31))) x6 x7 st_7)))))))))
def P_X12_steps_58  (a0 : Nat) (a1 : Int32) (a2 : Int32) (k34 : Int32 → Int32 → St → Prop) (post : Int32 → St → Prop) : Nat → Int32 → Int32 → Int32 → Int32 → St → Prop
  | 0, _, _, _, _, _ => False
  | n9 + 1, x3, x4, x5, x6, st => ∃ r_1, rv st a0 12 5 = some r_1 ∧ vp_in 0 (al 0 r_1) ∧ (((gA st r_1 (0 : Int32).toNatClampNeg) ≤ x6 → k34 x5 (x4 + 1) st) ∧ (¬ (gA st r_1 (0 : Int32).toNatClampNeg) ≤ x6 → ∃ n8, P_X12_steps_72  a0 a1 a2 (fun x3 x4 x5 x6 st => P_X12_steps_58  a0 a1 a2 k34 post n9 x3 x4 x5 x6 st) post n8 x3 x4 x5 x6 0 st))
def P_X12_steps_34  (a0 : Nat) (a1 : Int32) (a2 : Int32)  (post : Int32 → St → Prop) : Nat → Int32 → Int32 → St → Prop
  | 0, _, _, _ => False
  | n9 + 1, x3, x4, st => ((9 ≤ x4 → post (-1) st) ∧ (¬ 9 ≤ x4 → P_X12_isOf  x3 a2 st (fun z_1 st_2 => ((z_1 = 0 → ∃ n8, P_X12_steps_58  a0 a1 a2 (fun x3 x4 st => P_X12_steps_34  a0 a1 a2  post n9 x3 x4 st) post n8 x3 x4 x3 0 st_2) ∧ (¬ z_1 = 0 → post x4 st_2)))))
def P_X12_steps_21  (a0 : Nat) (a1 : Int32) (a2 : Int32)  (post : Int32 → St → Prop)  (st : St) : Prop := oC a0 12 ∧ P_X12_fail  a0 1 st (fun z_1 st_2 => post z_1 st_2)
def P_X12_steps  (a0 : Nat) (a1 : Int32) (a2 : Int32) (st : St) (post : Int32 → St → Prop) : Prop := fk a0 12 4 = some 0 ∧ oC a0 12 ∧ P_X12_isPerson  a0 a1 (sI st a0 4 0) (fun z_1 st_2 => ((z_1 = 0 → P_X12_steps_21  a0 a1 a2  post st_2) ∧ (¬ z_1 = 0 → oC a0 12 ∧ P_X12_isPerson  a0 a2 st_2 (fun z_3 st_4 => ((¬ z_3 = 0 → ∃ n8, P_X12_steps_34  a0 a1 a2  post n8 ((1 : Int32) <<< ((a1 : Int32) &&& 31)) 0 st_4) ∧ (z_3 = 0 → P_X12_steps_21  a0 a1 a2  post st_4))))))
set_option maxRecDepth 100000 in
set_option maxHeartbeats 4000000 in
theorem K_X12_steps_117 {l : Launch} {E : En}   (a0 : Nat) (a1 : Int32) (a2 : Int32) {k72 : Int32 → Int32 → Int32 → Int32 → Int32 → St → Prop} {post : Int32 → St → Prop}  (hk72 : ∀ (x3 : Int32) (x4 : Int32) (x5 : Int32) (x6 : Int32) (x7 : Int32) (st : St), k72 x3 x4 x5 x6 x7 st → Jg l E (CFc E) (Rm 3 0 0) cX12_steps 8 RX12 (some .int) (fun _ => True) (QI E post 0 0) 0 0 72 [(0, .ref a0), (1, .int a1), (2, .int a2), (3, .int x3), (4, .int x4), (5, .int x5), (6, .int x6), (7, .int x7)] [] st) (x3 : Int32) (x4 : Int32) (x5 : Int32) (x6 : Int32) (x7 : Int32) (st : St) (h : P_X12_steps_117  a0 a1 a2 k72 post x3 x4 x5 x6 x7 st) : Jg l E (CFc E) (Rm 3 0 0) cX12_steps 8 RX12 (some .int) (fun _ => True) (QI E post 0 0) 0 0 117 [(0, .ref a0), (1, .int a1), (2, .int a2), (3, .int x3), (4, .int x4), (5, .int x5), (6, .int x6), (7, .int x7)] [] st := by
  unfold P_X12_steps_117 at h
  refine J_iinc 7 (x7 + 1) _ dX12_steps_117 rfl (by rfl) (by decide) rfl ?_
  refine J_goto 72 dX12_steps_120 (by decide) ?_
  exact J_lv [1, 2, 3, 4, 5, 6, 7, 0] rfl (hk72 x3 x4 x5 x6 (x7 + 1) st h)
set_option maxRecDepth 100000 in
set_option maxHeartbeats 4000000 in
theorem K_X12_steps_72 {l : Launch} {E : En}   (a0 : Nat) (a1 : Int32) (a2 : Int32) {k58 : Int32 → Int32 → Int32 → Int32 → St → Prop} {post : Int32 → St → Prop}  (hk58 : ∀ (x3 : Int32) (x4 : Int32) (x5 : Int32) (x6 : Int32) (st : St), k58 x3 x4 x5 x6 st → Jg l E (CFc E) (Rm 3 0 0) cX12_steps 8 RX12 (some .int) (fun _ => True) (QI E post 0 0) 0 0 58 [(0, .ref a0), (1, .int a1), (2, .int a2), (3, .int x3), (4, .int x4), (5, .int x5), (6, .int x6)] [] st) : ∀ (n9 : Nat) (x3 : Int32) (x4 : Int32) (x5 : Int32) (x6 : Int32) (x7 : Int32) (st : St), P_X12_steps_72  a0 a1 a2 k58 post n9 x3 x4 x5 x6 x7 st → Jg l E (CFc E) (Rm 3 0 0) cX12_steps 8 RX12 (some .int) (fun _ => True) (QI E post 0 0) 0 0 72 [(0, .ref a0), (1, .int a1), (2, .int a2), (3, .int x3), (4, .int x4), (5, .int x5), (6, .int x6), (7, .int x7)] [] st := by
  intro n9
  induction n9 with
  | zero => intro x3 x4 x5 x6 x7 st h; exact h.elim
  | succ n9 ih =>
    intro x3 x4 x5 x6 x7 st h
    unfold P_X12_steps_72 at h
    refine J_iload 7 dX12_steps_72 rfl ?_
    refine J_aload_n 0 dX12_steps_74 rfl rfl ?_
    obtain ⟨r_1, hf, h⟩ := h
    refine J_getR fl_RX12_48 dX12_steps_75 hf ?_
    refine J_iconst 0 dX12_steps_78 (by decide) ?_
    obtain ⟨hi, h⟩ := h
    refine J_iald dX12_steps_79 hi ?_
    refine J_icmp_ge 123 dX12_steps_80 (by decide) (fun hc => ?_) (fun hc => ?_)
    · have h := h.1 hc
      refine J_iinc 6 (x6 + 1) _ dX12_steps_123 rfl (by rfl) (by decide) rfl ?_
      refine J_goto 58 dX12_steps_126 (by decide) ?_
      exact J_lv [1, 2, 3, 4, 5, 6, 0] rfl (hk58 x3 x4 x5 (x6 + 1) st h)
    · have h := h.2 hc
      refine J_iload_n 3 dX12_steps_83 rfl rfl ?_
      refine J_iload 6 dX12_steps_84 rfl ?_
      refine J_csi (As := [_, _]) md_X12_isOf k_1222 rfl rfl ⟨Nat.le_of_ble_eq_true rfl, Nat.le_of_ble_eq_true rfl⟩ ⟨Nat.le_of_ble_eq_true rfl, Nat.le_of_ble_eq_true rfl⟩ (Nat.le_of_ble_eq_true rfl) dX12_steps_86 (ct_X12_isOf  h) (fun z_2 st_3 h => ?_)
      refine J_if_eq 117 dX12_steps_89 (by decide) (fun hc => ?_) (fun hc => ?_)
      · have h := h.1 hc
        exact J_lv [0, 1, 2, 3, 4, 5, 6, 7] rfl (K_X12_steps_117   a0 a1 a2 (fun x3 x4 x5 x6 x7 st h => ih x3 x4 x5 x6 x7 st h) x3 x4 x5 x6 x7 st_3 h)
      · have h := h.2 hc
        refine J_aload_n 0 dX12_steps_92 rfl rfl ?_
        refine J_iload 6 dX12_steps_93 rfl ?_
        obtain ⟨ho, h⟩ := h
        refine J_cvi (As := [_]) md_X12_tiesOf k_1153 (rc_obj cl_12 ho) rfl rfl ⟨Nat.le_of_ble_eq_true rfl, Nat.le_of_ble_eq_true rfl⟩ ⟨Nat.le_of_ble_eq_true rfl, Nat.le_of_ble_eq_true rfl⟩ (Nat.le_of_ble_eq_true rfl) dX12_steps_95 (ct_X12_tiesOf  h) (fun z_4 st_5 h => ?_)
        refine J_aload_n 0 dX12_steps_98 rfl rfl ?_
        refine J_iload 7 dX12_steps_99 rfl ?_
        obtain ⟨ho, h⟩ := h
        refine J_cvi (As := [_]) md_X12_tiesOf k_1153 (rc_obj cl_12 ho) rfl rfl ⟨Nat.le_of_ble_eq_true rfl, Nat.le_of_ble_eq_true rfl⟩ ⟨Nat.le_of_ble_eq_true rfl, Nat.le_of_ble_eq_true rfl⟩ (Nat.le_of_ble_eq_true rfl) dX12_steps_101 (ct_X12_tiesOf  h) (fun z_6 st_7 h => ?_)
        refine J_iand dX12_steps_104 ?_
        refine J_if_eq 117 dX12_steps_105 (by decide) (fun hc => ?_) (fun hc => ?_)
        · have h := h.1 hc
          exact J_lv [0, 1, 2, 3, 4, 5, 6, 7] rfl (K_X12_steps_117   a0 a1 a2 (fun x3 x4 x5 x6 x7 st h => ih x3 x4 x5 x6 x7 st h) x3 x4 x5 x6 x7 st_7 h)
        · have h := h.2 hc
          refine J_iload 5 dX12_steps_108 rfl ?_
          refine J_iconst 1 dX12_steps_110 (by decide) ?_
          refine J_iload 7 dX12_steps_111 rfl ?_
          refine J_ishl dX12_steps_113 ?_
          refine J_ior dX12_steps_114 ?_
          refine J_istore _ dX12_steps_115 (by decide) rfl ?_
          exact J_lv [1, 2, 3, 4, 5, 0, 6, 7] rfl (K_X12_steps_117   a0 a1 a2 (fun x3 x4 x5 x6 x7 st h => ih x3 x4 x5 x6 x7 st h) x3 x4 (x5 ||| ((1 : Int32) <<< ((x7 : Int32) &&& 31))) x6 x7 st_7 h)
set_option maxRecDepth 100000 in
set_option maxHeartbeats 4000000 in
theorem K_X12_steps_58 {l : Launch} {E : En}   (a0 : Nat) (a1 : Int32) (a2 : Int32) {k34 : Int32 → Int32 → St → Prop} {post : Int32 → St → Prop}  (hk34 : ∀ (x3 : Int32) (x4 : Int32) (st : St), k34 x3 x4 st → Jg l E (CFc E) (Rm 3 0 0) cX12_steps 8 RX12 (some .int) (fun _ => True) (QI E post 0 0) 0 0 34 [(0, .ref a0), (1, .int a1), (2, .int a2), (3, .int x3), (4, .int x4)] [] st) : ∀ (n9 : Nat) (x3 : Int32) (x4 : Int32) (x5 : Int32) (x6 : Int32) (st : St), P_X12_steps_58  a0 a1 a2 k34 post n9 x3 x4 x5 x6 st → Jg l E (CFc E) (Rm 3 0 0) cX12_steps 8 RX12 (some .int) (fun _ => True) (QI E post 0 0) 0 0 58 [(0, .ref a0), (1, .int a1), (2, .int a2), (3, .int x3), (4, .int x4), (5, .int x5), (6, .int x6)] [] st := by
  intro n9
  induction n9 with
  | zero => intro x3 x4 x5 x6 st h; exact h.elim
  | succ n9 ih =>
    intro x3 x4 x5 x6 st h
    unfold P_X12_steps_58 at h
    refine J_iload 6 dX12_steps_58 rfl ?_
    refine J_aload_n 0 dX12_steps_60 rfl rfl ?_
    obtain ⟨r_1, hf, h⟩ := h
    refine J_getR fl_RX12_48 dX12_steps_61 hf ?_
    refine J_iconst 0 dX12_steps_64 (by decide) ?_
    obtain ⟨hi, h⟩ := h
    refine J_iald dX12_steps_65 hi ?_
    refine J_icmp_ge 129 dX12_steps_66 (by decide) (fun hc => ?_) (fun hc => ?_)
    · have h := h.1 hc
      refine J_iload 5 dX12_steps_129 rfl ?_
      refine J_istore_n _ dX12_steps_131 rfl (by decide) rfl ?_
      refine J_iinc 4 (x4 + 1) _ dX12_steps_132 rfl (by rfl) (by decide) rfl ?_
      refine J_goto 34 dX12_steps_135 (by decide) ?_
      exact J_lv [2, 3, 4, 1, 0] rfl (hk34 x5 (x4 + 1) st h)
    · have h := h.2 hc
      refine J_iconst 0 dX12_steps_69 (by decide) ?_
      refine J_istore _ dX12_steps_70 (by decide) rfl ?_
      obtain ⟨n8, h⟩ := h
      exact J_lv [1, 2, 3, 4, 5, 6, 7, 0] rfl (K_X12_steps_72   a0 a1 a2 (fun x3 x4 x5 x6 st h => ih x3 x4 x5 x6 st h) n8 x3 x4 x5 x6 0 st h)
set_option maxRecDepth 100000 in
set_option maxHeartbeats 4000000 in
theorem K_X12_steps_34 {l : Launch} {E : En}   (a0 : Nat) (a1 : Int32) (a2 : Int32)  {post : Int32 → St → Prop}   : ∀ (n9 : Nat) (x3 : Int32) (x4 : Int32) (st : St), P_X12_steps_34  a0 a1 a2  post n9 x3 x4 st → Jg l E (CFc E) (Rm 3 0 0) cX12_steps 8 RX12 (some .int) (fun _ => True) (QI E post 0 0) 0 0 34 [(0, .ref a0), (1, .int a1), (2, .int a2), (3, .int x3), (4, .int x4)] [] st := by
  intro n9
  induction n9 with
  | zero => intro x3 x4 st h; exact h.elim
  | succ n9 ih =>
    intro x3 x4 st h
    unfold P_X12_steps_34 at h
    refine J_iload 4 dX12_steps_34 rfl ?_
    refine J_bipush 9 dX12_steps_36 (by decide) ?_
    refine J_icmp_ge 138 dX12_steps_38 (by decide) (fun hc => ?_) (fun hc => ?_)
    · have h := h.1 hc
      refine J_iconst (-1) dX12_steps_138 (by decide) ?_
      exact J_reti rfl dX12_steps_139 h
    · have h := h.2 hc
      refine J_iload_n 3 dX12_steps_41 rfl rfl ?_
      refine J_iload_n 2 dX12_steps_42 rfl rfl ?_
      refine J_csi (As := [_, _]) md_X12_isOf k_1222 rfl rfl ⟨Nat.le_of_ble_eq_true rfl, Nat.le_of_ble_eq_true rfl⟩ ⟨Nat.le_of_ble_eq_true rfl, Nat.le_of_ble_eq_true rfl⟩ (Nat.le_of_ble_eq_true rfl) dX12_steps_43 (ct_X12_isOf  h) (fun z_1 st_2 h => ?_)
      refine J_if_eq 52 dX12_steps_46 (by decide) (fun hc => ?_) (fun hc => ?_)
      · have h := h.1 hc
        refine J_iload_n 3 dX12_steps_52 rfl rfl ?_
        refine J_istore _ dX12_steps_53 (by decide) rfl ?_
        refine J_iconst 0 dX12_steps_55 (by decide) ?_
        refine J_istore _ dX12_steps_56 (by decide) rfl ?_
        obtain ⟨n8, h⟩ := h
        exact J_lv [2, 3, 4, 5, 6, 1, 0] rfl (K_X12_steps_58   a0 a1 a2 (fun x3 x4 st h => ih x3 x4 st h) n8 x3 x4 x3 0 st_2 h)
      · have h := h.2 hc
        refine J_iload 4 dX12_steps_49 rfl ?_
        exact J_reti rfl dX12_steps_51 h
set_option maxRecDepth 100000 in
set_option maxHeartbeats 4000000 in
theorem K_X12_steps_21 {l : Launch} {E : En}   (a0 : Nat) (a1 : Int32) (a2 : Int32)  {post : Int32 → St → Prop}    (st : St) (h : P_X12_steps_21  a0 a1 a2  post  st) : Jg l E (CFc E) (Rm 3 0 0) cX12_steps 8 RX12 (some .int) (fun _ => True) (QI E post 0 0) 0 0 21 [(0, .ref a0), (1, .int a1), (2, .int a2)] [] st := by
  unfold P_X12_steps_21 at h
  refine J_aload_n 0 dX12_steps_21 rfl rfl ?_
  refine J_iconst 1 dX12_steps_22 (by decide) ?_
  obtain ⟨ho, h⟩ := h
  refine J_cvi (As := [_]) md_X12_fail k_1093 (rc_obj cl_12 ho) rfl rfl ⟨Nat.le_of_ble_eq_true rfl, Nat.le_of_ble_eq_true rfl⟩ ⟨Nat.le_of_ble_eq_true rfl, Nat.le_of_ble_eq_true rfl⟩ (Nat.le_of_ble_eq_true rfl) dX12_steps_23 (ct_X12_fail  h) (fun z_1 st_2 h => ?_)
  exact J_reti rfl dX12_steps_26 h
set_option maxRecDepth 100000 in
set_option maxHeartbeats 4000000 in
theorem ct_X12_steps {l : Launch} {E : En}  {a0 : Nat} {a1 : Int32} {a2 : Int32} {st : St} {post : Int32 → St → Prop} (h : P_X12_steps  a0 a1 a2 st post) : CtI l E (CFc E) 3 0 0 yX12_steps cX12_steps 8 (some .int) [.ref a0, .int a1, .int a2] st post := by
  refine ctI_of (by decide) (Nat.le_of_ble_eq_true rfl) ?_
  show Jg l E (CFc E) (Rm 3 0 0) cX12_steps 8 RX12 (some .int) (fun _ => True) (QI E post 0 0) 0 0 0 [(0, .ref a0), (1, .int a1), (2, .int a2)] [] st
  unfold P_X12_steps at h
  refine J_aload_n 0 dX12_steps_0 rfl rfl ?_
  refine J_iconst 0 dX12_steps_1 (by decide) ?_
  obtain ⟨hf, h⟩ := h
  refine J_putI fp_RX12_184 dX12_steps_2 rfl hf ?_
  refine J_aload_n 0 dX12_steps_5 rfl rfl ?_
  refine J_iload_n 1 dX12_steps_6 rfl rfl ?_
  obtain ⟨ho, h⟩ := h
  refine J_cvi (As := [_]) md_X12_isPerson k_1167 (rc_obj cl_12 ho) rfl rfl ⟨Nat.le_of_ble_eq_true rfl, Nat.le_of_ble_eq_true rfl⟩ ⟨Nat.le_of_ble_eq_true rfl, Nat.le_of_ble_eq_true rfl⟩ (Nat.le_of_ble_eq_true rfl) dX12_steps_7 (ct_X12_isPerson  h) (fun z_1 st_2 h => ?_)
  refine J_if_eq 21 dX12_steps_10 (by decide) (fun hc => ?_) (fun hc => ?_)
  · have h := h.1 hc
    exact J_lv [0, 1, 2] rfl (K_X12_steps_21   a0 a1 a2  st_2 h)
  · have h := h.2 hc
    refine J_aload_n 0 dX12_steps_13 rfl rfl ?_
    refine J_iload_n 2 dX12_steps_14 rfl rfl ?_
    obtain ⟨ho, h⟩ := h
    refine J_cvi (As := [_]) md_X12_isPerson k_1167 (rc_obj cl_12 ho) rfl rfl ⟨Nat.le_of_ble_eq_true rfl, Nat.le_of_ble_eq_true rfl⟩ ⟨Nat.le_of_ble_eq_true rfl, Nat.le_of_ble_eq_true rfl⟩ (Nat.le_of_ble_eq_true rfl) dX12_steps_15 (ct_X12_isPerson  h) (fun z_3 st_4 h => ?_)
    refine J_if_ne 27 dX12_steps_18 (by decide) (fun hc => ?_) (fun hc => ?_)
    · have h := h.1 hc
      refine J_iconst 1 dX12_steps_27 (by decide) ?_
      refine J_iload_n 1 dX12_steps_28 rfl rfl ?_
      refine J_ishl dX12_steps_29 ?_
      refine J_istore_n _ dX12_steps_30 rfl (by decide) rfl ?_
      refine J_iconst 0 dX12_steps_31 (by decide) ?_
      refine J_istore _ dX12_steps_32 (by decide) rfl ?_
      obtain ⟨n8, h⟩ := h
      exact J_lv [2, 3, 4, 1, 0] rfl (K_X12_steps_34   a0 a1 a2  n8 ((1 : Int32) <<< ((a1 : Int32) &&& 31)) 0 st_4 h)
    · have h := h.2 hc
      exact J_lv [0, 1, 2] rfl (K_X12_steps_21   a0 a1 a2  st_4 h)
/-! X12_busiest -/
def P_X12_busiest_65  (a0 : Nat) (a1 : Int32) (k30 : Int32 → Int32 → Int32 → St → Prop) (post : Int32 → St → Prop) (x2 : Int32) (x3 : Int32) (x4 : Int32) (st : St) : Prop := k30 x2 x3 (x4 + 1) st
def P_X12_busiest_30  (a0 : Nat) (a1 : Int32)  (post : Int32 → St → Prop) : Nat → Int32 → Int32 → Int32 → St → Prop
  | 0, _, _, _, _ => False
  | n9 + 1, x2, x3, x4, st => ∃ r_1, rv st a0 12 5 = some r_1 ∧ vp_in 0 (al 0 r_1) ∧ (((gA st r_1 (0 : Int32).toNatClampNeg) ≤ x4 → post x2 st) ∧ (¬ (gA st r_1 (0 : Int32).toNatClampNeg) ≤ x4 → oC a0 12 ∧ P_X12_ledIn  a0 x4 a1 st (fun z_2 st_3 => ((x3 < z_2 → P_X12_busiest_65  a0 a1 (fun x2 x3 x4 st => P_X12_busiest_30  a0 a1  post n9 x2 x3 x4 st) post x4 z_2 x4 st_3) ∧ (¬ x3 < z_2 → P_X12_busiest_65  a0 a1 (fun x2 x3 x4 st => P_X12_busiest_30  a0 a1  post n9 x2 x3 x4 st) post x2 x3 x4 st_3)))))
def P_X12_busiest  (a0 : Nat) (a1 : Int32) (st : St) (post : Int32 → St → Prop) : Prop := fk a0 12 4 = some 0 ∧ P_X12_isIn  ((a1 : Int32).toInt64) 0 60 (sI st a0 4 0) (fun z_1 st_2 => ((¬ z_1 = 0 → ∃ n8, P_X12_busiest_30  a0 a1  post n8 (-1) 0 0 st_2) ∧ (z_1 = 0 → oC a0 12 ∧ P_X12_fail  a0 1 st_2 (fun z_3 st_4 => post z_3 st_4))))
set_option maxRecDepth 100000 in
set_option maxHeartbeats 4000000 in
theorem K_X12_busiest_65 {l : Launch} {E : En}   (a0 : Nat) (a1 : Int32) {k30 : Int32 → Int32 → Int32 → St → Prop} {post : Int32 → St → Prop}  (hk30 : ∀ (x2 : Int32) (x3 : Int32) (x4 : Int32) (st : St), k30 x2 x3 x4 st → Jg l E (CFc E) (Rm 10 0 0) cX12_busiest 6 RX12 (some .int) (fun _ => True) (QI E post 0 0) 0 0 30 [(0, .ref a0), (1, .int a1), (2, .int x2), (3, .int x3), (4, .int x4)] [] st) (x2 : Int32) (x3 : Int32) (x4 : Int32) (st : St) (h : P_X12_busiest_65  a0 a1 k30 post x2 x3 x4 st) : Jg l E (CFc E) (Rm 10 0 0) cX12_busiest 6 RX12 (some .int) (fun _ => True) (QI E post 0 0) 0 0 65 [(0, .ref a0), (1, .int a1), (2, .int x2), (3, .int x3), (4, .int x4)] [] st := by
  unfold P_X12_busiest_65 at h
  refine J_iinc 4 (x4 + 1) _ dX12_busiest_65 rfl (by rfl) (by decide) rfl ?_
  refine J_goto 30 dX12_busiest_68 (by decide) ?_
  exact J_lv [1, 2, 3, 4, 0] rfl (hk30 x2 x3 (x4 + 1) st h)
set_option maxRecDepth 100000 in
set_option maxHeartbeats 4000000 in
theorem K_X12_busiest_30 {l : Launch} {E : En}   (a0 : Nat) (a1 : Int32)  {post : Int32 → St → Prop}   : ∀ (n9 : Nat) (x2 : Int32) (x3 : Int32) (x4 : Int32) (st : St), P_X12_busiest_30  a0 a1  post n9 x2 x3 x4 st → Jg l E (CFc E) (Rm 10 0 0) cX12_busiest 6 RX12 (some .int) (fun _ => True) (QI E post 0 0) 0 0 30 [(0, .ref a0), (1, .int a1), (2, .int x2), (3, .int x3), (4, .int x4)] [] st := by
  intro n9
  induction n9 with
  | zero => intro x2 x3 x4 st h; exact h.elim
  | succ n9 ih =>
    intro x2 x3 x4 st h
    unfold P_X12_busiest_30 at h
    refine J_iload 4 dX12_busiest_30 rfl ?_
    refine J_aload_n 0 dX12_busiest_32 rfl rfl ?_
    obtain ⟨r_1, hf, h⟩ := h
    refine J_getR fl_RX12_48 dX12_busiest_33 hf ?_
    refine J_iconst 0 dX12_busiest_36 (by decide) ?_
    obtain ⟨hi, h⟩ := h
    refine J_iald dX12_busiest_37 hi ?_
    refine J_icmp_ge 71 dX12_busiest_38 (by decide) (fun hc => ?_) (fun hc => ?_)
    · have h := h.1 hc
      refine J_iload_n 2 dX12_busiest_71 rfl rfl ?_
      exact J_reti rfl dX12_busiest_72 h
    · have h := h.2 hc
      refine J_aload_n 0 dX12_busiest_41 rfl rfl ?_
      refine J_iload 4 dX12_busiest_42 rfl ?_
      refine J_iload_n 1 dX12_busiest_44 rfl rfl ?_
      obtain ⟨ho, h⟩ := h
      refine J_cvi (As := [_, _]) md_X12_ledIn k_1211 (rc_obj cl_12 ho) rfl rfl ⟨Nat.le_of_ble_eq_true rfl, Nat.le_of_ble_eq_true rfl⟩ ⟨Nat.le_of_ble_eq_true rfl, Nat.le_of_ble_eq_true rfl⟩ (Nat.le_of_ble_eq_true rfl) dX12_busiest_45 (ct_X12_ledIn  h) (fun z_2 st_3 h => ?_)
      refine J_istore _ dX12_busiest_48 (by decide) rfl ?_
      refine J_iload 0 dX12_busiest_50 rfl ?_
      refine J_iload_n 4 dX12_busiest_52 rfl rfl ?_
      refine J_icmp_gt 59 dX12_busiest_53 (by decide) (fun hc => ?_) (fun hc => ?_)
      · have h := h.1 hc
        refine J_iload 5 dX12_busiest_59 rfl ?_
        refine J_istore_n _ dX12_busiest_61 rfl (by decide) rfl ?_
        refine J_iload 1 dX12_busiest_62 rfl ?_
        refine J_istore_n _ dX12_busiest_64 rfl (by decide) rfl ?_
        exact J_lv [3, 4, 1, 0, 5] rfl (K_X12_busiest_65   a0 a1 (fun x2 x3 x4 st h => ih x2 x3 x4 st h) x4 z_2 x4 st_3 h)
      · have h := h.2 hc
        refine J_goto 65 dX12_busiest_56 (by decide) ?_
        exact J_lv [1, 2, 3, 4, 5] rfl (K_X12_busiest_65   a0 a1 (fun x2 x3 x4 st h => ih x2 x3 x4 st h) x2 x3 x4 st_3 h)
set_option maxRecDepth 100000 in
set_option maxHeartbeats 4000000 in
theorem ct_X12_busiest {l : Launch} {E : En}  {a0 : Nat} {a1 : Int32} {st : St} {post : Int32 → St → Prop} (h : P_X12_busiest  a0 a1 st post) : CtI l E (CFc E) 10 0 0 yX12_busiest cX12_busiest 6 (some .int) [.ref a0, .int a1] st post := by
  refine ctI_of (by decide) (Nat.le_of_ble_eq_true rfl) ?_
  show Jg l E (CFc E) (Rm 10 0 0) cX12_busiest 6 RX12 (some .int) (fun _ => True) (QI E post 0 0) 0 0 0 [(0, .ref a0), (1, .int a1)] [] st
  unfold P_X12_busiest at h
  refine J_aload_n 0 dX12_busiest_0 rfl rfl ?_
  refine J_iconst 0 dX12_busiest_1 (by decide) ?_
  obtain ⟨hf, h⟩ := h
  refine J_putI fp_RX12_184 dX12_busiest_2 rfl hf ?_
  refine J_iload_n 1 dX12_busiest_5 rfl rfl ?_
  refine J_i2l dX12_busiest_6 ?_
  refine J_lconst 0 dX12_busiest_7 (by decide) ?_
  refine J_ldc2 k_1208 dX12_busiest_8 ?_
  refine J_csi (As := [_, _, _]) md_X12_isIn k_971 rfl rfl ⟨Nat.le_of_ble_eq_true rfl, Nat.le_of_ble_eq_true rfl⟩ ⟨Nat.le_of_ble_eq_true rfl, Nat.le_of_ble_eq_true rfl⟩ (Nat.le_of_ble_eq_true rfl) dX12_busiest_11 (ct_X12_isIn  h) (fun z_1 st_2 h => ?_)
  refine J_if_ne 23 dX12_busiest_14 (by decide) (fun hc => ?_) (fun hc => ?_)
  · have h := h.1 hc
    refine J_iconst (-1) dX12_busiest_23 (by decide) ?_
    refine J_istore_n _ dX12_busiest_24 rfl (by decide) rfl ?_
    refine J_iconst 0 dX12_busiest_25 (by decide) ?_
    refine J_istore_n _ dX12_busiest_26 rfl (by decide) rfl ?_
    refine J_iconst 0 dX12_busiest_27 (by decide) ?_
    refine J_istore _ dX12_busiest_28 (by decide) rfl ?_
    obtain ⟨n8, h⟩ := h
    exact J_lv [3, 4, 2, 1, 0] rfl (K_X12_busiest_30   a0 a1  n8 (-1) 0 0 st_2 h)
  · have h := h.2 hc
    refine J_aload_n 0 dX12_busiest_17 rfl rfl ?_
    refine J_iconst 1 dX12_busiest_18 (by decide) ?_
    obtain ⟨ho, h⟩ := h
    refine J_cvi (As := [_]) md_X12_fail k_1093 (rc_obj cl_12 ho) rfl rfl ⟨Nat.le_of_ble_eq_true rfl, Nat.le_of_ble_eq_true rfl⟩ ⟨Nat.le_of_ble_eq_true rfl, Nat.le_of_ble_eq_true rfl⟩ (Nat.le_of_ble_eq_true rfl) dX12_busiest_19 (ct_X12_fail  h) (fun z_3 st_4 h => ?_)
    exact J_reti rfl dX12_busiest_22 h
/-! X12_crowd -/
def P_X12_crowd_167  (a0 : Nat) (a1 : Int32)  (post : Int32 → St → Prop) (s0 : Int32) (st : St) : Prop := post s0 st
def P_X12_crowd_152  (a0 : Nat) (a1 : Int32) (k27 : Int32 → Int32 → Int32 → St → Prop) (post : Int32 → St → Prop) (x2 : Int32) (x3 : Int32) (x4 : Int32) (st : St) : Prop := k27 x2 x3 (x4 + 1) st
def P_X12_crowd_141  (a0 : Nat) (a1 : Int32) (k27 : Int32 → Int32 → Int32 → St → Prop) (post : Int32 → St → Prop) (x4 : Int32) (x5 : Int32) (st : St) : Prop := ∃ r_1, rv st a0 12 31 = some r_1 ∧ vp_in x4 (al 0 r_1) ∧ P_X12_crowd_152  a0 a1 k27 post (gA st r_1 (x4 : Int32).toNatClampNeg) x5 x4 st
def P_X12_crowd_101  (a0 : Nat) (a1 : Int32) (k44 : Int32 → Int32 → Int32 → Int32 → Int32 → St → Prop) (post : Int32 → St → Prop) (x2 : Int32) (x3 : Int32) (x4 : Int32) (x6 : Int32) (s0 : Int32) (s1 : Int32) (st : St) : Prop := k44 x2 x3 x4 (s1 + s0) (x6 + 1) st
def P_X12_crowd_100  (a0 : Nat) (a1 : Int32) (k44 : Int32 → Int32 → Int32 → Int32 → Int32 → St → Prop) (post : Int32 → St → Prop) (x2 : Int32) (x3 : Int32) (x4 : Int32) (x6 : Int32) (s0 : Int32) (st : St) : Prop := P_X12_crowd_101  a0 a1 k44 post x2 x3 x4 x6 0 s0 st
def P_X12_crowd_44  (a0 : Nat) (a1 : Int32) (k27 : Int32 → Int32 → Int32 → St → Prop) (post : Int32 → St → Prop) : Nat → Int32 → Int32 → Int32 → Int32 → Int32 → St → Prop
  | 0, _, _, _, _, _, _ => False
  | n9 + 1, x2, x3, x4, x5, x6, st => ∃ r_1, rv st a0 12 5 = some r_1 ∧ vp_in 1 (al 0 r_1) ∧ (((gA st r_1 (1 : Int32).toNatClampNeg) ≤ x6 → ((x5 < x3 → P_X12_crowd_152  a0 a1 k27 post x2 x3 x4 st) ∧ (¬ x5 < x3 → ((x5 = 0 → P_X12_crowd_152  a0 a1 k27 post x2 x3 x4 st) ∧ (¬ x5 = 0 → ((¬ x5 = x3 → P_X12_crowd_141  a0 a1 k27 post x4 x5 st) ∧ (x5 = x3 → ∃ r_2, rv st a0 12 31 = some r_2 ∧ vp_in x4 (al 0 r_2) ∧ (((gA st r_2 (x4 : Int32).toNatClampNeg) < x2 → P_X12_crowd_141  a0 a1 k27 post x4 x5 st) ∧ (¬ (gA st r_2 (x4 : Int32).toNatClampNeg) < x2 → P_X12_crowd_152  a0 a1 k27 post x2 x3 x4 st))))))))) ∧ (¬ (gA st r_1 (1 : Int32).toNatClampNeg) ≤ x6 → ∃ r_3, rv st a0 12 32 = some r_3 ∧ vp_in x4 (al 0 r_3) ∧ ((¬ (gA st r_3 (x4 : Int32).toNatClampNeg) = 1 → P_X12_crowd_100  a0 a1 (fun x2 x3 x4 x5 x6 st => P_X12_crowd_44  a0 a1 k27 post n9 x2 x3 x4 x5 x6 st) post x2 x3 x4 x6 x5 st) ∧ ((gA st r_3 (x4 : Int32).toNatClampNeg) = 1 → ∃ r_4, rv st a0 12 32 = some r_4 ∧ vp_in x6 (al 0 r_4) ∧ ((¬ (gA st r_4 (x6 : Int32).toNatClampNeg) = 1 → P_X12_crowd_100  a0 a1 (fun x2 x3 x4 x5 x6 st => P_X12_crowd_44  a0 a1 k27 post n9 x2 x3 x4 x5 x6 st) post x2 x3 x4 x6 x5 st) ∧ ((gA st r_4 (x6 : Int32).toNatClampNeg) = 1 → ∃ r_5, rv st a0 12 31 = some r_5 ∧ vp_in x6 (al 0 r_5) ∧ ∃ r_6, rv st a0 12 31 = some r_6 ∧ vp_in x4 (al 0 r_6) ∧ ((¬ (gA st r_5 (x6 : Int32).toNatClampNeg) = (gA st r_6 (x4 : Int32).toNatClampNeg) → P_X12_crowd_100  a0 a1 (fun x2 x3 x4 x5 x6 st => P_X12_crowd_44  a0 a1 k27 post n9 x2 x3 x4 x5 x6 st) post x2 x3 x4 x6 x5 st) ∧ ((gA st r_5 (x6 : Int32).toNatClampNeg) = (gA st r_6 (x4 : Int32).toNatClampNeg) → P_X12_crowd_101  a0 a1 (fun x2 x3 x4 x5 x6 st => P_X12_crowd_44  a0 a1 k27 post n9 x2 x3 x4 x5 x6 st) post x2 x3 x4 x6 1 x5 st))))))))
def P_X12_crowd_27  (a0 : Nat) (a1 : Int32)  (post : Int32 → St → Prop) : Nat → Int32 → Int32 → Int32 → St → Prop
  | 0, _, _, _, _ => False
  | n9 + 1, x2, x3, x4, st => ∃ r_1, rv st a0 12 5 = some r_1 ∧ vp_in 1 (al 0 r_1) ∧ (((gA st r_1 (1 : Int32).toNatClampNeg) ≤ x4 → ((¬ a1 = 0 → P_X12_crowd_167  a0 a1  post x3 st) ∧ (a1 = 0 → P_X12_crowd_167  a0 a1  post x2 st))) ∧ (¬ (gA st r_1 (1 : Int32).toNatClampNeg) ≤ x4 → ∃ n8, P_X12_crowd_44  a0 a1 (fun x2 x3 x4 st => P_X12_crowd_27  a0 a1  post n9 x2 x3 x4 st) post n8 x2 x3 x4 0 0 st))
def P_X12_crowd_14  (a0 : Nat) (a1 : Int32)  (post : Int32 → St → Prop)  (st : St) : Prop := oC a0 12 ∧ P_X12_fail  a0 1 st (fun z_1 st_2 => post z_1 st_2)
def P_X12_crowd  (a0 : Nat) (a1 : Int32) (st : St) (post : Int32 → St → Prop) : Prop := fk a0 12 4 = some 0 ∧ ((a1 < 0 → P_X12_crowd_14  a0 a1  post (sI st a0 4 0)) ∧ (¬ a1 < 0 → ((a1 ≤ 1 → ∃ n8, P_X12_crowd_27  a0 a1  post n8 (-1) 0 0 (sI st a0 4 0)) ∧ (¬ a1 ≤ 1 → P_X12_crowd_14  a0 a1  post (sI st a0 4 0)))))
set_option maxRecDepth 100000 in
set_option maxHeartbeats 4000000 in
theorem K_X12_crowd_167 {l : Launch} {E : En}   (a0 : Nat) (a1 : Int32)  {post : Int32 → St → Prop}   (s0 : Int32) (st : St) (h : P_X12_crowd_167  a0 a1  post s0 st) : Jg l E (CFc E) (Rm 2 0 0) cX12_crowd 7 RX12 (some .int) (fun _ => True) (QI E post 0 0) 0 0 167 [(0, .ref a0), (1, .int a1)] [.int s0] st := by
  unfold P_X12_crowd_167 at h
  exact J_reti rfl dX12_crowd_167 h
set_option maxRecDepth 100000 in
set_option maxHeartbeats 4000000 in
theorem K_X12_crowd_152 {l : Launch} {E : En}   (a0 : Nat) (a1 : Int32) {k27 : Int32 → Int32 → Int32 → St → Prop} {post : Int32 → St → Prop}  (hk27 : ∀ (x2 : Int32) (x3 : Int32) (x4 : Int32) (st : St), k27 x2 x3 x4 st → Jg l E (CFc E) (Rm 2 0 0) cX12_crowd 7 RX12 (some .int) (fun _ => True) (QI E post 0 0) 0 0 27 [(0, .ref a0), (1, .int a1), (2, .int x2), (3, .int x3), (4, .int x4)] [] st) (x2 : Int32) (x3 : Int32) (x4 : Int32) (st : St) (h : P_X12_crowd_152  a0 a1 k27 post x2 x3 x4 st) : Jg l E (CFc E) (Rm 2 0 0) cX12_crowd 7 RX12 (some .int) (fun _ => True) (QI E post 0 0) 0 0 152 [(0, .ref a0), (1, .int a1), (2, .int x2), (3, .int x3), (4, .int x4)] [] st := by
  unfold P_X12_crowd_152 at h
  refine J_iinc 4 (x4 + 1) _ dX12_crowd_152 rfl (by rfl) (by decide) rfl ?_
  refine J_goto 27 dX12_crowd_155 (by decide) ?_
  exact J_lv [1, 2, 3, 4, 0] rfl (hk27 x2 x3 (x4 + 1) st h)
set_option maxRecDepth 100000 in
set_option maxHeartbeats 4000000 in
theorem K_X12_crowd_141 {l : Launch} {E : En}   (a0 : Nat) (a1 : Int32) {k27 : Int32 → Int32 → Int32 → St → Prop} {post : Int32 → St → Prop}  (hk27 : ∀ (x2 : Int32) (x3 : Int32) (x4 : Int32) (st : St), k27 x2 x3 x4 st → Jg l E (CFc E) (Rm 2 0 0) cX12_crowd 7 RX12 (some .int) (fun _ => True) (QI E post 0 0) 0 0 27 [(0, .ref a0), (1, .int a1), (2, .int x2), (3, .int x3), (4, .int x4)] [] st) (x4 : Int32) (x5 : Int32) (st : St) (h : P_X12_crowd_141  a0 a1 k27 post x4 x5 st) : Jg l E (CFc E) (Rm 2 0 0) cX12_crowd 7 RX12 (some .int) (fun _ => True) (QI E post 0 0) 0 0 141 [(0, .ref a0), (1, .int a1), (4, .int x4), (5, .int x5)] [] st := by
  unfold P_X12_crowd_141 at h
  refine J_aload_n 0 dX12_crowd_141 rfl rfl ?_
  obtain ⟨r_1, hf, h⟩ := h
  refine J_getR fl_RX12_96 dX12_crowd_142 hf ?_
  refine J_iload 2 dX12_crowd_145 rfl ?_
  obtain ⟨hi, h⟩ := h
  refine J_iald dX12_crowd_147 hi ?_
  refine J_istore_n _ dX12_crowd_148 rfl (by decide) rfl ?_
  refine J_iload 4 dX12_crowd_149 rfl ?_
  refine J_istore_n _ dX12_crowd_151 rfl (by decide) rfl ?_
  exact J_lv [2, 3, 1, 0, 4] rfl (K_X12_crowd_152   a0 a1 hk27 (gA st r_1 (x4 : Int32).toNatClampNeg) x5 x4 st h)
set_option maxRecDepth 100000 in
set_option maxHeartbeats 4000000 in
theorem K_X12_crowd_101 {l : Launch} {E : En}   (a0 : Nat) (a1 : Int32) {k44 : Int32 → Int32 → Int32 → Int32 → Int32 → St → Prop} {post : Int32 → St → Prop}  (hk44 : ∀ (x2 : Int32) (x3 : Int32) (x4 : Int32) (x5 : Int32) (x6 : Int32) (st : St), k44 x2 x3 x4 x5 x6 st → Jg l E (CFc E) (Rm 2 0 0) cX12_crowd 7 RX12 (some .int) (fun _ => True) (QI E post 0 0) 0 0 44 [(0, .ref a0), (1, .int a1), (2, .int x2), (3, .int x3), (4, .int x4), (5, .int x5), (6, .int x6)] [] st) (x2 : Int32) (x3 : Int32) (x4 : Int32) (x6 : Int32) (s0 : Int32) (s1 : Int32) (st : St) (h : P_X12_crowd_101  a0 a1 k44 post x2 x3 x4 x6 s0 s1 st) : Jg l E (CFc E) (Rm 2 0 0) cX12_crowd 7 RX12 (some .int) (fun _ => True) (QI E post 0 0) 0 0 101 [(0, .ref a0), (1, .int a1), (2, .int x2), (3, .int x3), (4, .int x4), (6, .int x6)] [.int s0, .int s1] st := by
  unfold P_X12_crowd_101 at h
  refine J_iadd dX12_crowd_101 ?_
  refine J_istore _ dX12_crowd_102 (by decide) rfl ?_
  refine J_iinc 6 (x6 + 1) _ dX12_crowd_104 rfl (by rfl) (by decide) rfl ?_
  refine J_goto 44 dX12_crowd_107 (by decide) ?_
  exact J_lv [2, 3, 4, 5, 6, 1, 0] rfl (hk44 x2 x3 x4 (s1 + s0) (x6 + 1) st h)
set_option maxRecDepth 100000 in
set_option maxHeartbeats 4000000 in
theorem K_X12_crowd_100 {l : Launch} {E : En}   (a0 : Nat) (a1 : Int32) {k44 : Int32 → Int32 → Int32 → Int32 → Int32 → St → Prop} {post : Int32 → St → Prop}  (hk44 : ∀ (x2 : Int32) (x3 : Int32) (x4 : Int32) (x5 : Int32) (x6 : Int32) (st : St), k44 x2 x3 x4 x5 x6 st → Jg l E (CFc E) (Rm 2 0 0) cX12_crowd 7 RX12 (some .int) (fun _ => True) (QI E post 0 0) 0 0 44 [(0, .ref a0), (1, .int a1), (2, .int x2), (3, .int x3), (4, .int x4), (5, .int x5), (6, .int x6)] [] st) (x2 : Int32) (x3 : Int32) (x4 : Int32) (x6 : Int32) (s0 : Int32) (st : St) (h : P_X12_crowd_100  a0 a1 k44 post x2 x3 x4 x6 s0 st) : Jg l E (CFc E) (Rm 2 0 0) cX12_crowd 7 RX12 (some .int) (fun _ => True) (QI E post 0 0) 0 0 100 [(0, .ref a0), (1, .int a1), (2, .int x2), (3, .int x3), (4, .int x4), (6, .int x6)] [.int s0] st := by
  unfold P_X12_crowd_100 at h
  refine J_iconst 0 dX12_crowd_100 (by decide) ?_
  exact J_lv [0, 1, 2, 3, 4, 5] rfl (K_X12_crowd_101   a0 a1 hk44 x2 x3 x4 x6 0 s0 st h)
set_option maxRecDepth 100000 in
set_option maxHeartbeats 4000000 in
theorem K_X12_crowd_44 {l : Launch} {E : En}   (a0 : Nat) (a1 : Int32) {k27 : Int32 → Int32 → Int32 → St → Prop} {post : Int32 → St → Prop}  (hk27 : ∀ (x2 : Int32) (x3 : Int32) (x4 : Int32) (st : St), k27 x2 x3 x4 st → Jg l E (CFc E) (Rm 2 0 0) cX12_crowd 7 RX12 (some .int) (fun _ => True) (QI E post 0 0) 0 0 27 [(0, .ref a0), (1, .int a1), (2, .int x2), (3, .int x3), (4, .int x4)] [] st) : ∀ (n9 : Nat) (x2 : Int32) (x3 : Int32) (x4 : Int32) (x5 : Int32) (x6 : Int32) (st : St), P_X12_crowd_44  a0 a1 k27 post n9 x2 x3 x4 x5 x6 st → Jg l E (CFc E) (Rm 2 0 0) cX12_crowd 7 RX12 (some .int) (fun _ => True) (QI E post 0 0) 0 0 44 [(0, .ref a0), (1, .int a1), (2, .int x2), (3, .int x3), (4, .int x4), (5, .int x5), (6, .int x6)] [] st := by
  intro n9
  induction n9 with
  | zero => intro x2 x3 x4 x5 x6 st h; exact h.elim
  | succ n9 ih =>
    intro x2 x3 x4 x5 x6 st h
    unfold P_X12_crowd_44 at h
    refine J_iload 6 dX12_crowd_44 rfl ?_
    refine J_aload_n 0 dX12_crowd_46 rfl rfl ?_
    obtain ⟨r_1, hf, h⟩ := h
    refine J_getR fl_RX12_48 dX12_crowd_47 hf ?_
    refine J_iconst 1 dX12_crowd_50 (by decide) ?_
    obtain ⟨hi, h⟩ := h
    refine J_iald dX12_crowd_51 hi ?_
    refine J_icmp_ge 110 dX12_crowd_52 (by decide) (fun hc => ?_) (fun hc => ?_)
    · have h := h.1 hc
      refine J_iload 5 dX12_crowd_110 rfl ?_
      refine J_iload_n 3 dX12_crowd_112 rfl rfl ?_
      refine J_icmp_lt 152 dX12_crowd_113 (by decide) (fun hc => ?_) (fun hc => ?_)
      · have h := h.1 hc
        exact J_lv [0, 1, 2, 3, 4] rfl (K_X12_crowd_152   a0 a1 hk27 x2 x3 x4 st h)
      · have h := h.2 hc
        refine J_iload 5 dX12_crowd_116 rfl ?_
        refine J_if_eq 152 dX12_crowd_118 (by decide) (fun hc => ?_) (fun hc => ?_)
        · have h := h.1 hc
          exact J_lv [0, 1, 2, 3, 4] rfl (K_X12_crowd_152   a0 a1 hk27 x2 x3 x4 st h)
        · have h := h.2 hc
          refine J_iload 5 dX12_crowd_121 rfl ?_
          refine J_iload_n 3 dX12_crowd_123 rfl rfl ?_
          refine J_icmp_ne 141 dX12_crowd_124 (by decide) (fun hc => ?_) (fun hc => ?_)
          · have h := h.1 hc
            exact J_lv [0, 1, 4, 5] rfl (K_X12_crowd_141   a0 a1 hk27 x4 x5 st h)
          · have h := h.2 hc
            refine J_aload_n 0 dX12_crowd_127 rfl rfl ?_
            obtain ⟨r_2, hf, h⟩ := h
            refine J_getR fl_RX12_96 dX12_crowd_128 hf ?_
            refine J_iload 4 dX12_crowd_131 rfl ?_
            obtain ⟨hi, h⟩ := h
            refine J_iald dX12_crowd_133 hi ?_
            refine J_iload_n 2 dX12_crowd_134 rfl rfl ?_
            refine J_icmp_lt 141 dX12_crowd_135 (by decide) (fun hc => ?_) (fun hc => ?_)
            · have h := h.1 hc
              exact J_lv [0, 1, 4, 5] rfl (K_X12_crowd_141   a0 a1 hk27 x4 x5 st h)
            · have h := h.2 hc
              refine J_goto 152 dX12_crowd_138 (by decide) ?_
              exact J_lv [0, 1, 2, 3, 4] rfl (K_X12_crowd_152   a0 a1 hk27 x2 x3 x4 st h)
    · have h := h.2 hc
      refine J_iload 5 dX12_crowd_55 rfl ?_
      refine J_aload_n 0 dX12_crowd_57 rfl rfl ?_
      obtain ⟨r_3, hf, h⟩ := h
      refine J_getR fl_RX12_99 dX12_crowd_58 hf ?_
      refine J_iload 4 dX12_crowd_61 rfl ?_
      obtain ⟨hi, h⟩ := h
      refine J_iald dX12_crowd_63 hi ?_
      refine J_iconst 1 dX12_crowd_64 (by decide) ?_
      refine J_icmp_ne 100 dX12_crowd_65 (by decide) (fun hc => ?_) (fun hc => ?_)
      · have h := h.1 hc
        exact J_lv [0, 1, 2, 3, 4, 6] rfl (K_X12_crowd_100   a0 a1 (fun x2 x3 x4 x5 x6 st h => ih x2 x3 x4 x5 x6 st h) x2 x3 x4 x6 x5 st h)
      · have h := h.2 hc
        refine J_aload_n 0 dX12_crowd_68 rfl rfl ?_
        obtain ⟨r_4, hf, h⟩ := h
        refine J_getR fl_RX12_99 dX12_crowd_69 hf ?_
        refine J_iload 6 dX12_crowd_72 rfl ?_
        obtain ⟨hi, h⟩ := h
        refine J_iald dX12_crowd_74 hi ?_
        refine J_iconst 1 dX12_crowd_75 (by decide) ?_
        refine J_icmp_ne 100 dX12_crowd_76 (by decide) (fun hc => ?_) (fun hc => ?_)
        · have h := h.1 hc
          exact J_lv [0, 1, 2, 3, 4, 6] rfl (K_X12_crowd_100   a0 a1 (fun x2 x3 x4 x5 x6 st h => ih x2 x3 x4 x5 x6 st h) x2 x3 x4 x6 x5 st h)
        · have h := h.2 hc
          refine J_aload_n 0 dX12_crowd_79 rfl rfl ?_
          obtain ⟨r_5, hf, h⟩ := h
          refine J_getR fl_RX12_96 dX12_crowd_80 hf ?_
          refine J_iload 6 dX12_crowd_83 rfl ?_
          obtain ⟨hi, h⟩ := h
          refine J_iald dX12_crowd_85 hi ?_
          refine J_aload_n 0 dX12_crowd_86 rfl rfl ?_
          obtain ⟨r_6, hf, h⟩ := h
          refine J_getR fl_RX12_96 dX12_crowd_87 hf ?_
          refine J_iload 4 dX12_crowd_90 rfl ?_
          obtain ⟨hi, h⟩ := h
          refine J_iald dX12_crowd_92 hi ?_
          refine J_icmp_ne 100 dX12_crowd_93 (by decide) (fun hc => ?_) (fun hc => ?_)
          · have h := h.1 hc
            exact J_lv [0, 1, 2, 3, 4, 6] rfl (K_X12_crowd_100   a0 a1 (fun x2 x3 x4 x5 x6 st h => ih x2 x3 x4 x5 x6 st h) x2 x3 x4 x6 x5 st h)
          · have h := h.2 hc
            refine J_iconst 1 dX12_crowd_96 (by decide) ?_
            refine J_goto 101 dX12_crowd_97 (by decide) ?_
            exact J_lv [0, 1, 2, 3, 4, 6] rfl (K_X12_crowd_101   a0 a1 (fun x2 x3 x4 x5 x6 st h => ih x2 x3 x4 x5 x6 st h) x2 x3 x4 x6 1 x5 st h)
set_option maxRecDepth 100000 in
set_option maxHeartbeats 4000000 in
theorem K_X12_crowd_27 {l : Launch} {E : En}   (a0 : Nat) (a1 : Int32)  {post : Int32 → St → Prop}   : ∀ (n9 : Nat) (x2 : Int32) (x3 : Int32) (x4 : Int32) (st : St), P_X12_crowd_27  a0 a1  post n9 x2 x3 x4 st → Jg l E (CFc E) (Rm 2 0 0) cX12_crowd 7 RX12 (some .int) (fun _ => True) (QI E post 0 0) 0 0 27 [(0, .ref a0), (1, .int a1), (2, .int x2), (3, .int x3), (4, .int x4)] [] st := by
  intro n9
  induction n9 with
  | zero => intro x2 x3 x4 st h; exact h.elim
  | succ n9 ih =>
    intro x2 x3 x4 st h
    unfold P_X12_crowd_27 at h
    refine J_iload 4 dX12_crowd_27 rfl ?_
    refine J_aload_n 0 dX12_crowd_29 rfl rfl ?_
    obtain ⟨r_1, hf, h⟩ := h
    refine J_getR fl_RX12_48 dX12_crowd_30 hf ?_
    refine J_iconst 1 dX12_crowd_33 (by decide) ?_
    obtain ⟨hi, h⟩ := h
    refine J_iald dX12_crowd_34 hi ?_
    refine J_icmp_ge 158 dX12_crowd_35 (by decide) (fun hc => ?_) (fun hc => ?_)
    · have h := h.1 hc
      refine J_iload_n 1 dX12_crowd_158 rfl rfl ?_
      refine J_if_ne 166 dX12_crowd_159 (by decide) (fun hc => ?_) (fun hc => ?_)
      · have h := h.1 hc
        refine J_iload_n 3 dX12_crowd_166 rfl rfl ?_
        exact J_lv [0, 1] rfl (K_X12_crowd_167   a0 a1  x3 st h)
      · have h := h.2 hc
        refine J_iload_n 2 dX12_crowd_162 rfl rfl ?_
        refine J_goto 167 dX12_crowd_163 (by decide) ?_
        exact J_lv [0, 1] rfl (K_X12_crowd_167   a0 a1  x2 st h)
    · have h := h.2 hc
      refine J_iconst 0 dX12_crowd_38 (by decide) ?_
      refine J_istore _ dX12_crowd_39 (by decide) rfl ?_
      refine J_iconst 0 dX12_crowd_41 (by decide) ?_
      refine J_istore _ dX12_crowd_42 (by decide) rfl ?_
      obtain ⟨n8, h⟩ := h
      exact J_lv [2, 3, 4, 5, 6, 1, 0] rfl (K_X12_crowd_44   a0 a1 (fun x2 x3 x4 st h => ih x2 x3 x4 st h) n8 x2 x3 x4 0 0 st h)
set_option maxRecDepth 100000 in
set_option maxHeartbeats 4000000 in
theorem K_X12_crowd_14 {l : Launch} {E : En}   (a0 : Nat) (a1 : Int32)  {post : Int32 → St → Prop}    (st : St) (h : P_X12_crowd_14  a0 a1  post  st) : Jg l E (CFc E) (Rm 2 0 0) cX12_crowd 7 RX12 (some .int) (fun _ => True) (QI E post 0 0) 0 0 14 [(0, .ref a0), (1, .int a1)] [] st := by
  unfold P_X12_crowd_14 at h
  refine J_aload_n 0 dX12_crowd_14 rfl rfl ?_
  refine J_iconst 1 dX12_crowd_15 (by decide) ?_
  obtain ⟨ho, h⟩ := h
  refine J_cvi (As := [_]) md_X12_fail k_1093 (rc_obj cl_12 ho) rfl rfl ⟨Nat.le_of_ble_eq_true rfl, Nat.le_of_ble_eq_true rfl⟩ ⟨Nat.le_of_ble_eq_true rfl, Nat.le_of_ble_eq_true rfl⟩ (Nat.le_of_ble_eq_true rfl) dX12_crowd_16 (ct_X12_fail  h) (fun z_1 st_2 h => ?_)
  exact J_reti rfl dX12_crowd_19 h
set_option maxRecDepth 100000 in
set_option maxHeartbeats 4000000 in
theorem ct_X12_crowd {l : Launch} {E : En}  {a0 : Nat} {a1 : Int32} {st : St} {post : Int32 → St → Prop} (h : P_X12_crowd  a0 a1 st post) : CtI l E (CFc E) 2 0 0 yX12_crowd cX12_crowd 7 (some .int) [.ref a0, .int a1] st post := by
  refine ctI_of (by decide) (Nat.le_of_ble_eq_true rfl) ?_
  show Jg l E (CFc E) (Rm 2 0 0) cX12_crowd 7 RX12 (some .int) (fun _ => True) (QI E post 0 0) 0 0 0 [(0, .ref a0), (1, .int a1)] [] st
  unfold P_X12_crowd at h
  refine J_aload_n 0 dX12_crowd_0 rfl rfl ?_
  refine J_iconst 0 dX12_crowd_1 (by decide) ?_
  obtain ⟨hf, h⟩ := h
  refine J_putI fp_RX12_184 dX12_crowd_2 rfl hf ?_
  refine J_iload_n 1 dX12_crowd_5 rfl rfl ?_
  refine J_if_lt 14 dX12_crowd_6 (by decide) (fun hc => ?_) (fun hc => ?_)
  · have h := h.1 hc
    exact J_lv [0, 1] rfl (K_X12_crowd_14   a0 a1  (sI st a0 4 0) h)
  · have h := h.2 hc
    refine J_iload_n 1 dX12_crowd_9 rfl rfl ?_
    refine J_iconst 1 dX12_crowd_10 (by decide) ?_
    refine J_icmp_le 20 dX12_crowd_11 (by decide) (fun hc => ?_) (fun hc => ?_)
    · have h := h.1 hc
      refine J_iconst (-1) dX12_crowd_20 (by decide) ?_
      refine J_istore_n _ dX12_crowd_21 rfl (by decide) rfl ?_
      refine J_iconst 0 dX12_crowd_22 (by decide) ?_
      refine J_istore_n _ dX12_crowd_23 rfl (by decide) rfl ?_
      refine J_iconst 0 dX12_crowd_24 (by decide) ?_
      refine J_istore _ dX12_crowd_25 (by decide) rfl ?_
      obtain ⟨n8, h⟩ := h
      exact J_lv [3, 4, 2, 1, 0] rfl (K_X12_crowd_27   a0 a1  n8 (-1) 0 0 (sI st a0 4 0) h)
    · have h := h.2 hc
      exact J_lv [0, 1] rfl (K_X12_crowd_14   a0 a1  (sI st a0 4 0) h)
/-! X12_common -/
def P_X12_common_40  (a0 : Nat) (a1 : Int32) (a2 : Int32)  (post : Int32 → St → Prop) (s0 : Int32) (st : St) : Prop := post s0 st
def P_X12_common_35  (a0 : Nat) (a1 : Int32) (a2 : Int32)  (post : Int32 → St → Prop)  (st : St) : Prop := oC a0 12 ∧ P_X12_fail  a0 1 st (fun z_1 st_2 => P_X12_common_40  a0 a1 a2  post z_1 st_2)
def P_X12_common  (a0 : Nat) (a1 : Int32) (a2 : Int32) (st : St) (post : Int32 → St → Prop) : Prop := fk a0 12 4 = some 0 ∧ oC a0 12 ∧ P_X12_isPerson  a0 a1 (sI st a0 4 0) (fun z_1 st_2 => ((z_1 = 0 → P_X12_common_35  a0 a1 a2  post st_2) ∧ (¬ z_1 = 0 → oC a0 12 ∧ P_X12_isPerson  a0 a2 st_2 (fun z_3 st_4 => ((z_3 = 0 → P_X12_common_35  a0 a1 a2  post st_4) ∧ (¬ z_3 = 0 → oC a0 12 ∧ P_X12_tiesOf  a0 a1 st_4 (fun z_5 st_6 => oC a0 12 ∧ P_X12_tiesOf  a0 a2 st_6 (fun z_7 st_8 => P_X12_common_40  a0 a1 a2  post (z_5 &&& z_7) st_8))))))))
set_option maxRecDepth 100000 in
set_option maxHeartbeats 4000000 in
theorem K_X12_common_40 {l : Launch} {E : En}   (a0 : Nat) (a1 : Int32) (a2 : Int32)  {post : Int32 → St → Prop}   (s0 : Int32) (st : St) (h : P_X12_common_40  a0 a1 a2  post s0 st) : Jg l E (CFc E) (Rm 3 0 0) cX12_common 3 RX12 (some .int) (fun _ => True) (QI E post 0 0) 0 0 40 [(0, .ref a0), (1, .int a1), (2, .int a2)] [.int s0] st := by
  unfold P_X12_common_40 at h
  exact J_reti rfl dX12_common_40 h
set_option maxRecDepth 100000 in
set_option maxHeartbeats 4000000 in
theorem K_X12_common_35 {l : Launch} {E : En}   (a0 : Nat) (a1 : Int32) (a2 : Int32)  {post : Int32 → St → Prop}    (st : St) (h : P_X12_common_35  a0 a1 a2  post  st) : Jg l E (CFc E) (Rm 3 0 0) cX12_common 3 RX12 (some .int) (fun _ => True) (QI E post 0 0) 0 0 35 [(0, .ref a0), (1, .int a1), (2, .int a2)] [] st := by
  unfold P_X12_common_35 at h
  refine J_aload_n 0 dX12_common_35 rfl rfl ?_
  refine J_iconst 1 dX12_common_36 (by decide) ?_
  obtain ⟨ho, h⟩ := h
  refine J_cvi (As := [_]) md_X12_fail k_1093 (rc_obj cl_12 ho) rfl rfl ⟨Nat.le_of_ble_eq_true rfl, Nat.le_of_ble_eq_true rfl⟩ ⟨Nat.le_of_ble_eq_true rfl, Nat.le_of_ble_eq_true rfl⟩ (Nat.le_of_ble_eq_true rfl) dX12_common_37 (ct_X12_fail  h) (fun z_1 st_2 h => ?_)
  exact J_lv [0, 1, 2] rfl (K_X12_common_40   a0 a1 a2  z_1 st_2 h)
set_option maxRecDepth 100000 in
set_option maxHeartbeats 4000000 in
theorem ct_X12_common {l : Launch} {E : En}  {a0 : Nat} {a1 : Int32} {a2 : Int32} {st : St} {post : Int32 → St → Prop} (h : P_X12_common  a0 a1 a2 st post) : CtI l E (CFc E) 3 0 0 yX12_common cX12_common 3 (some .int) [.ref a0, .int a1, .int a2] st post := by
  refine ctI_of (by decide) (Nat.le_of_ble_eq_true rfl) ?_
  show Jg l E (CFc E) (Rm 3 0 0) cX12_common 3 RX12 (some .int) (fun _ => True) (QI E post 0 0) 0 0 0 [(0, .ref a0), (1, .int a1), (2, .int a2)] [] st
  unfold P_X12_common at h
  refine J_aload_n 0 dX12_common_0 rfl rfl ?_
  refine J_iconst 0 dX12_common_1 (by decide) ?_
  obtain ⟨hf, h⟩ := h
  refine J_putI fp_RX12_184 dX12_common_2 rfl hf ?_
  refine J_aload_n 0 dX12_common_5 rfl rfl ?_
  refine J_iload_n 1 dX12_common_6 rfl rfl ?_
  obtain ⟨ho, h⟩ := h
  refine J_cvi (As := [_]) md_X12_isPerson k_1167 (rc_obj cl_12 ho) rfl rfl ⟨Nat.le_of_ble_eq_true rfl, Nat.le_of_ble_eq_true rfl⟩ ⟨Nat.le_of_ble_eq_true rfl, Nat.le_of_ble_eq_true rfl⟩ (Nat.le_of_ble_eq_true rfl) dX12_common_7 (ct_X12_isPerson  h) (fun z_1 st_2 h => ?_)
  refine J_if_eq 35 dX12_common_10 (by decide) (fun hc => ?_) (fun hc => ?_)
  · have h := h.1 hc
    exact J_lv [0, 1, 2] rfl (K_X12_common_35   a0 a1 a2  st_2 h)
  · have h := h.2 hc
    refine J_aload_n 0 dX12_common_13 rfl rfl ?_
    refine J_iload_n 2 dX12_common_14 rfl rfl ?_
    obtain ⟨ho, h⟩ := h
    refine J_cvi (As := [_]) md_X12_isPerson k_1167 (rc_obj cl_12 ho) rfl rfl ⟨Nat.le_of_ble_eq_true rfl, Nat.le_of_ble_eq_true rfl⟩ ⟨Nat.le_of_ble_eq_true rfl, Nat.le_of_ble_eq_true rfl⟩ (Nat.le_of_ble_eq_true rfl) dX12_common_15 (ct_X12_isPerson  h) (fun z_3 st_4 h => ?_)
    refine J_if_eq 35 dX12_common_18 (by decide) (fun hc => ?_) (fun hc => ?_)
    · have h := h.1 hc
      exact J_lv [0, 1, 2] rfl (K_X12_common_35   a0 a1 a2  st_4 h)
    · have h := h.2 hc
      refine J_aload_n 0 dX12_common_21 rfl rfl ?_
      refine J_iload_n 1 dX12_common_22 rfl rfl ?_
      obtain ⟨ho, h⟩ := h
      refine J_cvi (As := [_]) md_X12_tiesOf k_1153 (rc_obj cl_12 ho) rfl rfl ⟨Nat.le_of_ble_eq_true rfl, Nat.le_of_ble_eq_true rfl⟩ ⟨Nat.le_of_ble_eq_true rfl, Nat.le_of_ble_eq_true rfl⟩ (Nat.le_of_ble_eq_true rfl) dX12_common_23 (ct_X12_tiesOf  h) (fun z_5 st_6 h => ?_)
      refine J_aload_n 0 dX12_common_26 rfl rfl ?_
      refine J_iload_n 2 dX12_common_27 rfl rfl ?_
      obtain ⟨ho, h⟩ := h
      refine J_cvi (As := [_]) md_X12_tiesOf k_1153 (rc_obj cl_12 ho) rfl rfl ⟨Nat.le_of_ble_eq_true rfl, Nat.le_of_ble_eq_true rfl⟩ ⟨Nat.le_of_ble_eq_true rfl, Nat.le_of_ble_eq_true rfl⟩ (Nat.le_of_ble_eq_true rfl) dX12_common_28 (ct_X12_tiesOf  h) (fun z_7 st_8 h => ?_)
      refine J_iand dX12_common_31 ?_
      refine J_goto 40 dX12_common_32 (by decide) ?_
      exact J_lv [0, 1, 2] rfl (K_X12_common_40   a0 a1 a2  (z_5 &&& z_7) st_8 h)
/-! X12_see -/
def P_X12_see_63  (a0 : Nat) (a1 : Int32) (a2 : Int32) (a3 : Int32) (a4 : Int32) (a5 : Int32)  (post : Int32 → St → Prop)  (st : St) : Prop := oC a0 12 ∧ P_X12_refuse  a0 2 st (fun z_1 st_2 => post z_1 st_2)
def P_X12_see_30  (a0 : Nat) (a1 : Int32) (a2 : Int32) (a3 : Int32) (a4 : Int32) (a5 : Int32)  (post : Int32 → St → Prop)  (st : St) : Prop := oC a0 12 ∧ P_X12_fail  a0 1 st (fun z_1 st_2 => post z_1 st_2)
def P_X12_see  (a0 : Nat) (a1 : Int32) (a2 : Int32) (a3 : Int32) (a4 : Int32) (a5 : Int32) (st : St) (post : Int32 → St → Prop) : Prop := fk a0 12 4 = some 0 ∧ oC a0 12 ∧ P_X12_isBride  a0 a1 (sI st a0 4 0) (fun z_1 st_2 => ((z_1 = 0 → P_X12_see_30  a0 a1 a2 a3 a4 a5  post st_2) ∧ (¬ z_1 = 0 → oC a0 12 ∧ P_X12_isPerson  a0 a3 st_2 (fun z_3 st_4 => ((z_3 = 0 → P_X12_see_30  a0 a1 a2 a3 a4 a5  post st_4) ∧ (¬ z_3 = 0 → oC a0 12 ∧ P_X12_isPerson  a0 a4 st_4 (fun z_5 st_6 => ((¬ z_5 = 0 → fk a0 12 39 = some 0 ∧ (((gI st_6 a0 39) = 8 → P_X12_see_63  a0 a1 a2 a3 a4 a5  post st_6) ∧ (¬ (gI st_6 a0 39) = 8 → P_X12_isIn  ((a2 : Int32).toInt64) 0 20 st_6 (fun z_7 st_8 => ((z_7 = 0 → P_X12_see_63  a0 a1 a2 a3 a4 a5  post st_8) ∧ (¬ z_7 = 0 → ((¬ a3 = a4 → ∃ r_9, rv st_8 a0 12 46 = some r_9 ∧ fk a0 12 39 = some 0 ∧ vp_in (gI st_8 a0 39) (al 0 r_9) ∧ ∃ r_10, rv (sA st_8 r_9 (gI st_8 a0 39 : Int32).toNatClampNeg a1) a0 12 47 = some r_10 ∧ fk a0 12 39 = some 0 ∧ vp_in (gI (sA st_8 r_9 (gI st_8 a0 39 : Int32).toNatClampNeg a1) a0 39) (al 0 r_10) ∧ ∃ r_11, rv (sA (sA st_8 r_9 (gI st_8 a0 39 : Int32).toNatClampNeg a1) r_10 (gI (sA st_8 r_9 (gI st_8 a0 39 : Int32).toNatClampNeg a1) a0 39 : Int32).toNatClampNeg a2) a0 12 48 = some r_11 ∧ fk a0 12 39 = some 0 ∧ vp_in (gI (sA (sA st_8 r_9 (gI st_8 a0 39 : Int32).toNatClampNeg a1) r_10 (gI (sA st_8 r_9 (gI st_8 a0 39 : Int32).toNatClampNeg a1) a0 39 : Int32).toNatClampNeg a2) a0 39) (al 0 r_11) ∧ ∃ r_12, rv (sA (sA (sA st_8 r_9 (gI st_8 a0 39 : Int32).toNatClampNeg a1) r_10 (gI (sA st_8 r_9 (gI st_8 a0 39 : Int32).toNatClampNeg a1) a0 39 : Int32).toNatClampNeg a2) r_11 (gI (sA (sA st_8 r_9 (gI st_8 a0 39 : Int32).toNatClampNeg a1) r_10 (gI (sA st_8 r_9 (gI st_8 a0 39 : Int32).toNatClampNeg a1) a0 39 : Int32).toNatClampNeg a2) a0 39 : Int32).toNatClampNeg a3) a0 12 49 = some r_12 ∧ fk a0 12 39 = some 0 ∧ vp_in (gI (sA (sA (sA st_8 r_9 (gI st_8 a0 39 : Int32).toNatClampNeg a1) r_10 (gI (sA st_8 r_9 (gI st_8 a0 39 : Int32).toNatClampNeg a1) a0 39 : Int32).toNatClampNeg a2) r_11 (gI (sA (sA st_8 r_9 (gI st_8 a0 39 : Int32).toNatClampNeg a1) r_10 (gI (sA st_8 r_9 (gI st_8 a0 39 : Int32).toNatClampNeg a1) a0 39 : Int32).toNatClampNeg a2) a0 39 : Int32).toNatClampNeg a3) a0 39) (al 0 r_12) ∧ ∃ r_13, rv (sA (sA (sA (sA st_8 r_9 (gI st_8 a0 39 : Int32).toNatClampNeg a1) r_10 (gI (sA st_8 r_9 (gI st_8 a0 39 : Int32).toNatClampNeg a1) a0 39 : Int32).toNatClampNeg a2) r_11 (gI (sA (sA st_8 r_9 (gI st_8 a0 39 : Int32).toNatClampNeg a1) r_10 (gI (sA st_8 r_9 (gI st_8 a0 39 : Int32).toNatClampNeg a1) a0 39 : Int32).toNatClampNeg a2) a0 39 : Int32).toNatClampNeg a3) r_12 (gI (sA (sA (sA st_8 r_9 (gI st_8 a0 39 : Int32).toNatClampNeg a1) r_10 (gI (sA st_8 r_9 (gI st_8 a0 39 : Int32).toNatClampNeg a1) a0 39 : Int32).toNatClampNeg a2) r_11 (gI (sA (sA st_8 r_9 (gI st_8 a0 39 : Int32).toNatClampNeg a1) r_10 (gI (sA st_8 r_9 (gI st_8 a0 39 : Int32).toNatClampNeg a1) a0 39 : Int32).toNatClampNeg a2) a0 39 : Int32).toNatClampNeg a3) a0 39 : Int32).toNatClampNeg a4) a0 12 51 = some r_13 ∧ fk a0 12 39 = some 0 ∧ vp_in (gI (sA (sA (sA (sA st_8 r_9 (gI st_8 a0 39 : Int32).toNatClampNeg a1) r_10 (gI (sA st_8 r_9 (gI st_8 a0 39 : Int32).toNatClampNeg a1) a0 39 : Int32).toNatClampNeg a2) r_11 (gI (sA (sA st_8 r_9 (gI st_8 a0 39 : Int32).toNatClampNeg a1) r_10 (gI (sA st_8 r_9 (gI st_8 a0 39 : Int32).toNatClampNeg a1) a0 39 : Int32).toNatClampNeg a2) a0 39 : Int32).toNatClampNeg a3) r_12 (gI (sA (sA (sA st_8 r_9 (gI st_8 a0 39 : Int32).toNatClampNeg a1) r_10 (gI (sA st_8 r_9 (gI st_8 a0 39 : Int32).toNatClampNeg a1) a0 39 : Int32).toNatClampNeg a2) r_11 (gI (sA (sA st_8 r_9 (gI st_8 a0 39 : Int32).toNatClampNeg a1) r_10 (gI (sA st_8 r_9 (gI st_8 a0 39 : Int32).toNatClampNeg a1) a0 39 : Int32).toNatClampNeg a2) a0 39 : Int32).toNatClampNeg a3) a0 39 : Int32).toNatClampNeg a4) a0 39) (al 1 r_13) ∧ (a5 = 0 ∨ a5 = 1) ∧ fk a0 12 39 = some 0 ∧ fk a0 12 39 = some 0 ∧ fk a0 12 39 = some 0 ∧ post (gI (sI (sA (sA (sA (sA (sA st_8 r_9 (gI st_8 a0 39 : Int32).toNatClampNeg a1) r_10 (gI (sA st_8 r_9 (gI st_8 a0 39 : Int32).toNatClampNeg a1) a0 39 : Int32).toNatClampNeg a2) r_11 (gI (sA (sA st_8 r_9 (gI st_8 a0 39 : Int32).toNatClampNeg a1) r_10 (gI (sA st_8 r_9 (gI st_8 a0 39 : Int32).toNatClampNeg a1) a0 39 : Int32).toNatClampNeg a2) a0 39 : Int32).toNatClampNeg a3) r_12 (gI (sA (sA (sA st_8 r_9 (gI st_8 a0 39 : Int32).toNatClampNeg a1) r_10 (gI (sA st_8 r_9 (gI st_8 a0 39 : Int32).toNatClampNeg a1) a0 39 : Int32).toNatClampNeg a2) r_11 (gI (sA (sA st_8 r_9 (gI st_8 a0 39 : Int32).toNatClampNeg a1) r_10 (gI (sA st_8 r_9 (gI st_8 a0 39 : Int32).toNatClampNeg a1) a0 39 : Int32).toNatClampNeg a2) a0 39 : Int32).toNatClampNeg a3) a0 39 : Int32).toNatClampNeg a4) r_13 (gI (sA (sA (sA (sA st_8 r_9 (gI st_8 a0 39 : Int32).toNatClampNeg a1) r_10 (gI (sA st_8 r_9 (gI st_8 a0 39 : Int32).toNatClampNeg a1) a0 39 : Int32).toNatClampNeg a2) r_11 (gI (sA (sA st_8 r_9 (gI st_8 a0 39 : Int32).toNatClampNeg a1) r_10 (gI (sA st_8 r_9 (gI st_8 a0 39 : Int32).toNatClampNeg a1) a0 39 : Int32).toNatClampNeg a2) a0 39 : Int32).toNatClampNeg a3) r_12 (gI (sA (sA (sA st_8 r_9 (gI st_8 a0 39 : Int32).toNatClampNeg a1) r_10 (gI (sA st_8 r_9 (gI st_8 a0 39 : Int32).toNatClampNeg a1) a0 39 : Int32).toNatClampNeg a2) r_11 (gI (sA (sA st_8 r_9 (gI st_8 a0 39 : Int32).toNatClampNeg a1) r_10 (gI (sA st_8 r_9 (gI st_8 a0 39 : Int32).toNatClampNeg a1) a0 39 : Int32).toNatClampNeg a2) a0 39 : Int32).toNatClampNeg a3) a0 39 : Int32).toNatClampNeg a4) a0 39 : Int32).toNatClampNeg a5) a0 39 ((gI (sA (sA (sA (sA (sA st_8 r_9 (gI st_8 a0 39 : Int32).toNatClampNeg a1) r_10 (gI (sA st_8 r_9 (gI st_8 a0 39 : Int32).toNatClampNeg a1) a0 39 : Int32).toNatClampNeg a2) r_11 (gI (sA (sA st_8 r_9 (gI st_8 a0 39 : Int32).toNatClampNeg a1) r_10 (gI (sA st_8 r_9 (gI st_8 a0 39 : Int32).toNatClampNeg a1) a0 39 : Int32).toNatClampNeg a2) a0 39 : Int32).toNatClampNeg a3) r_12 (gI (sA (sA (sA st_8 r_9 (gI st_8 a0 39 : Int32).toNatClampNeg a1) r_10 (gI (sA st_8 r_9 (gI st_8 a0 39 : Int32).toNatClampNeg a1) a0 39 : Int32).toNatClampNeg a2) r_11 (gI (sA (sA st_8 r_9 (gI st_8 a0 39 : Int32).toNatClampNeg a1) r_10 (gI (sA st_8 r_9 (gI st_8 a0 39 : Int32).toNatClampNeg a1) a0 39 : Int32).toNatClampNeg a2) a0 39 : Int32).toNatClampNeg a3) a0 39 : Int32).toNatClampNeg a4) r_13 (gI (sA (sA (sA (sA st_8 r_9 (gI st_8 a0 39 : Int32).toNatClampNeg a1) r_10 (gI (sA st_8 r_9 (gI st_8 a0 39 : Int32).toNatClampNeg a1) a0 39 : Int32).toNatClampNeg a2) r_11 (gI (sA (sA st_8 r_9 (gI st_8 a0 39 : Int32).toNatClampNeg a1) r_10 (gI (sA st_8 r_9 (gI st_8 a0 39 : Int32).toNatClampNeg a1) a0 39 : Int32).toNatClampNeg a2) a0 39 : Int32).toNatClampNeg a3) r_12 (gI (sA (sA (sA st_8 r_9 (gI st_8 a0 39 : Int32).toNatClampNeg a1) r_10 (gI (sA st_8 r_9 (gI st_8 a0 39 : Int32).toNatClampNeg a1) a0 39 : Int32).toNatClampNeg a2) r_11 (gI (sA (sA st_8 r_9 (gI st_8 a0 39 : Int32).toNatClampNeg a1) r_10 (gI (sA st_8 r_9 (gI st_8 a0 39 : Int32).toNatClampNeg a1) a0 39 : Int32).toNatClampNeg a2) a0 39 : Int32).toNatClampNeg a3) a0 39 : Int32).toNatClampNeg a4) a0 39 : Int32).toNatClampNeg a5) a0 39) + 1)) a0 39) (sI (sA (sA (sA (sA (sA st_8 r_9 (gI st_8 a0 39 : Int32).toNatClampNeg a1) r_10 (gI (sA st_8 r_9 (gI st_8 a0 39 : Int32).toNatClampNeg a1) a0 39 : Int32).toNatClampNeg a2) r_11 (gI (sA (sA st_8 r_9 (gI st_8 a0 39 : Int32).toNatClampNeg a1) r_10 (gI (sA st_8 r_9 (gI st_8 a0 39 : Int32).toNatClampNeg a1) a0 39 : Int32).toNatClampNeg a2) a0 39 : Int32).toNatClampNeg a3) r_12 (gI (sA (sA (sA st_8 r_9 (gI st_8 a0 39 : Int32).toNatClampNeg a1) r_10 (gI (sA st_8 r_9 (gI st_8 a0 39 : Int32).toNatClampNeg a1) a0 39 : Int32).toNatClampNeg a2) r_11 (gI (sA (sA st_8 r_9 (gI st_8 a0 39 : Int32).toNatClampNeg a1) r_10 (gI (sA st_8 r_9 (gI st_8 a0 39 : Int32).toNatClampNeg a1) a0 39 : Int32).toNatClampNeg a2) a0 39 : Int32).toNatClampNeg a3) a0 39 : Int32).toNatClampNeg a4) r_13 (gI (sA (sA (sA (sA st_8 r_9 (gI st_8 a0 39 : Int32).toNatClampNeg a1) r_10 (gI (sA st_8 r_9 (gI st_8 a0 39 : Int32).toNatClampNeg a1) a0 39 : Int32).toNatClampNeg a2) r_11 (gI (sA (sA st_8 r_9 (gI st_8 a0 39 : Int32).toNatClampNeg a1) r_10 (gI (sA st_8 r_9 (gI st_8 a0 39 : Int32).toNatClampNeg a1) a0 39 : Int32).toNatClampNeg a2) a0 39 : Int32).toNatClampNeg a3) r_12 (gI (sA (sA (sA st_8 r_9 (gI st_8 a0 39 : Int32).toNatClampNeg a1) r_10 (gI (sA st_8 r_9 (gI st_8 a0 39 : Int32).toNatClampNeg a1) a0 39 : Int32).toNatClampNeg a2) r_11 (gI (sA (sA st_8 r_9 (gI st_8 a0 39 : Int32).toNatClampNeg a1) r_10 (gI (sA st_8 r_9 (gI st_8 a0 39 : Int32).toNatClampNeg a1) a0 39 : Int32).toNatClampNeg a2) a0 39 : Int32).toNatClampNeg a3) a0 39 : Int32).toNatClampNeg a4) a0 39 : Int32).toNatClampNeg a5) a0 39 ((gI (sA (sA (sA (sA (sA st_8 r_9 (gI st_8 a0 39 : Int32).toNatClampNeg a1) r_10 (gI (sA st_8 r_9 (gI st_8 a0 39 : Int32).toNatClampNeg a1) a0 39 : Int32).toNatClampNeg a2) r_11 (gI (sA (sA st_8 r_9 (gI st_8 a0 39 : Int32).toNatClampNeg a1) r_10 (gI (sA st_8 r_9 (gI st_8 a0 39 : Int32).toNatClampNeg a1) a0 39 : Int32).toNatClampNeg a2) a0 39 : Int32).toNatClampNeg a3) r_12 (gI (sA (sA (sA st_8 r_9 (gI st_8 a0 39 : Int32).toNatClampNeg a1) r_10 (gI (sA st_8 r_9 (gI st_8 a0 39 : Int32).toNatClampNeg a1) a0 39 : Int32).toNatClampNeg a2) r_11 (gI (sA (sA st_8 r_9 (gI st_8 a0 39 : Int32).toNatClampNeg a1) r_10 (gI (sA st_8 r_9 (gI st_8 a0 39 : Int32).toNatClampNeg a1) a0 39 : Int32).toNatClampNeg a2) a0 39 : Int32).toNatClampNeg a3) a0 39 : Int32).toNatClampNeg a4) r_13 (gI (sA (sA (sA (sA st_8 r_9 (gI st_8 a0 39 : Int32).toNatClampNeg a1) r_10 (gI (sA st_8 r_9 (gI st_8 a0 39 : Int32).toNatClampNeg a1) a0 39 : Int32).toNatClampNeg a2) r_11 (gI (sA (sA st_8 r_9 (gI st_8 a0 39 : Int32).toNatClampNeg a1) r_10 (gI (sA st_8 r_9 (gI st_8 a0 39 : Int32).toNatClampNeg a1) a0 39 : Int32).toNatClampNeg a2) a0 39 : Int32).toNatClampNeg a3) r_12 (gI (sA (sA (sA st_8 r_9 (gI st_8 a0 39 : Int32).toNatClampNeg a1) r_10 (gI (sA st_8 r_9 (gI st_8 a0 39 : Int32).toNatClampNeg a1) a0 39 : Int32).toNatClampNeg a2) r_11 (gI (sA (sA st_8 r_9 (gI st_8 a0 39 : Int32).toNatClampNeg a1) r_10 (gI (sA st_8 r_9 (gI st_8 a0 39 : Int32).toNatClampNeg a1) a0 39 : Int32).toNatClampNeg a2) a0 39 : Int32).toNatClampNeg a3) a0 39 : Int32).toNatClampNeg a4) a0 39 : Int32).toNatClampNeg a5) a0 39) + 1))) ∧ (a3 = a4 → P_X12_see_63  a0 a1 a2 a3 a4 a5  post st_8)))))))) ∧ (z_5 = 0 → P_X12_see_30  a0 a1 a2 a3 a4 a5  post st_6)))))))))
set_option maxRecDepth 100000 in
set_option maxHeartbeats 4000000 in
theorem K_X12_see_63 {l : Launch} {E : En}   (a0 : Nat) (a1 : Int32) (a2 : Int32) (a3 : Int32) (a4 : Int32) (a5 : Int32)  {post : Int32 → St → Prop}    (st : St) (h : P_X12_see_63  a0 a1 a2 a3 a4 a5  post  st) : Jg l E (CFc E) (Rm 3 0 0) cX12_see 6 RX12 (some .int) (fun _ => True) (QI E post 0 0) 0 0 63 [(0, .ref a0), (1, .int a1), (2, .int a2), (3, .int a3), (4, .int a4), (5, .int a5)] [] st := by
  unfold P_X12_see_63 at h
  refine J_aload_n 0 dX12_see_63 rfl rfl ?_
  refine J_iconst 2 dX12_see_64 (by decide) ?_
  obtain ⟨ho, h⟩ := h
  refine J_cvi (As := [_]) md_X12_refuse k_1182 (rc_obj cl_12 ho) rfl rfl ⟨Nat.le_of_ble_eq_true rfl, Nat.le_of_ble_eq_true rfl⟩ ⟨Nat.le_of_ble_eq_true rfl, Nat.le_of_ble_eq_true rfl⟩ (Nat.le_of_ble_eq_true rfl) dX12_see_65 (ct_X12_refuse  h) (fun z_1 st_2 h => ?_)
  exact J_reti rfl dX12_see_68 h
set_option maxRecDepth 100000 in
set_option maxHeartbeats 4000000 in
theorem K_X12_see_30 {l : Launch} {E : En}   (a0 : Nat) (a1 : Int32) (a2 : Int32) (a3 : Int32) (a4 : Int32) (a5 : Int32)  {post : Int32 → St → Prop}    (st : St) (h : P_X12_see_30  a0 a1 a2 a3 a4 a5  post  st) : Jg l E (CFc E) (Rm 3 0 0) cX12_see 6 RX12 (some .int) (fun _ => True) (QI E post 0 0) 0 0 30 [(0, .ref a0), (1, .int a1), (2, .int a2), (3, .int a3), (4, .int a4), (5, .int a5)] [] st := by
  unfold P_X12_see_30 at h
  refine J_aload_n 0 dX12_see_30 rfl rfl ?_
  refine J_iconst 1 dX12_see_31 (by decide) ?_
  obtain ⟨ho, h⟩ := h
  refine J_cvi (As := [_]) md_X12_fail k_1093 (rc_obj cl_12 ho) rfl rfl ⟨Nat.le_of_ble_eq_true rfl, Nat.le_of_ble_eq_true rfl⟩ ⟨Nat.le_of_ble_eq_true rfl, Nat.le_of_ble_eq_true rfl⟩ (Nat.le_of_ble_eq_true rfl) dX12_see_32 (ct_X12_fail  h) (fun z_1 st_2 h => ?_)
  exact J_reti rfl dX12_see_35 h
set_option maxRecDepth 100000 in
set_option maxHeartbeats 4000000 in
theorem ct_X12_see {l : Launch} {E : En}  {a0 : Nat} {a1 : Int32} {a2 : Int32} {a3 : Int32} {a4 : Int32} {a5 : Int32} {st : St} {post : Int32 → St → Prop} (h : P_X12_see  a0 a1 a2 a3 a4 a5 st post) : CtI l E (CFc E) 3 0 0 yX12_see cX12_see 6 (some .int) [.ref a0, .int a1, .int a2, .int a3, .int a4, .int a5] st post := by
  refine ctI_of (by decide) (Nat.le_of_ble_eq_true rfl) ?_
  show Jg l E (CFc E) (Rm 3 0 0) cX12_see 6 RX12 (some .int) (fun _ => True) (QI E post 0 0) 0 0 0 [(0, .ref a0), (1, .int a1), (2, .int a2), (3, .int a3), (4, .int a4), (5, .int a5)] [] st
  unfold P_X12_see at h
  refine J_aload_n 0 dX12_see_0 rfl rfl ?_
  refine J_iconst 0 dX12_see_1 (by decide) ?_
  obtain ⟨hf, h⟩ := h
  refine J_putI fp_RX12_184 dX12_see_2 rfl hf ?_
  refine J_aload_n 0 dX12_see_5 rfl rfl ?_
  refine J_iload_n 1 dX12_see_6 rfl rfl ?_
  obtain ⟨ho, h⟩ := h
  refine J_cvi (As := [_]) md_X12_isBride k_1170 (rc_obj cl_12 ho) rfl rfl ⟨Nat.le_of_ble_eq_true rfl, Nat.le_of_ble_eq_true rfl⟩ ⟨Nat.le_of_ble_eq_true rfl, Nat.le_of_ble_eq_true rfl⟩ (Nat.le_of_ble_eq_true rfl) dX12_see_7 (ct_X12_isBride  h) (fun z_1 st_2 h => ?_)
  refine J_if_eq 30 dX12_see_10 (by decide) (fun hc => ?_) (fun hc => ?_)
  · have h := h.1 hc
    exact J_lv [0, 1, 2, 3, 4, 5] rfl (K_X12_see_30   a0 a1 a2 a3 a4 a5  st_2 h)
  · have h := h.2 hc
    refine J_aload_n 0 dX12_see_13 rfl rfl ?_
    refine J_iload_n 3 dX12_see_14 rfl rfl ?_
    obtain ⟨ho, h⟩ := h
    refine J_cvi (As := [_]) md_X12_isPerson k_1167 (rc_obj cl_12 ho) rfl rfl ⟨Nat.le_of_ble_eq_true rfl, Nat.le_of_ble_eq_true rfl⟩ ⟨Nat.le_of_ble_eq_true rfl, Nat.le_of_ble_eq_true rfl⟩ (Nat.le_of_ble_eq_true rfl) dX12_see_15 (ct_X12_isPerson  h) (fun z_3 st_4 h => ?_)
    refine J_if_eq 30 dX12_see_18 (by decide) (fun hc => ?_) (fun hc => ?_)
    · have h := h.1 hc
      exact J_lv [0, 1, 2, 3, 4, 5] rfl (K_X12_see_30   a0 a1 a2 a3 a4 a5  st_4 h)
    · have h := h.2 hc
      refine J_aload_n 0 dX12_see_21 rfl rfl ?_
      refine J_iload 4 dX12_see_22 rfl ?_
      obtain ⟨ho, h⟩ := h
      refine J_cvi (As := [_]) md_X12_isPerson k_1167 (rc_obj cl_12 ho) rfl rfl ⟨Nat.le_of_ble_eq_true rfl, Nat.le_of_ble_eq_true rfl⟩ ⟨Nat.le_of_ble_eq_true rfl, Nat.le_of_ble_eq_true rfl⟩ (Nat.le_of_ble_eq_true rfl) dX12_see_24 (ct_X12_isPerson  h) (fun z_5 st_6 h => ?_)
      refine J_if_ne 36 dX12_see_27 (by decide) (fun hc => ?_) (fun hc => ?_)
      · have h := h.1 hc
        refine J_aload_n 0 dX12_see_36 rfl rfl ?_
        obtain ⟨hf, h⟩ := h
        refine J_getI fl_RX12_350 dX12_see_37 hf ?_
        refine J_bipush 8 dX12_see_40 (by decide) ?_
        refine J_icmp_eq 63 dX12_see_42 (by decide) (fun hc => ?_) (fun hc => ?_)
        · have h := h.1 hc
          exact J_lv [0, 1, 2, 3, 4, 5] rfl (K_X12_see_63   a0 a1 a2 a3 a4 a5  st_6 h)
        · have h := h.2 hc
          refine J_iload_n 2 dX12_see_45 rfl rfl ?_
          refine J_i2l dX12_see_46 ?_
          refine J_lconst 0 dX12_see_47 (by decide) ?_
          refine J_ldc2 k_1181 dX12_see_48 ?_
          refine J_csi (As := [_, _, _]) md_X12_isIn k_971 rfl rfl ⟨Nat.le_of_ble_eq_true rfl, Nat.le_of_ble_eq_true rfl⟩ ⟨Nat.le_of_ble_eq_true rfl, Nat.le_of_ble_eq_true rfl⟩ (Nat.le_of_ble_eq_true rfl) dX12_see_51 (ct_X12_isIn  h) (fun z_7 st_8 h => ?_)
          refine J_if_eq 63 dX12_see_54 (by decide) (fun hc => ?_) (fun hc => ?_)
          · have h := h.1 hc
            exact J_lv [0, 1, 2, 3, 4, 5] rfl (K_X12_see_63   a0 a1 a2 a3 a4 a5  st_8 h)
          · have h := h.2 hc
            refine J_iload_n 3 dX12_see_57 rfl rfl ?_
            refine J_iload 4 dX12_see_58 rfl ?_
            refine J_icmp_ne 69 dX12_see_60 (by decide) (fun hc => ?_) (fun hc => ?_)
            · have h := h.1 hc
              refine J_aload_n 0 dX12_see_69 rfl rfl ?_
              obtain ⟨r_9, hf, h⟩ := h
              refine J_getR fl_RX12_129 dX12_see_70 hf ?_
              refine J_aload_n 0 dX12_see_73 rfl rfl ?_
              obtain ⟨hf, h⟩ := h
              refine J_getI fl_RX12_350 dX12_see_74 hf ?_
              refine J_iload_n 1 dX12_see_77 rfl rfl ?_
              obtain ⟨hi, h⟩ := h
              refine J_iast dX12_see_78 hi ?_
              refine J_aload_n 0 dX12_see_79 rfl rfl ?_
              obtain ⟨r_10, hf, h⟩ := h
              refine J_getR fl_RX12_132 dX12_see_80 hf ?_
              refine J_aload_n 0 dX12_see_83 rfl rfl ?_
              obtain ⟨hf, h⟩ := h
              refine J_getI fl_RX12_350 dX12_see_84 hf ?_
              refine J_iload_n 2 dX12_see_87 rfl rfl ?_
              obtain ⟨hi, h⟩ := h
              refine J_iast dX12_see_88 hi ?_
              refine J_aload_n 0 dX12_see_89 rfl rfl ?_
              obtain ⟨r_11, hf, h⟩ := h
              refine J_getR fl_RX12_135 dX12_see_90 hf ?_
              refine J_aload_n 0 dX12_see_93 rfl rfl ?_
              obtain ⟨hf, h⟩ := h
              refine J_getI fl_RX12_350 dX12_see_94 hf ?_
              refine J_iload_n 3 dX12_see_97 rfl rfl ?_
              obtain ⟨hi, h⟩ := h
              refine J_iast dX12_see_98 hi ?_
              refine J_aload_n 0 dX12_see_99 rfl rfl ?_
              obtain ⟨r_12, hf, h⟩ := h
              refine J_getR fl_RX12_138 dX12_see_100 hf ?_
              refine J_aload_n 0 dX12_see_103 rfl rfl ?_
              obtain ⟨hf, h⟩ := h
              refine J_getI fl_RX12_350 dX12_see_104 hf ?_
              refine J_iload 4 dX12_see_107 rfl ?_
              obtain ⟨hi, h⟩ := h
              refine J_iast dX12_see_109 hi ?_
              refine J_aload_n 0 dX12_see_110 rfl rfl ?_
              obtain ⟨r_13, hf, h⟩ := h
              refine J_getR fl_RX12_144 dX12_see_111 hf ?_
              refine J_aload_n 0 dX12_see_114 rfl rfl ?_
              obtain ⟨hf, h⟩ := h
              refine J_getI fl_RX12_350 dX12_see_115 hf ?_
              refine J_iload 5 dX12_see_118 rfl ?_
              obtain ⟨hi, h⟩ := h
              obtain ⟨hb, h⟩ := h
              refine J_zast dX12_see_120 hi hb ?_
              refine J_aload_n 0 dX12_see_121 rfl rfl ?_
              refine J_dup dX12_see_122 rfl ?_
              obtain ⟨hf, h⟩ := h
              refine J_getI fl_RX12_350 dX12_see_123 hf ?_
              refine J_iconst 1 dX12_see_126 (by decide) ?_
              refine J_iadd dX12_see_127 ?_
              obtain ⟨hf, h⟩ := h
              refine J_putI fp_RX12_350 dX12_see_128 rfl hf ?_
              refine J_aload_n 0 dX12_see_131 rfl rfl ?_
              obtain ⟨hf, h⟩ := h
              refine J_getI fl_RX12_350 dX12_see_132 hf ?_
              exact J_reti rfl dX12_see_135 h
            · have h := h.2 hc
              exact J_lv [0, 1, 2, 3, 4, 5] rfl (K_X12_see_63   a0 a1 a2 a3 a4 a5  st_8 h)
      · have h := h.2 hc
        exact J_lv [0, 1, 2, 3, 4, 5] rfl (K_X12_see_30   a0 a1 a2 a3 a4 a5  st_6 h)
/-! X12_isAsSeen -/
def P_X12_isAsSeen_118  (a0 : Nat)  (post : Int32 → St → Prop) (x1 : Int32) (st : St) : Prop := ∃ r_1, rv st a0 12 50 = some r_1 ∧ oC a0 12 ∧ P_X12_unpack  a0 r_1 0 st (fun st_3 => (x1 = 0 ∨ x1 = 1) ∧ post x1 st_3)
def P_X12_isAsSeen_101  (a0 : Nat) (k25 : Int32 → Int32 → Int32 → St → Prop) (post : Int32 → St → Prop) (x2 : Int32) (x3 : Int32) (s0 : Int32) (st : St) : Prop := k25 s0 x2 (x3 + 1) st
def P_X12_isAsSeen_100  (a0 : Nat) (k25 : Int32 → Int32 → Int32 → St → Prop) (post : Int32 → St → Prop) (x2 : Int32) (x3 : Int32) (st : St) : Prop := P_X12_isAsSeen_101  a0 k25 post x2 x3 0 st
def P_X12_isAsSeen_96  (a0 : Nat) (k25 : Int32 → Int32 → Int32 → St → Prop) (post : Int32 → St → Prop) (x2 : Int32) (x3 : Int32) (st : St) : Prop := P_X12_isAsSeen_101  a0 k25 post x2 x3 1 st
def P_X12_isAsSeen_87  (a0 : Nat) (k25 : Int32 → Int32 → Int32 → St → Prop) (post : Int32 → St → Prop) (x2 : Int32) (x3 : Int32) (s0 : Int32) (st : St) : Prop := ∃ r_1, rv st a0 12 51 = some r_1 ∧ vp_in x3 (al 1 r_1) ∧ ((¬ s0 = (gA st r_1 (x3 : Int32).toNatClampNeg) → P_X12_isAsSeen_100  a0 k25 post x2 x3 st) ∧ (s0 = (gA st r_1 (x3 : Int32).toNatClampNeg) → P_X12_isAsSeen_96  a0 k25 post x2 x3 st))
def P_X12_isAsSeen_25  (a0 : Nat) (k13 : Int32 → Int32 → St → Prop) (post : Int32 → St → Prop) : Nat → Int32 → Int32 → Int32 → St → Prop
  | 0, _, _, _, _ => False
  | n9 + 1, x1, x2, x3, st => fk a0 12 39 = some 0 ∧ (((gI st a0 39) ≤ x3 → oC a0 12 ∧ P_X12_aDay  a0 st (fun st_2 => k13 x1 (x2 + 1) st_2)) ∧ (¬ (gI st a0 39) ≤ x3 → ((x1 = 0 → P_X12_isAsSeen_100  a0 (fun x1 x2 x3 st => P_X12_isAsSeen_25  a0 k13 post n9 x1 x2 x3 st) post x2 x3 st) ∧ (¬ x1 = 0 → ∃ r_3, rv st a0 12 47 = some r_3 ∧ vp_in x3 (al 0 r_3) ∧ ((¬ (gA st r_3 (x3 : Int32).toNatClampNeg) = x2 → P_X12_isAsSeen_96  a0 (fun x1 x2 x3 st => P_X12_isAsSeen_25  a0 k13 post n9 x1 x2 x3 st) post x2 x3 st) ∧ ((gA st r_3 (x3 : Int32).toNatClampNeg) = x2 → ∃ r_4, rv st a0 12 48 = some r_4 ∧ vp_in x3 (al 0 r_4) ∧ ∃ r_5, rv st a0 12 46 = some r_5 ∧ vp_in x3 (al 0 r_5) ∧ oC a0 12 ∧ P_X12_weightOf  a0 (gA st r_4 (x3 : Int32).toNatClampNeg) (gA st r_5 (x3 : Int32).toNatClampNeg) st (fun z_6 st_7 => ∃ r_8, rv st_7 a0 12 49 = some r_8 ∧ vp_in x3 (al 0 r_8) ∧ ∃ r_9, rv st_7 a0 12 46 = some r_9 ∧ vp_in x3 (al 0 r_9) ∧ oC a0 12 ∧ P_X12_weightOf  a0 (gA st_7 r_8 (x3 : Int32).toNatClampNeg) (gA st_7 r_9 (x3 : Int32).toNatClampNeg) st_7 (fun z_10 st_11 => ((z_6 ≤ z_10 → P_X12_isAsSeen_87  a0 (fun x1 x2 x3 st => P_X12_isAsSeen_25  a0 k13 post n9 x1 x2 x3 st) post x2 x3 0 st_11) ∧ (¬ z_6 ≤ z_10 → P_X12_isAsSeen_87  a0 (fun x1 x2 x3 st => P_X12_isAsSeen_25  a0 k13 post n9 x1 x2 x3 st) post x2 x3 1 st_11))))))))))
def P_X12_isAsSeen_13  (a0 : Nat)  (post : Int32 → St → Prop) : Nat → Int32 → Int32 → St → Prop
  | 0, _, _, _ => False
  | n9 + 1, x1, x2, st => ((20 < x2 → P_X12_isAsSeen_118  a0  post x1 st) ∧ (¬ 20 < x2 → ((x1 = 0 → P_X12_isAsSeen_118  a0  post x1 st) ∧ (¬ x1 = 0 → ∃ n8, P_X12_isAsSeen_25  a0 (fun x1 x2 st => P_X12_isAsSeen_13  a0  post n9 x1 x2 st) post n8 x1 x2 0 st))))
def P_X12_isAsSeen  (a0 : Nat) (st : St) (post : Int32 → St → Prop) : Prop := ∃ r_1, rv st a0 12 50 = some r_1 ∧ oC a0 12 ∧ P_X12_pack  a0 r_1 0 st (fun st_3 => ∃ n8, P_X12_isAsSeen_13  a0  post n8 1 0 st_3)
set_option maxRecDepth 100000 in
set_option maxHeartbeats 4000000 in
theorem K_X12_isAsSeen_118 {l : Launch} {E : En}   (a0 : Nat)  {post : Int32 → St → Prop}   (x1 : Int32) (st : St) (h : P_X12_isAsSeen_118  a0  post x1 st) : Jg l E (CFc E) (Rm 8 0 0) cX12_isAsSeen 4 RX12 (some .boolean) (fun _ => True) (QI E post 0 0) 0 0 118 [(0, .ref a0), (1, .int x1)] [] st := by
  unfold P_X12_isAsSeen_118 at h
  refine J_aload_n 0 dX12_isAsSeen_118 rfl rfl ?_
  refine J_aload_n 0 dX12_isAsSeen_119 rfl rfl ?_
  obtain ⟨r_1, hf, h⟩ := h
  refine J_getR fl_RX12_141 dX12_isAsSeen_120 hf ?_
  refine J_iconst 0 dX12_isAsSeen_123 (by decide) ?_
  obtain ⟨ho, h⟩ := h
  refine J_cvv (As := [_, _]) md_X12_unpack k_1200 (rc_obj cl_12 ho) rfl rfl ⟨Nat.le_of_ble_eq_true rfl, Nat.le_of_ble_eq_true rfl⟩ ⟨Nat.le_of_ble_eq_true rfl, Nat.le_of_ble_eq_true rfl⟩ (Nat.le_of_ble_eq_true rfl) dX12_isAsSeen_124 (ct_X12_unpack  h) (fun st_3 h => ?_)
  refine J_iload_n 1 dX12_isAsSeen_127 rfl rfl ?_
  exact J_retz rfl h.1 dX12_isAsSeen_128 h.2
set_option maxRecDepth 100000 in
set_option maxHeartbeats 4000000 in
theorem K_X12_isAsSeen_101 {l : Launch} {E : En}   (a0 : Nat) {k25 : Int32 → Int32 → Int32 → St → Prop} {post : Int32 → St → Prop}  (hk25 : ∀ (x1 : Int32) (x2 : Int32) (x3 : Int32) (st : St), k25 x1 x2 x3 st → Jg l E (CFc E) (Rm 8 0 0) cX12_isAsSeen 4 RX12 (some .boolean) (fun _ => True) (QI E post 0 0) 0 0 25 [(0, .ref a0), (1, .int x1), (2, .int x2), (3, .int x3)] [] st) (x2 : Int32) (x3 : Int32) (s0 : Int32) (st : St) (h : P_X12_isAsSeen_101  a0 k25 post x2 x3 s0 st) : Jg l E (CFc E) (Rm 8 0 0) cX12_isAsSeen 4 RX12 (some .boolean) (fun _ => True) (QI E post 0 0) 0 0 101 [(0, .ref a0), (2, .int x2), (3, .int x3)] [.int s0] st := by
  unfold P_X12_isAsSeen_101 at h
  refine J_istore_n _ dX12_isAsSeen_101 rfl (by decide) rfl ?_
  refine J_iinc 3 (x3 + 1) _ dX12_isAsSeen_102 rfl (by rfl) (by decide) rfl ?_
  refine J_goto 25 dX12_isAsSeen_105 (by decide) ?_
  exact J_lv [2, 1, 3, 0] rfl (hk25 s0 x2 (x3 + 1) st h)
set_option maxRecDepth 100000 in
set_option maxHeartbeats 4000000 in
theorem K_X12_isAsSeen_100 {l : Launch} {E : En}   (a0 : Nat) {k25 : Int32 → Int32 → Int32 → St → Prop} {post : Int32 → St → Prop}  (hk25 : ∀ (x1 : Int32) (x2 : Int32) (x3 : Int32) (st : St), k25 x1 x2 x3 st → Jg l E (CFc E) (Rm 8 0 0) cX12_isAsSeen 4 RX12 (some .boolean) (fun _ => True) (QI E post 0 0) 0 0 25 [(0, .ref a0), (1, .int x1), (2, .int x2), (3, .int x3)] [] st) (x2 : Int32) (x3 : Int32) (st : St) (h : P_X12_isAsSeen_100  a0 k25 post x2 x3 st) : Jg l E (CFc E) (Rm 8 0 0) cX12_isAsSeen 4 RX12 (some .boolean) (fun _ => True) (QI E post 0 0) 0 0 100 [(0, .ref a0), (2, .int x2), (3, .int x3)] [] st := by
  unfold P_X12_isAsSeen_100 at h
  refine J_iconst 0 dX12_isAsSeen_100 (by decide) ?_
  exact J_lv [0, 1, 2] rfl (K_X12_isAsSeen_101   a0 hk25 x2 x3 0 st h)
set_option maxRecDepth 100000 in
set_option maxHeartbeats 4000000 in
theorem K_X12_isAsSeen_96 {l : Launch} {E : En}   (a0 : Nat) {k25 : Int32 → Int32 → Int32 → St → Prop} {post : Int32 → St → Prop}  (hk25 : ∀ (x1 : Int32) (x2 : Int32) (x3 : Int32) (st : St), k25 x1 x2 x3 st → Jg l E (CFc E) (Rm 8 0 0) cX12_isAsSeen 4 RX12 (some .boolean) (fun _ => True) (QI E post 0 0) 0 0 25 [(0, .ref a0), (1, .int x1), (2, .int x2), (3, .int x3)] [] st) (x2 : Int32) (x3 : Int32) (st : St) (h : P_X12_isAsSeen_96  a0 k25 post x2 x3 st) : Jg l E (CFc E) (Rm 8 0 0) cX12_isAsSeen 4 RX12 (some .boolean) (fun _ => True) (QI E post 0 0) 0 0 96 [(0, .ref a0), (2, .int x2), (3, .int x3)] [] st := by
  unfold P_X12_isAsSeen_96 at h
  refine J_iconst 1 dX12_isAsSeen_96 (by decide) ?_
  refine J_goto 101 dX12_isAsSeen_97 (by decide) ?_
  exact J_lv [0, 1, 2] rfl (K_X12_isAsSeen_101   a0 hk25 x2 x3 1 st h)
set_option maxRecDepth 100000 in
set_option maxHeartbeats 4000000 in
theorem K_X12_isAsSeen_87 {l : Launch} {E : En}   (a0 : Nat) {k25 : Int32 → Int32 → Int32 → St → Prop} {post : Int32 → St → Prop}  (hk25 : ∀ (x1 : Int32) (x2 : Int32) (x3 : Int32) (st : St), k25 x1 x2 x3 st → Jg l E (CFc E) (Rm 8 0 0) cX12_isAsSeen 4 RX12 (some .boolean) (fun _ => True) (QI E post 0 0) 0 0 25 [(0, .ref a0), (1, .int x1), (2, .int x2), (3, .int x3)] [] st) (x2 : Int32) (x3 : Int32) (s0 : Int32) (st : St) (h : P_X12_isAsSeen_87  a0 k25 post x2 x3 s0 st) : Jg l E (CFc E) (Rm 8 0 0) cX12_isAsSeen 4 RX12 (some .boolean) (fun _ => True) (QI E post 0 0) 0 0 87 [(0, .ref a0), (2, .int x2), (3, .int x3)] [.int s0] st := by
  unfold P_X12_isAsSeen_87 at h
  refine J_aload_n 0 dX12_isAsSeen_87 rfl rfl ?_
  obtain ⟨r_1, hf, h⟩ := h
  refine J_getR fl_RX12_144 dX12_isAsSeen_88 hf ?_
  refine J_iload_n 2 dX12_isAsSeen_91 rfl rfl ?_
  obtain ⟨hi, h⟩ := h
  refine J_zald dX12_isAsSeen_92 hi ?_
  refine J_icmp_ne 100 dX12_isAsSeen_93 (by decide) (fun hc => ?_) (fun hc => ?_)
  · have h := h.1 hc
    exact J_lv [0, 1, 2] rfl (K_X12_isAsSeen_100   a0 hk25 x2 x3 st h)
  · have h := h.2 hc
    exact J_lv [0, 1, 2] rfl (K_X12_isAsSeen_96   a0 hk25 x2 x3 st h)
set_option maxRecDepth 100000 in
set_option maxHeartbeats 4000000 in
theorem K_X12_isAsSeen_25 {l : Launch} {E : En}   (a0 : Nat) {k13 : Int32 → Int32 → St → Prop} {post : Int32 → St → Prop}  (hk13 : ∀ (x1 : Int32) (x2 : Int32) (st : St), k13 x1 x2 st → Jg l E (CFc E) (Rm 8 0 0) cX12_isAsSeen 4 RX12 (some .boolean) (fun _ => True) (QI E post 0 0) 0 0 13 [(0, .ref a0), (1, .int x1), (2, .int x2)] [] st) : ∀ (n9 : Nat) (x1 : Int32) (x2 : Int32) (x3 : Int32) (st : St), P_X12_isAsSeen_25  a0 k13 post n9 x1 x2 x3 st → Jg l E (CFc E) (Rm 8 0 0) cX12_isAsSeen 4 RX12 (some .boolean) (fun _ => True) (QI E post 0 0) 0 0 25 [(0, .ref a0), (1, .int x1), (2, .int x2), (3, .int x3)] [] st := by
  intro n9
  induction n9 with
  | zero => intro x1 x2 x3 st h; exact h.elim
  | succ n9 ih =>
    intro x1 x2 x3 st h
    unfold P_X12_isAsSeen_25 at h
    refine J_iload_n 3 dX12_isAsSeen_25 rfl rfl ?_
    refine J_aload_n 0 dX12_isAsSeen_26 rfl rfl ?_
    obtain ⟨hf, h⟩ := h
    refine J_getI fl_RX12_350 dX12_isAsSeen_27 hf ?_
    refine J_icmp_ge 108 dX12_isAsSeen_30 (by decide) (fun hc => ?_) (fun hc => ?_)
    · have h := h.1 hc
      refine J_aload_n 0 dX12_isAsSeen_108 rfl rfl ?_
      obtain ⟨ho, h⟩ := h
      refine J_cvv (As := []) md_X12_aDay k_1146 (rc_obj cl_12 ho) rfl rfl ⟨Nat.le_of_ble_eq_true rfl, Nat.le_of_ble_eq_true rfl⟩ ⟨Nat.le_of_ble_eq_true rfl, Nat.le_of_ble_eq_true rfl⟩ (Nat.le_of_ble_eq_true rfl) dX12_isAsSeen_109 (ct_X12_aDay  h) (fun st_2 h => ?_)
      refine J_iinc 2 (x2 + 1) _ dX12_isAsSeen_112 rfl (by rfl) (by decide) rfl ?_
      refine J_goto 13 dX12_isAsSeen_115 (by decide) ?_
      exact J_lv [1, 2, 0] rfl (hk13 x1 (x2 + 1) st_2 h)
    · have h := h.2 hc
      refine J_iload_n 1 dX12_isAsSeen_33 rfl rfl ?_
      refine J_if_eq 100 dX12_isAsSeen_34 (by decide) (fun hc => ?_) (fun hc => ?_)
      · have h := h.1 hc
        exact J_lv [0, 2, 3] rfl (K_X12_isAsSeen_100   a0 (fun x1 x2 x3 st h => ih x1 x2 x3 st h) x2 x3 st h)
      · have h := h.2 hc
        refine J_aload_n 0 dX12_isAsSeen_37 rfl rfl ?_
        obtain ⟨r_3, hf, h⟩ := h
        refine J_getR fl_RX12_132 dX12_isAsSeen_38 hf ?_
        refine J_iload_n 3 dX12_isAsSeen_41 rfl rfl ?_
        obtain ⟨hi, h⟩ := h
        refine J_iald dX12_isAsSeen_42 hi ?_
        refine J_iload_n 2 dX12_isAsSeen_43 rfl rfl ?_
        refine J_icmp_ne 96 dX12_isAsSeen_44 (by decide) (fun hc => ?_) (fun hc => ?_)
        · have h := h.1 hc
          exact J_lv [0, 2, 3] rfl (K_X12_isAsSeen_96   a0 (fun x1 x2 x3 st h => ih x1 x2 x3 st h) x2 x3 st h)
        · have h := h.2 hc
          refine J_aload_n 0 dX12_isAsSeen_47 rfl rfl ?_
          refine J_aload_n 0 dX12_isAsSeen_48 rfl rfl ?_
          obtain ⟨r_4, hf, h⟩ := h
          refine J_getR fl_RX12_135 dX12_isAsSeen_49 hf ?_
          refine J_iload_n 3 dX12_isAsSeen_52 rfl rfl ?_
          obtain ⟨hi, h⟩ := h
          refine J_iald dX12_isAsSeen_53 hi ?_
          refine J_aload_n 0 dX12_isAsSeen_54 rfl rfl ?_
          obtain ⟨r_5, hf, h⟩ := h
          refine J_getR fl_RX12_129 dX12_isAsSeen_55 hf ?_
          refine J_iload_n 3 dX12_isAsSeen_58 rfl rfl ?_
          obtain ⟨hi, h⟩ := h
          refine J_iald dX12_isAsSeen_59 hi ?_
          obtain ⟨ho, h⟩ := h
          refine J_cvi (As := [_, _]) md_X12_weightOf k_1126 (rc_obj cl_12 ho) rfl rfl ⟨Nat.le_of_ble_eq_true rfl, Nat.le_of_ble_eq_true rfl⟩ ⟨Nat.le_of_ble_eq_true rfl, Nat.le_of_ble_eq_true rfl⟩ (Nat.le_of_ble_eq_true rfl) dX12_isAsSeen_60 (ct_X12_weightOf  h) (fun z_6 st_7 h => ?_)
          refine J_aload_n 0 dX12_isAsSeen_63 rfl rfl ?_
          refine J_aload_n 0 dX12_isAsSeen_64 rfl rfl ?_
          obtain ⟨r_8, hf, h⟩ := h
          refine J_getR fl_RX12_138 dX12_isAsSeen_65 hf ?_
          refine J_iload_n 3 dX12_isAsSeen_68 rfl rfl ?_
          obtain ⟨hi, h⟩ := h
          refine J_iald dX12_isAsSeen_69 hi ?_
          refine J_aload_n 0 dX12_isAsSeen_70 rfl rfl ?_
          obtain ⟨r_9, hf, h⟩ := h
          refine J_getR fl_RX12_129 dX12_isAsSeen_71 hf ?_
          refine J_iload_n 3 dX12_isAsSeen_74 rfl rfl ?_
          obtain ⟨hi, h⟩ := h
          refine J_iald dX12_isAsSeen_75 hi ?_
          obtain ⟨ho, h⟩ := h
          refine J_cvi (As := [_, _]) md_X12_weightOf k_1126 (rc_obj cl_12 ho) rfl rfl ⟨Nat.le_of_ble_eq_true rfl, Nat.le_of_ble_eq_true rfl⟩ ⟨Nat.le_of_ble_eq_true rfl, Nat.le_of_ble_eq_true rfl⟩ (Nat.le_of_ble_eq_true rfl) dX12_isAsSeen_76 (ct_X12_weightOf  h) (fun z_10 st_11 h => ?_)
          refine J_icmp_le 86 dX12_isAsSeen_79 (by decide) (fun hc => ?_) (fun hc => ?_)
          · have h := h.1 hc
            refine J_iconst 0 dX12_isAsSeen_86 (by decide) ?_
            exact J_lv [0, 2, 3] rfl (K_X12_isAsSeen_87   a0 (fun x1 x2 x3 st h => ih x1 x2 x3 st h) x2 x3 0 st_11 h)
          · have h := h.2 hc
            refine J_iconst 1 dX12_isAsSeen_82 (by decide) ?_
            refine J_goto 87 dX12_isAsSeen_83 (by decide) ?_
            exact J_lv [0, 2, 3] rfl (K_X12_isAsSeen_87   a0 (fun x1 x2 x3 st h => ih x1 x2 x3 st h) x2 x3 1 st_11 h)
set_option maxRecDepth 100000 in
set_option maxHeartbeats 4000000 in
theorem K_X12_isAsSeen_13 {l : Launch} {E : En}   (a0 : Nat)  {post : Int32 → St → Prop}   : ∀ (n9 : Nat) (x1 : Int32) (x2 : Int32) (st : St), P_X12_isAsSeen_13  a0  post n9 x1 x2 st → Jg l E (CFc E) (Rm 8 0 0) cX12_isAsSeen 4 RX12 (some .boolean) (fun _ => True) (QI E post 0 0) 0 0 13 [(0, .ref a0), (1, .int x1), (2, .int x2)] [] st := by
  intro n9
  induction n9 with
  | zero => intro x1 x2 st h; exact h.elim
  | succ n9 ih =>
    intro x1 x2 st h
    unfold P_X12_isAsSeen_13 at h
    refine J_iload_n 2 dX12_isAsSeen_13 rfl rfl ?_
    refine J_bipush 20 dX12_isAsSeen_14 (by decide) ?_
    refine J_icmp_gt 118 dX12_isAsSeen_16 (by decide) (fun hc => ?_) (fun hc => ?_)
    · have h := h.1 hc
      exact J_lv [0, 1] rfl (K_X12_isAsSeen_118   a0  x1 st h)
    · have h := h.2 hc
      refine J_iload_n 1 dX12_isAsSeen_19 rfl rfl ?_
      refine J_if_eq 118 dX12_isAsSeen_20 (by decide) (fun hc => ?_) (fun hc => ?_)
      · have h := h.1 hc
        exact J_lv [0, 1] rfl (K_X12_isAsSeen_118   a0  x1 st h)
      · have h := h.2 hc
        refine J_iconst 0 dX12_isAsSeen_23 (by decide) ?_
        refine J_istore_n _ dX12_isAsSeen_24 rfl (by decide) rfl ?_
        obtain ⟨n8, h⟩ := h
        exact J_lv [1, 2, 3, 0] rfl (K_X12_isAsSeen_25   a0 (fun x1 x2 st h => ih x1 x2 st h) n8 x1 x2 0 st h)
set_option maxRecDepth 100000 in
set_option maxHeartbeats 4000000 in
theorem ct_X12_isAsSeen {l : Launch} {E : En}  {a0 : Nat} {st : St} {post : Int32 → St → Prop} (h : P_X12_isAsSeen  a0 st post) : CtI l E (CFc E) 8 0 0 yX12_isAsSeen cX12_isAsSeen 4 (some .boolean) [.ref a0] st post := by
  refine ctI_of (by decide) (Nat.le_of_ble_eq_true rfl) ?_
  show Jg l E (CFc E) (Rm 8 0 0) cX12_isAsSeen 4 RX12 (some .boolean) (fun _ => True) (QI E post 0 0) 0 0 0 [(0, .ref a0)] [] st
  unfold P_X12_isAsSeen at h
  refine J_aload_n 0 dX12_isAsSeen_0 rfl rfl ?_
  refine J_aload_n 0 dX12_isAsSeen_1 rfl rfl ?_
  obtain ⟨r_1, hf, h⟩ := h
  refine J_getR fl_RX12_141 dX12_isAsSeen_2 hf ?_
  refine J_iconst 0 dX12_isAsSeen_5 (by decide) ?_
  obtain ⟨ho, h⟩ := h
  refine J_cvv (As := [_, _]) md_X12_pack k_1178 (rc_obj cl_12 ho) rfl rfl ⟨Nat.le_of_ble_eq_true rfl, Nat.le_of_ble_eq_true rfl⟩ ⟨Nat.le_of_ble_eq_true rfl, Nat.le_of_ble_eq_true rfl⟩ (Nat.le_of_ble_eq_true rfl) dX12_isAsSeen_6 (ct_X12_pack  h) (fun st_3 h => ?_)
  refine J_iconst 1 dX12_isAsSeen_9 (by decide) ?_
  refine J_istore_n _ dX12_isAsSeen_10 rfl (by decide) rfl ?_
  refine J_iconst 0 dX12_isAsSeen_11 (by decide) ?_
  refine J_istore_n _ dX12_isAsSeen_12 rfl (by decide) rfl ?_
  obtain ⟨n8, h⟩ := h
  exact J_lv [2, 1, 0] rfl (K_X12_isAsSeen_13   a0  n8 1 0 st_3 h)
/-! X12_tellFits -/
def P_X12_tellFits_79  (a0 : Nat) (k26 : Int32 → Int32 → Int32 → St → Prop) (post : St → Prop) (x1 : Int32) (x2 : Int32) (x3 : Int32) (st : St) : Prop := k26 x1 x2 (x3 + 1) st
def P_X12_tellFits_26  (a0 : Nat) (k7 : Int32 → St → Prop) (post : St → Prop) : Nat → Int32 → Int32 → Int32 → St → Prop
  | 0, _, _, _, _ => False
  | n9 + 1, x1, x2, x3, st => ((10 ≤ x3 → ∃ r_1, rv st a0 12 29 = some r_1 ∧ vp_in x1 (al 0 r_1) ∧ k7 (x1 + 1) (sA st r_1 (x1 : Int32).toNatClampNeg x2)) ∧ (¬ 10 ≤ x3 → ∃ r_2, rv st a0 12 29 = some r_2 ∧ vp_in x1 (al 0 r_2) ∧ ((x3 = x2 → P_X12_tellFits_79  a0 (fun x1 x2 x3 st => P_X12_tellFits_26  a0 k7 post n9 x1 x2 x3 st) post x1 x2 x3 (sA st r_2 (x1 : Int32).toNatClampNeg x3)) ∧ (¬ x3 = x2 → oC a0 12 ∧ P_X12_isAsSeen  a0 (sA st r_2 (x1 : Int32).toNatClampNeg x3) (fun z_3 st_4 => ((¬ z_3 = 0 → ∃ r_5, rv st_4 a0 12 52 = some r_5 ∧ fk a0 12 54 = some 0 ∧ vp_in (gI st_4 a0 54) (al 0 r_5) ∧ fk a0 12 54 = some 0 ∧ fk a0 12 54 = some 0 ∧ P_X12_tellFits_79  a0 (fun x1 x2 x3 st => P_X12_tellFits_26  a0 k7 post n9 x1 x2 x3 st) post x1 x2 x3 (sI (sA st_4 r_5 (gI st_4 a0 54 : Int32).toNatClampNeg ((10 * x1) + x3)) a0 54 ((gI (sA st_4 r_5 (gI st_4 a0 54 : Int32).toNatClampNeg ((10 * x1) + x3)) a0 54) + 1))) ∧ (z_3 = 0 → P_X12_tellFits_79  a0 (fun x1 x2 x3 st => P_X12_tellFits_26  a0 k7 post n9 x1 x2 x3 st) post x1 x2 x3 st_4)))))))
def P_X12_tellFits_7  (a0 : Nat)  (post : St → Prop) : Nat → Int32 → St → Prop
  | 0, _, _ => False
  | n9 + 1, x1, st => ∃ r_1, rv st a0 12 5 = some r_1 ∧ vp_in 0 (al 0 r_1) ∧ (((gA st r_1 (0 : Int32).toNatClampNeg) ≤ x1 → post st) ∧ (¬ (gA st r_1 (0 : Int32).toNatClampNeg) ≤ x1 → ∃ r_2, rv st a0 12 29 = some r_2 ∧ vp_in x1 (al 0 r_2) ∧ ∃ n8, P_X12_tellFits_26  a0 (fun x1 st => P_X12_tellFits_7  a0  post n9 x1 st) post n8 x1 (gA st r_2 (x1 : Int32).toNatClampNeg) 0 st))
def P_X12_tellFits  (a0 : Nat) (st : St) (post : St → Prop) : Prop := fk a0 12 54 = some 0 ∧ ∃ n8, P_X12_tellFits_7  a0  post n8 0 (sI st a0 54 0)
set_option maxRecDepth 100000 in
set_option maxHeartbeats 4000000 in
theorem K_X12_tellFits_79 {l : Launch} {E : En}   (a0 : Nat) {k26 : Int32 → Int32 → Int32 → St → Prop} {post : St → Prop}  (hk26 : ∀ (x1 : Int32) (x2 : Int32) (x3 : Int32) (st : St), k26 x1 x2 x3 st → Jg l E (CFc E) (Rm 9 0 0) cX12_tellFits 4 RX12 none (fun _ => True) (QV E post 0 0) 0 0 26 [(0, .ref a0), (1, .int x1), (2, .int x2), (3, .int x3)] [] st) (x1 : Int32) (x2 : Int32) (x3 : Int32) (st : St) (h : P_X12_tellFits_79  a0 k26 post x1 x2 x3 st) : Jg l E (CFc E) (Rm 9 0 0) cX12_tellFits 4 RX12 none (fun _ => True) (QV E post 0 0) 0 0 79 [(0, .ref a0), (1, .int x1), (2, .int x2), (3, .int x3)] [] st := by
  unfold P_X12_tellFits_79 at h
  refine J_iinc 3 (x3 + 1) _ dX12_tellFits_79 rfl (by rfl) (by decide) rfl ?_
  refine J_goto 26 dX12_tellFits_82 (by decide) ?_
  exact J_lv [1, 2, 3, 0] rfl (hk26 x1 x2 (x3 + 1) st h)
set_option maxRecDepth 100000 in
set_option maxHeartbeats 4000000 in
theorem K_X12_tellFits_26 {l : Launch} {E : En}   (a0 : Nat) {k7 : Int32 → St → Prop} {post : St → Prop}  (hk7 : ∀ (x1 : Int32) (st : St), k7 x1 st → Jg l E (CFc E) (Rm 9 0 0) cX12_tellFits 4 RX12 none (fun _ => True) (QV E post 0 0) 0 0 7 [(0, .ref a0), (1, .int x1)] [] st) : ∀ (n9 : Nat) (x1 : Int32) (x2 : Int32) (x3 : Int32) (st : St), P_X12_tellFits_26  a0 k7 post n9 x1 x2 x3 st → Jg l E (CFc E) (Rm 9 0 0) cX12_tellFits 4 RX12 none (fun _ => True) (QV E post 0 0) 0 0 26 [(0, .ref a0), (1, .int x1), (2, .int x2), (3, .int x3)] [] st := by
  intro n9
  induction n9 with
  | zero => intro x1 x2 x3 st h; exact h.elim
  | succ n9 ih =>
    intro x1 x2 x3 st h
    unfold P_X12_tellFits_26 at h
    refine J_iload_n 3 dX12_tellFits_26 rfl rfl ?_
    refine J_bipush 10 dX12_tellFits_27 (by decide) ?_
    refine J_icmp_ge 85 dX12_tellFits_29 (by decide) (fun hc => ?_) (fun hc => ?_)
    · have h := h.1 hc
      refine J_aload_n 0 dX12_tellFits_85 rfl rfl ?_
      obtain ⟨r_1, hf, h⟩ := h
      refine J_getR fl_RX12_90 dX12_tellFits_86 hf ?_
      refine J_iload_n 1 dX12_tellFits_89 rfl rfl ?_
      refine J_iload_n 2 dX12_tellFits_90 rfl rfl ?_
      obtain ⟨hi, h⟩ := h
      refine J_iast dX12_tellFits_91 hi ?_
      refine J_iinc 1 (x1 + 1) _ dX12_tellFits_92 rfl (by rfl) (by decide) rfl ?_
      refine J_goto 7 dX12_tellFits_95 (by decide) ?_
      exact J_lv [1, 0] rfl (hk7 (x1 + 1) (sA st r_1 (x1 : Int32).toNatClampNeg x2) h)
    · have h := h.2 hc
      refine J_aload_n 0 dX12_tellFits_32 rfl rfl ?_
      obtain ⟨r_2, hf, h⟩ := h
      refine J_getR fl_RX12_90 dX12_tellFits_33 hf ?_
      refine J_iload_n 1 dX12_tellFits_36 rfl rfl ?_
      refine J_iload_n 3 dX12_tellFits_37 rfl rfl ?_
      obtain ⟨hi, h⟩ := h
      refine J_iast dX12_tellFits_38 hi ?_
      refine J_iload_n 3 dX12_tellFits_39 rfl rfl ?_
      refine J_iload_n 2 dX12_tellFits_40 rfl rfl ?_
      refine J_icmp_eq 79 dX12_tellFits_41 (by decide) (fun hc => ?_) (fun hc => ?_)
      · have h := h.1 hc
        exact J_lv [0, 1, 2, 3] rfl (K_X12_tellFits_79   a0 (fun x1 x2 x3 st h => ih x1 x2 x3 st h) x1 x2 x3 (sA st r_2 (x1 : Int32).toNatClampNeg x3) h)
      · have h := h.2 hc
        refine J_aload_n 0 dX12_tellFits_44 rfl rfl ?_
        obtain ⟨ho, h⟩ := h
        refine J_cvi (As := []) md_X12_isAsSeen k_1258 (rc_obj cl_12 ho) rfl rfl ⟨Nat.le_of_ble_eq_true rfl, Nat.le_of_ble_eq_true rfl⟩ ⟨Nat.le_of_ble_eq_true rfl, Nat.le_of_ble_eq_true rfl⟩ (Nat.le_of_ble_eq_true rfl) dX12_tellFits_45 (ct_X12_isAsSeen  h) (fun z_3 st_4 h => ?_)
        refine J_if_ne 54 dX12_tellFits_48 (by decide) (fun hc => ?_) (fun hc => ?_)
        · have h := h.1 hc
          refine J_aload_n 0 dX12_tellFits_54 rfl rfl ?_
          obtain ⟨r_5, hf, h⟩ := h
          refine J_getR fl_RX12_148 dX12_tellFits_55 hf ?_
          refine J_aload_n 0 dX12_tellFits_58 rfl rfl ?_
          obtain ⟨hf, h⟩ := h
          refine J_getI fl_RX12_468 dX12_tellFits_59 hf ?_
          refine J_bipush 10 dX12_tellFits_62 (by decide) ?_
          refine J_iload_n 1 dX12_tellFits_64 rfl rfl ?_
          refine J_imul dX12_tellFits_65 ?_
          refine J_iload_n 3 dX12_tellFits_66 rfl rfl ?_
          refine J_iadd dX12_tellFits_67 ?_
          obtain ⟨hi, h⟩ := h
          refine J_iast dX12_tellFits_68 hi ?_
          refine J_aload_n 0 dX12_tellFits_69 rfl rfl ?_
          refine J_dup dX12_tellFits_70 rfl ?_
          obtain ⟨hf, h⟩ := h
          refine J_getI fl_RX12_468 dX12_tellFits_71 hf ?_
          refine J_iconst 1 dX12_tellFits_74 (by decide) ?_
          refine J_iadd dX12_tellFits_75 ?_
          obtain ⟨hf, h⟩ := h
          refine J_putI fp_RX12_468 dX12_tellFits_76 rfl hf ?_
          exact J_lv [0, 1, 2, 3] rfl (K_X12_tellFits_79   a0 (fun x1 x2 x3 st h => ih x1 x2 x3 st h) x1 x2 x3 (sI (sA st_4 r_5 (gI st_4 a0 54 : Int32).toNatClampNeg ((10 * x1) + x3)) a0 54 ((gI (sA st_4 r_5 (gI st_4 a0 54 : Int32).toNatClampNeg ((10 * x1) + x3)) a0 54) + 1)) h)
        · have h := h.2 hc
          refine J_goto 79 dX12_tellFits_51 (by decide) ?_
          exact J_lv [0, 1, 2, 3] rfl (K_X12_tellFits_79   a0 (fun x1 x2 x3 st h => ih x1 x2 x3 st h) x1 x2 x3 st_4 h)
set_option maxRecDepth 100000 in
set_option maxHeartbeats 4000000 in
theorem K_X12_tellFits_7 {l : Launch} {E : En}   (a0 : Nat)  {post : St → Prop}   : ∀ (n9 : Nat) (x1 : Int32) (st : St), P_X12_tellFits_7  a0  post n9 x1 st → Jg l E (CFc E) (Rm 9 0 0) cX12_tellFits 4 RX12 none (fun _ => True) (QV E post 0 0) 0 0 7 [(0, .ref a0), (1, .int x1)] [] st := by
  intro n9
  induction n9 with
  | zero => intro x1 st h; exact h.elim
  | succ n9 ih =>
    intro x1 st h
    unfold P_X12_tellFits_7 at h
    refine J_iload_n 1 dX12_tellFits_7 rfl rfl ?_
    refine J_aload_n 0 dX12_tellFits_8 rfl rfl ?_
    obtain ⟨r_1, hf, h⟩ := h
    refine J_getR fl_RX12_48 dX12_tellFits_9 hf ?_
    refine J_iconst 0 dX12_tellFits_12 (by decide) ?_
    obtain ⟨hi, h⟩ := h
    refine J_iald dX12_tellFits_13 hi ?_
    refine J_icmp_ge 98 dX12_tellFits_14 (by decide) (fun hc => ?_) (fun hc => ?_)
    · have h := h.1 hc
      exact J_retv rfl dX12_tellFits_98 h
    · have h := h.2 hc
      refine J_aload_n 0 dX12_tellFits_17 rfl rfl ?_
      obtain ⟨r_2, hf, h⟩ := h
      refine J_getR fl_RX12_90 dX12_tellFits_18 hf ?_
      refine J_iload_n 1 dX12_tellFits_21 rfl rfl ?_
      obtain ⟨hi, h⟩ := h
      refine J_iald dX12_tellFits_22 hi ?_
      refine J_istore_n _ dX12_tellFits_23 rfl (by decide) rfl ?_
      refine J_iconst 0 dX12_tellFits_24 (by decide) ?_
      refine J_istore_n _ dX12_tellFits_25 rfl (by decide) rfl ?_
      obtain ⟨n8, h⟩ := h
      exact J_lv [2, 3, 1, 0] rfl (K_X12_tellFits_26   a0 (fun x1 st h => ih x1 st h) n8 x1 (gA st r_2 (x1 : Int32).toNatClampNeg) 0 st h)
set_option maxRecDepth 100000 in
set_option maxHeartbeats 4000000 in
theorem ct_X12_tellFits {l : Launch} {E : En}  {a0 : Nat} {st : St} {post : St → Prop} (h : P_X12_tellFits  a0 st post) : CtV l E (CFc E) 9 0 0 yX12_tellFits cX12_tellFits 4 none [.ref a0] st post := by
  refine ctV_of (by decide) (Nat.le_of_ble_eq_true rfl) ?_
  show Jg l E (CFc E) (Rm 9 0 0) cX12_tellFits 4 RX12 none (fun _ => True) (QV E post 0 0) 0 0 0 [(0, .ref a0)] [] st
  unfold P_X12_tellFits at h
  refine J_aload_n 0 dX12_tellFits_0 rfl rfl ?_
  refine J_iconst 0 dX12_tellFits_1 (by decide) ?_
  obtain ⟨hf, h⟩ := h
  refine J_putI fp_RX12_468 dX12_tellFits_2 rfl hf ?_
  refine J_iconst 0 dX12_tellFits_5 (by decide) ?_
  refine J_istore_n _ dX12_tellFits_6 rfl (by decide) rfl ?_
  obtain ⟨n8, h⟩ := h
  exact J_lv [1, 0] rfl (K_X12_tellFits_7   a0  n8 0 (sI st a0 54 0) h)
/-! X12_hidden -/
def P_X12_hidden_73  (a0 : Nat) (a1 : Int32)  (post : Int32 → St → Prop) (s0 : Int32) (st : St) : Prop := post s0 st
def P_X12_hidden_40  (a0 : Nat) (a1 : Int32)  (post : Int32 → St → Prop) (s0 : Int32) (st : St) : Prop := post s0 st
def P_X12_hidden  (a0 : Nat) (a1 : Int32) (st : St) (post : Int32 → St → Prop) : Prop := fk a0 12 4 = some 0 ∧ P_X12_isIn  ((a1 : Int32).toInt64) 0 2 (sI st a0 4 0) (fun z_1 st_2 => ((¬ z_1 = 0 → ((¬ a1 = 2 → oC a0 12 ∧ P_X12_tellFits  a0 st_2 (fun st_4 => ((¬ a1 = 0 → fk a0 12 54 = some 0 ∧ ((¬ (gI st_4 a0 54) = 0 → ∃ r_5, rv st_4 a0 12 52 = some r_5 ∧ vp_in 0 (al 0 r_5) ∧ P_X12_hidden_73  a0 a1  post (gA st_4 r_5 (0 : Int32).toNatClampNeg) st_4) ∧ ((gI st_4 a0 54) = 0 → P_X12_hidden_73  a0 a1  post (-1) st_4))) ∧ (a1 = 0 → fk a0 12 54 = some 0 ∧ P_X12_hidden_73  a0 a1  post (gI st_4 a0 54) st_4)))) ∧ (a1 = 2 → oC a0 12 ∧ P_X12_isAsSeen  a0 st_2 (fun z_6 st_7 => ((z_6 = 0 → P_X12_hidden_40  a0 a1  post 0 st_7) ∧ (¬ z_6 = 0 → P_X12_hidden_40  a0 a1  post 1 st_7)))))) ∧ (z_1 = 0 → oC a0 12 ∧ P_X12_fail  a0 1 st_2 (fun z_8 st_9 => post z_8 st_9))))
set_option maxRecDepth 100000 in
set_option maxHeartbeats 4000000 in
theorem K_X12_hidden_73 {l : Launch} {E : En}   (a0 : Nat) (a1 : Int32)  {post : Int32 → St → Prop}   (s0 : Int32) (st : St) (h : P_X12_hidden_73  a0 a1  post s0 st) : Jg l E (CFc E) (Rm 10 0 0) cX12_hidden 2 RX12 (some .int) (fun _ => True) (QI E post 0 0) 0 0 73 [(0, .ref a0), (1, .int a1)] [.int s0] st := by
  unfold P_X12_hidden_73 at h
  exact J_reti rfl dX12_hidden_73 h
set_option maxRecDepth 100000 in
set_option maxHeartbeats 4000000 in
theorem K_X12_hidden_40 {l : Launch} {E : En}   (a0 : Nat) (a1 : Int32)  {post : Int32 → St → Prop}   (s0 : Int32) (st : St) (h : P_X12_hidden_40  a0 a1  post s0 st) : Jg l E (CFc E) (Rm 10 0 0) cX12_hidden 2 RX12 (some .int) (fun _ => True) (QI E post 0 0) 0 0 40 [(0, .ref a0), (1, .int a1)] [.int s0] st := by
  unfold P_X12_hidden_40 at h
  exact J_reti rfl dX12_hidden_40 h
set_option maxRecDepth 100000 in
set_option maxHeartbeats 4000000 in
theorem ct_X12_hidden {l : Launch} {E : En}  {a0 : Nat} {a1 : Int32} {st : St} {post : Int32 → St → Prop} (h : P_X12_hidden  a0 a1 st post) : CtI l E (CFc E) 10 0 0 yX12_hidden cX12_hidden 2 (some .int) [.ref a0, .int a1] st post := by
  refine ctI_of (by decide) (Nat.le_of_ble_eq_true rfl) ?_
  show Jg l E (CFc E) (Rm 10 0 0) cX12_hidden 2 RX12 (some .int) (fun _ => True) (QI E post 0 0) 0 0 0 [(0, .ref a0), (1, .int a1)] [] st
  unfold P_X12_hidden at h
  refine J_aload_n 0 dX12_hidden_0 rfl rfl ?_
  refine J_iconst 0 dX12_hidden_1 (by decide) ?_
  obtain ⟨hf, h⟩ := h
  refine J_putI fp_RX12_184 dX12_hidden_2 rfl hf ?_
  refine J_iload_n 1 dX12_hidden_5 rfl rfl ?_
  refine J_i2l dX12_hidden_6 ?_
  refine J_lconst 0 dX12_hidden_7 (by decide) ?_
  refine J_ldc2 k_1262 dX12_hidden_8 ?_
  refine J_csi (As := [_, _, _]) md_X12_isIn k_971 rfl rfl ⟨Nat.le_of_ble_eq_true rfl, Nat.le_of_ble_eq_true rfl⟩ ⟨Nat.le_of_ble_eq_true rfl, Nat.le_of_ble_eq_true rfl⟩ (Nat.le_of_ble_eq_true rfl) dX12_hidden_11 (ct_X12_isIn  h) (fun z_1 st_2 h => ?_)
  refine J_if_ne 23 dX12_hidden_14 (by decide) (fun hc => ?_) (fun hc => ?_)
  · have h := h.1 hc
    refine J_iload_n 1 dX12_hidden_23 rfl rfl ?_
    refine J_iconst 2 dX12_hidden_24 (by decide) ?_
    refine J_icmp_ne 41 dX12_hidden_25 (by decide) (fun hc => ?_) (fun hc => ?_)
    · have h := h.1 hc
      refine J_aload_n 0 dX12_hidden_41 rfl rfl ?_
      obtain ⟨ho, h⟩ := h
      refine J_cvv (As := []) md_X12_tellFits k_1263 (rc_obj cl_12 ho) rfl rfl ⟨Nat.le_of_ble_eq_true rfl, Nat.le_of_ble_eq_true rfl⟩ ⟨Nat.le_of_ble_eq_true rfl, Nat.le_of_ble_eq_true rfl⟩ (Nat.le_of_ble_eq_true rfl) dX12_hidden_42 (ct_X12_tellFits  h) (fun st_4 h => ?_)
      refine J_iload_n 1 dX12_hidden_45 rfl rfl ?_
      refine J_if_ne 56 dX12_hidden_46 (by decide) (fun hc => ?_) (fun hc => ?_)
      · have h := h.1 hc
        refine J_aload_n 0 dX12_hidden_56 rfl rfl ?_
        obtain ⟨hf, h⟩ := h
        refine J_getI fl_RX12_468 dX12_hidden_57 hf ?_
        refine J_if_ne 67 dX12_hidden_60 (by decide) (fun hc => ?_) (fun hc => ?_)
        · have h := h.1 hc
          refine J_aload_n 0 dX12_hidden_67 rfl rfl ?_
          obtain ⟨r_5, hf, h⟩ := h
          refine J_getR fl_RX12_148 dX12_hidden_68 hf ?_
          refine J_iconst 0 dX12_hidden_71 (by decide) ?_
          obtain ⟨hi, h⟩ := h
          refine J_iald dX12_hidden_72 hi ?_
          exact J_lv [0, 1] rfl (K_X12_hidden_73   a0 a1  (gA st_4 r_5 (0 : Int32).toNatClampNeg) st_4 h)
        · have h := h.2 hc
          refine J_iconst (-1) dX12_hidden_63 (by decide) ?_
          refine J_goto 73 dX12_hidden_64 (by decide) ?_
          exact J_lv [0, 1] rfl (K_X12_hidden_73   a0 a1  (-1) st_4 h)
      · have h := h.2 hc
        refine J_aload_n 0 dX12_hidden_49 rfl rfl ?_
        obtain ⟨hf, h⟩ := h
        refine J_getI fl_RX12_468 dX12_hidden_50 hf ?_
        refine J_goto 73 dX12_hidden_53 (by decide) ?_
        exact J_lv [0, 1] rfl (K_X12_hidden_73   a0 a1  (gI st_4 a0 54) st_4 h)
    · have h := h.2 hc
      refine J_aload_n 0 dX12_hidden_28 rfl rfl ?_
      obtain ⟨ho, h⟩ := h
      refine J_cvi (As := []) md_X12_isAsSeen k_1258 (rc_obj cl_12 ho) rfl rfl ⟨Nat.le_of_ble_eq_true rfl, Nat.le_of_ble_eq_true rfl⟩ ⟨Nat.le_of_ble_eq_true rfl, Nat.le_of_ble_eq_true rfl⟩ (Nat.le_of_ble_eq_true rfl) dX12_hidden_29 (ct_X12_isAsSeen  h) (fun z_6 st_7 h => ?_)
      refine J_if_eq 39 dX12_hidden_32 (by decide) (fun hc => ?_) (fun hc => ?_)
      · have h := h.1 hc
        refine J_iconst 0 dX12_hidden_39 (by decide) ?_
        exact J_lv [0, 1] rfl (K_X12_hidden_40   a0 a1  0 st_7 h)
      · have h := h.2 hc
        refine J_iconst 1 dX12_hidden_35 (by decide) ?_
        refine J_goto 40 dX12_hidden_36 (by decide) ?_
        exact J_lv [0, 1] rfl (K_X12_hidden_40   a0 a1  1 st_7 h)
  · have h := h.2 hc
    refine J_aload_n 0 dX12_hidden_17 rfl rfl ?_
    refine J_iconst 1 dX12_hidden_18 (by decide) ?_
    obtain ⟨ho, h⟩ := h
    refine J_cvi (As := [_]) md_X12_fail k_1093 (rc_obj cl_12 ho) rfl rfl ⟨Nat.le_of_ble_eq_true rfl, Nat.le_of_ble_eq_true rfl⟩ ⟨Nat.le_of_ble_eq_true rfl, Nat.le_of_ble_eq_true rfl⟩ (Nat.le_of_ble_eq_true rfl) dX12_hidden_19 (ct_X12_fail  h) (fun z_8 st_9 h => ?_)
    exact J_reti rfl dX12_hidden_22 h
/-! X12_unlike -/
def P_X12_unlike_79  (a0 : Nat) (a1 : Int32) (k4 : Int32 → Int32 → St → Prop) (post : Int32 → St → Prop) (x3 : Int32) (s0 : Int32) (s1 : Int32) (st : St) : Prop := k4 (s1 + s0) (x3 + 1) st
def P_X12_unlike_68  (a0 : Nat) (a1 : Int32) (k4 : Int32 → Int32 → St → Prop) (post : Int32 → St → Prop) (x2 : Int32) (x3 : Int32) (x4 : Int32) (st : St) : Prop := ((x4 = 0 → P_X12_unlike_79  a0 a1 k4 post x3 0 x2 st) ∧ (¬ x4 = 0 → P_X12_unlike_79  a0 a1 k4 post x3 1 x2 st))
def P_X12_unlike_60  (a0 : Nat) (a1 : Int32) (k18 : Int32 → Int32 → Int32 → Int32 → St → Prop) (post : Int32 → St → Prop) (x2 : Int32) (x3 : Int32) (x5 : Int32) (s0 : Int32) (st : St) : Prop := k18 x2 x3 s0 (x5 + 1) st
def P_X12_unlike_18  (a0 : Nat) (a1 : Int32) (k4 : Int32 → Int32 → St → Prop) (post : Int32 → St → Prop) : Nat → Int32 → Int32 → Int32 → Int32 → St → Prop
  | 0, _, _, _, _, _ => False
  | n9 + 1, x2, x3, x4, x5, st => ((x3 ≤ x5 → P_X12_unlike_68  a0 a1 k4 post x2 x3 x4 st) ∧ (¬ x3 ≤ x5 → ((x4 = 0 → P_X12_unlike_68  a0 a1 k4 post x2 x3 x4 st) ∧ (¬ x4 = 0 → ∃ r_1, rv st a0 12 53 = some r_1 ∧ vp_in ((6 * x5) + a1) (al 0 r_1) ∧ ∃ r_2, rv st a0 12 53 = some r_2 ∧ vp_in ((6 * x3) + a1) (al 0 r_2) ∧ (((gA st r_1 ((6 * x5) + a1 : Int32).toNatClampNeg) = (gA st r_2 ((6 * x3) + a1 : Int32).toNatClampNeg) → P_X12_unlike_60  a0 a1 (fun x2 x3 x4 x5 st => P_X12_unlike_18  a0 a1 k4 post n9 x2 x3 x4 x5 st) post x2 x3 x5 0 st) ∧ (¬ (gA st r_1 ((6 * x5) + a1 : Int32).toNatClampNeg) = (gA st r_2 ((6 * x3) + a1 : Int32).toNatClampNeg) → P_X12_unlike_60  a0 a1 (fun x2 x3 x4 x5 st => P_X12_unlike_18  a0 a1 k4 post n9 x2 x3 x4 x5 st) post x2 x3 x5 1 st))))))
def P_X12_unlike_4  (a0 : Nat) (a1 : Int32)  (post : Int32 → St → Prop) : Nat → Int32 → Int32 → St → Prop
  | 0, _, _, _ => False
  | n9 + 1, x2, x3, st => fk a0 12 54 = some 0 ∧ (((gI st a0 54) ≤ x3 → post x2 st) ∧ (¬ (gI st a0 54) ≤ x3 → ∃ n8, P_X12_unlike_18  a0 a1 (fun x2 x3 st => P_X12_unlike_4  a0 a1  post n9 x2 x3 st) post n8 x2 x3 1 0 st))
def P_X12_unlike  (a0 : Nat) (a1 : Int32) (st : St) (post : Int32 → St → Prop) : Prop := ∃ n8, P_X12_unlike_4  a0 a1  post n8 0 0 st
set_option maxRecDepth 100000 in
set_option maxHeartbeats 4000000 in
theorem K_X12_unlike_79 {l : Launch} {E : En}   (a0 : Nat) (a1 : Int32) {k4 : Int32 → Int32 → St → Prop} {post : Int32 → St → Prop}  (hk4 : ∀ (x2 : Int32) (x3 : Int32) (st : St), k4 x2 x3 st → Jg l E (CFc E) (Rm 1 0 0) cX12_unlike 6 RX12 (some .int) (fun _ => True) (QI E post 0 0) 0 0 4 [(0, .ref a0), (1, .int a1), (2, .int x2), (3, .int x3)] [] st) (x3 : Int32) (s0 : Int32) (s1 : Int32) (st : St) (h : P_X12_unlike_79  a0 a1 k4 post x3 s0 s1 st) : Jg l E (CFc E) (Rm 1 0 0) cX12_unlike 6 RX12 (some .int) (fun _ => True) (QI E post 0 0) 0 0 79 [(0, .ref a0), (1, .int a1), (3, .int x3)] [.int s0, .int s1] st := by
  unfold P_X12_unlike_79 at h
  refine J_iadd dX12_unlike_79 ?_
  refine J_istore_n _ dX12_unlike_80 rfl (by decide) rfl ?_
  refine J_iinc 3 (x3 + 1) _ dX12_unlike_81 rfl (by rfl) (by decide) rfl ?_
  refine J_goto 4 dX12_unlike_84 (by decide) ?_
  exact J_lv [2, 3, 1, 0] rfl (hk4 (s1 + s0) (x3 + 1) st h)
set_option maxRecDepth 100000 in
set_option maxHeartbeats 4000000 in
theorem K_X12_unlike_68 {l : Launch} {E : En}   (a0 : Nat) (a1 : Int32) {k4 : Int32 → Int32 → St → Prop} {post : Int32 → St → Prop}  (hk4 : ∀ (x2 : Int32) (x3 : Int32) (st : St), k4 x2 x3 st → Jg l E (CFc E) (Rm 1 0 0) cX12_unlike 6 RX12 (some .int) (fun _ => True) (QI E post 0 0) 0 0 4 [(0, .ref a0), (1, .int a1), (2, .int x2), (3, .int x3)] [] st) (x2 : Int32) (x3 : Int32) (x4 : Int32) (st : St) (h : P_X12_unlike_68  a0 a1 k4 post x2 x3 x4 st) : Jg l E (CFc E) (Rm 1 0 0) cX12_unlike 6 RX12 (some .int) (fun _ => True) (QI E post 0 0) 0 0 68 [(0, .ref a0), (1, .int a1), (2, .int x2), (3, .int x3), (4, .int x4)] [] st := by
  unfold P_X12_unlike_68 at h
  refine J_iload_n 2 dX12_unlike_68 rfl rfl ?_
  refine J_iload 4 dX12_unlike_69 rfl ?_
  refine J_if_eq 78 dX12_unlike_71 (by decide) (fun hc => ?_) (fun hc => ?_)
  · have h := h.1 hc
    refine J_iconst 0 dX12_unlike_78 (by decide) ?_
    exact J_lv [0, 1, 3] rfl (K_X12_unlike_79   a0 a1 hk4 x3 0 x2 st h)
  · have h := h.2 hc
    refine J_iconst 1 dX12_unlike_74 (by decide) ?_
    refine J_goto 79 dX12_unlike_75 (by decide) ?_
    exact J_lv [0, 1, 3] rfl (K_X12_unlike_79   a0 a1 hk4 x3 1 x2 st h)
set_option maxRecDepth 100000 in
set_option maxHeartbeats 4000000 in
theorem K_X12_unlike_60 {l : Launch} {E : En}   (a0 : Nat) (a1 : Int32) {k18 : Int32 → Int32 → Int32 → Int32 → St → Prop} {post : Int32 → St → Prop}  (hk18 : ∀ (x2 : Int32) (x3 : Int32) (x4 : Int32) (x5 : Int32) (st : St), k18 x2 x3 x4 x5 st → Jg l E (CFc E) (Rm 1 0 0) cX12_unlike 6 RX12 (some .int) (fun _ => True) (QI E post 0 0) 0 0 18 [(0, .ref a0), (1, .int a1), (2, .int x2), (3, .int x3), (4, .int x4), (5, .int x5)] [] st) (x2 : Int32) (x3 : Int32) (x5 : Int32) (s0 : Int32) (st : St) (h : P_X12_unlike_60  a0 a1 k18 post x2 x3 x5 s0 st) : Jg l E (CFc E) (Rm 1 0 0) cX12_unlike 6 RX12 (some .int) (fun _ => True) (QI E post 0 0) 0 0 60 [(0, .ref a0), (1, .int a1), (2, .int x2), (3, .int x3), (5, .int x5)] [.int s0] st := by
  unfold P_X12_unlike_60 at h
  refine J_istore _ dX12_unlike_60 (by decide) rfl ?_
  refine J_iinc 5 (x5 + 1) _ dX12_unlike_62 rfl (by rfl) (by decide) rfl ?_
  refine J_goto 18 dX12_unlike_65 (by decide) ?_
  exact J_lv [2, 3, 4, 5, 1, 0] rfl (hk18 x2 x3 s0 (x5 + 1) st h)
set_option maxRecDepth 100000 in
set_option maxHeartbeats 4000000 in
theorem K_X12_unlike_18 {l : Launch} {E : En}   (a0 : Nat) (a1 : Int32) {k4 : Int32 → Int32 → St → Prop} {post : Int32 → St → Prop}  (hk4 : ∀ (x2 : Int32) (x3 : Int32) (st : St), k4 x2 x3 st → Jg l E (CFc E) (Rm 1 0 0) cX12_unlike 6 RX12 (some .int) (fun _ => True) (QI E post 0 0) 0 0 4 [(0, .ref a0), (1, .int a1), (2, .int x2), (3, .int x3)] [] st) : ∀ (n9 : Nat) (x2 : Int32) (x3 : Int32) (x4 : Int32) (x5 : Int32) (st : St), P_X12_unlike_18  a0 a1 k4 post n9 x2 x3 x4 x5 st → Jg l E (CFc E) (Rm 1 0 0) cX12_unlike 6 RX12 (some .int) (fun _ => True) (QI E post 0 0) 0 0 18 [(0, .ref a0), (1, .int a1), (2, .int x2), (3, .int x3), (4, .int x4), (5, .int x5)] [] st := by
  intro n9
  induction n9 with
  | zero => intro x2 x3 x4 x5 st h; exact h.elim
  | succ n9 ih =>
    intro x2 x3 x4 x5 st h
    unfold P_X12_unlike_18 at h
    refine J_iload 5 dX12_unlike_18 rfl ?_
    refine J_iload_n 3 dX12_unlike_20 rfl rfl ?_
    refine J_icmp_ge 68 dX12_unlike_21 (by decide) (fun hc => ?_) (fun hc => ?_)
    · have h := h.1 hc
      exact J_lv [0, 1, 2, 3, 4] rfl (K_X12_unlike_68   a0 a1 hk4 x2 x3 x4 st h)
    · have h := h.2 hc
      refine J_iload 4 dX12_unlike_24 rfl ?_
      refine J_if_eq 68 dX12_unlike_26 (by decide) (fun hc => ?_) (fun hc => ?_)
      · have h := h.1 hc
        exact J_lv [0, 1, 2, 3, 4] rfl (K_X12_unlike_68   a0 a1 hk4 x2 x3 x4 st h)
      · have h := h.2 hc
        refine J_aload_n 0 dX12_unlike_29 rfl rfl ?_
        obtain ⟨r_1, hf, h⟩ := h
        refine J_getR fl_RX12_151 dX12_unlike_30 hf ?_
        refine J_bipush 6 dX12_unlike_33 (by decide) ?_
        refine J_iload 5 dX12_unlike_35 rfl ?_
        refine J_imul dX12_unlike_37 ?_
        refine J_iload_n 1 dX12_unlike_38 rfl rfl ?_
        refine J_iadd dX12_unlike_39 ?_
        obtain ⟨hi, h⟩ := h
        refine J_iald dX12_unlike_40 hi ?_
        refine J_aload_n 0 dX12_unlike_41 rfl rfl ?_
        obtain ⟨r_2, hf, h⟩ := h
        refine J_getR fl_RX12_151 dX12_unlike_42 hf ?_
        refine J_bipush 6 dX12_unlike_45 (by decide) ?_
        refine J_iload_n 3 dX12_unlike_47 rfl rfl ?_
        refine J_imul dX12_unlike_48 ?_
        refine J_iload_n 1 dX12_unlike_49 rfl rfl ?_
        refine J_iadd dX12_unlike_50 ?_
        obtain ⟨hi, h⟩ := h
        refine J_iald dX12_unlike_51 hi ?_
        refine J_icmp_eq 59 dX12_unlike_52 (by decide) (fun hc => ?_) (fun hc => ?_)
        · have h := h.1 hc
          refine J_iconst 0 dX12_unlike_59 (by decide) ?_
          exact J_lv [0, 1, 2, 3, 5] rfl (K_X12_unlike_60   a0 a1 (fun x2 x3 x4 x5 st h => ih x2 x3 x4 x5 st h) x2 x3 x5 0 st h)
        · have h := h.2 hc
          refine J_iconst 1 dX12_unlike_55 (by decide) ?_
          refine J_goto 60 dX12_unlike_56 (by decide) ?_
          exact J_lv [0, 1, 2, 3, 5] rfl (K_X12_unlike_60   a0 a1 (fun x2 x3 x4 x5 st h => ih x2 x3 x4 x5 st h) x2 x3 x5 1 st h)
set_option maxRecDepth 100000 in
set_option maxHeartbeats 4000000 in
theorem K_X12_unlike_4 {l : Launch} {E : En}   (a0 : Nat) (a1 : Int32)  {post : Int32 → St → Prop}   : ∀ (n9 : Nat) (x2 : Int32) (x3 : Int32) (st : St), P_X12_unlike_4  a0 a1  post n9 x2 x3 st → Jg l E (CFc E) (Rm 1 0 0) cX12_unlike 6 RX12 (some .int) (fun _ => True) (QI E post 0 0) 0 0 4 [(0, .ref a0), (1, .int a1), (2, .int x2), (3, .int x3)] [] st := by
  intro n9
  induction n9 with
  | zero => intro x2 x3 st h; exact h.elim
  | succ n9 ih =>
    intro x2 x3 st h
    unfold P_X12_unlike_4 at h
    refine J_iload_n 3 dX12_unlike_4 rfl rfl ?_
    refine J_aload_n 0 dX12_unlike_5 rfl rfl ?_
    obtain ⟨hf, h⟩ := h
    refine J_getI fl_RX12_468 dX12_unlike_6 hf ?_
    refine J_icmp_ge 87 dX12_unlike_9 (by decide) (fun hc => ?_) (fun hc => ?_)
    · have h := h.1 hc
      refine J_iload_n 2 dX12_unlike_87 rfl rfl ?_
      exact J_reti rfl dX12_unlike_88 h
    · have h := h.2 hc
      refine J_iconst 1 dX12_unlike_12 (by decide) ?_
      refine J_istore _ dX12_unlike_13 (by decide) rfl ?_
      refine J_iconst 0 dX12_unlike_15 (by decide) ?_
      refine J_istore _ dX12_unlike_16 (by decide) rfl ?_
      obtain ⟨n8, h⟩ := h
      exact J_lv [2, 3, 4, 5, 1, 0] rfl (K_X12_unlike_18   a0 a1 (fun x2 x3 st h => ih x2 x3 st h) n8 x2 x3 1 0 st h)
set_option maxRecDepth 100000 in
set_option maxHeartbeats 4000000 in
theorem ct_X12_unlike {l : Launch} {E : En}  {a0 : Nat} {a1 : Int32} {st : St} {post : Int32 → St → Prop} (h : P_X12_unlike  a0 a1 st post) : CtI l E (CFc E) 1 0 0 yX12_unlike cX12_unlike 6 (some .int) [.ref a0, .int a1] st post := by
  refine ctI_of (by decide) (Nat.le_of_ble_eq_true rfl) ?_
  show Jg l E (CFc E) (Rm 1 0 0) cX12_unlike 6 RX12 (some .int) (fun _ => True) (QI E post 0 0) 0 0 0 [(0, .ref a0), (1, .int a1)] [] st
  unfold P_X12_unlike at h
  refine J_iconst 0 dX12_unlike_0 (by decide) ?_
  refine J_istore_n _ dX12_unlike_1 rfl (by decide) rfl ?_
  refine J_iconst 0 dX12_unlike_2 (by decide) ?_
  refine J_istore_n _ dX12_unlike_3 rfl (by decide) rfl ?_
  obtain ⟨n8, h⟩ := h
  exact J_lv [2, 3, 1, 0] rfl (K_X12_unlike_4   a0 a1  n8 0 0 st h)
/-! X12_next -/
def P_X12_next_176  (a0 : Nat) (a1 : Int32)  (post : Int32 → St → Prop) (s0 : Int32) (st : St) : Prop := post s0 st
def P_X12_next_161  (a0 : Nat) (a1 : Int32) (k127 : Int32 → Int32 → Int32 → St → Prop) (post : Int32 → St → Prop) (x2 : Int32) (x3 : Int32) (x4 : Int32) (st : St) : Prop := k127 x2 x3 (x4 + 1) st
def P_X12_next_127  (a0 : Nat) (a1 : Int32)  (post : Int32 → St → Prop) : Nat → Int32 → Int32 → Int32 → St → Prop
  | 0, _, _, _, _ => False
  | n9 + 1, x2, x3, x4, st => ∃ r_1, rv st a0 12 5 = some r_1 ∧ vp_in 1 (al 0 r_1) ∧ (((gA st r_1 (1 : Int32).toNatClampNeg) ≤ x4 → ((¬ a1 = 0 → P_X12_next_176  a0 a1  post x3 st) ∧ (a1 = 0 → P_X12_next_176  a0 a1  post x2 st))) ∧ (¬ (gA st r_1 (1 : Int32).toNatClampNeg) ≤ x4 → oC a0 12 ∧ P_X12_unlike  a0 x4 st (fun z_2 st_3 => ((x3 < z_2 → P_X12_next_161  a0 a1 (fun x2 x3 x4 st => P_X12_next_127  a0 a1  post n9 x2 x3 x4 st) post x4 z_2 x4 st_3) ∧ (¬ x3 < z_2 → P_X12_next_161  a0 a1 (fun x2 x3 x4 st => P_X12_next_127  a0 a1  post n9 x2 x3 x4 st) post x2 x3 x4 st_3)))))
def P_X12_next_82  (a0 : Nat) (a1 : Int32) (k26 : Int32 → St → Prop) (post : Int32 → St → Prop) : Nat → Int32 → Int32 → St → Prop
  | 0, _, _, _ => False
  | n9 + 1, x2, x5, st => ((6 ≤ x5 → k26 (x2 + 1) st) ∧ (¬ 6 ≤ x5 → ∃ r_1, rv st a0 12 53 = some r_1 ∧ ∃ r_2, rv st a0 12 44 = some r_2 ∧ vp_in x5 (al 0 r_2) ∧ vp_in ((6 * x2) + x5) (al 0 r_1) ∧ P_X12_next_82  a0 a1 k26 post n9 x2 (x5 + 1) (sA st r_1 ((6 * x2) + x5 : Int32).toNatClampNeg (gA st r_2 (x5 : Int32).toNatClampNeg))))
def P_X12_next_26  (a0 : Nat) (a1 : Int32)  (post : Int32 → St → Prop) : Nat → Int32 → St → Prop
  | 0, _, _ => False
  | n9 + 1, x2, st => fk a0 12 54 = some 0 ∧ (((gI st a0 54) ≤ x2 → ∃ n8, P_X12_next_127  a0 a1  post n8 (-1) 0 0 st) ∧ (¬ (gI st a0 54) ≤ x2 → ∃ r_1, rv st a0 12 52 = some r_1 ∧ vp_in x2 (al 0 r_1) ∧ ∃ r_2, rv st a0 12 29 = some r_2 ∧ vp_in ((gA st r_1 (x2 : Int32).toNatClampNeg) / 10) (al 0 r_2) ∧ ∃ r_3, rv st a0 12 29 = some r_3 ∧ ∃ r_4, rv st a0 12 52 = some r_4 ∧ vp_in x2 (al 0 r_4) ∧ vp_in ((gA st r_1 (x2 : Int32).toNatClampNeg) / 10) (al 0 r_3) ∧ oC a0 12 ∧ P_X12_tellLeaders  a0 (sA st r_3 ((gA st r_1 (x2 : Int32).toNatClampNeg) / 10 : Int32).toNatClampNeg ((gA st r_4 (x2 : Int32).toNatClampNeg) - (gA st r_4 (x2 : Int32).toNatClampNeg) / 10 * 10)) (fun st_6 => ∃ r_7, rv st_6 a0 12 29 = some r_7 ∧ vp_in ((gA st r_1 (x2 : Int32).toNatClampNeg) / 10) (al 0 r_7) ∧ ∃ n8, P_X12_next_82  a0 a1 (fun x2 st => P_X12_next_26  a0 a1  post n9 x2 st) post n8 x2 0 (sA st_6 r_7 ((gA st r_1 (x2 : Int32).toNatClampNeg) / 10 : Int32).toNatClampNeg (gA st r_2 ((gA st r_1 (x2 : Int32).toNatClampNeg) / 10 : Int32).toNatClampNeg)))))
def P_X12_next_14  (a0 : Nat) (a1 : Int32)  (post : Int32 → St → Prop)  (st : St) : Prop := oC a0 12 ∧ P_X12_fail  a0 1 st (fun z_1 st_2 => post z_1 st_2)
def P_X12_next  (a0 : Nat) (a1 : Int32) (st : St) (post : Int32 → St → Prop) : Prop := fk a0 12 4 = some 0 ∧ ((a1 < 0 → P_X12_next_14  a0 a1  post (sI st a0 4 0)) ∧ (¬ a1 < 0 → ((a1 ≤ 1 → oC a0 12 ∧ P_X12_tellFits  a0 (sI st a0 4 0) (fun st_2 => ∃ n8, P_X12_next_26  a0 a1  post n8 0 st_2)) ∧ (¬ a1 ≤ 1 → P_X12_next_14  a0 a1  post (sI st a0 4 0)))))
set_option maxRecDepth 100000 in
set_option maxHeartbeats 4000000 in
theorem K_X12_next_176 {l : Launch} {E : En}   (a0 : Nat) (a1 : Int32)  {post : Int32 → St → Prop}   (s0 : Int32) (st : St) (h : P_X12_next_176  a0 a1  post s0 st) : Jg l E (CFc E) (Rm 10 0 0) cX12_next 6 RX12 (some .int) (fun _ => True) (QI E post 0 0) 0 0 176 [(0, .ref a0), (1, .int a1)] [.int s0] st := by
  unfold P_X12_next_176 at h
  exact J_reti rfl dX12_next_176 h
set_option maxRecDepth 100000 in
set_option maxHeartbeats 4000000 in
theorem K_X12_next_161 {l : Launch} {E : En}   (a0 : Nat) (a1 : Int32) {k127 : Int32 → Int32 → Int32 → St → Prop} {post : Int32 → St → Prop}  (hk127 : ∀ (x2 : Int32) (x3 : Int32) (x4 : Int32) (st : St), k127 x2 x3 x4 st → Jg l E (CFc E) (Rm 10 0 0) cX12_next 6 RX12 (some .int) (fun _ => True) (QI E post 0 0) 0 0 127 [(0, .ref a0), (1, .int a1), (2, .int x2), (3, .int x3), (4, .int x4)] [] st) (x2 : Int32) (x3 : Int32) (x4 : Int32) (st : St) (h : P_X12_next_161  a0 a1 k127 post x2 x3 x4 st) : Jg l E (CFc E) (Rm 10 0 0) cX12_next 6 RX12 (some .int) (fun _ => True) (QI E post 0 0) 0 0 161 [(0, .ref a0), (1, .int a1), (2, .int x2), (3, .int x3), (4, .int x4)] [] st := by
  unfold P_X12_next_161 at h
  refine J_iinc 4 (x4 + 1) _ dX12_next_161 rfl (by rfl) (by decide) rfl ?_
  refine J_goto 127 dX12_next_164 (by decide) ?_
  exact J_lv [1, 2, 3, 4, 0] rfl (hk127 x2 x3 (x4 + 1) st h)
set_option maxRecDepth 100000 in
set_option maxHeartbeats 4000000 in
theorem K_X12_next_127 {l : Launch} {E : En}   (a0 : Nat) (a1 : Int32)  {post : Int32 → St → Prop}   : ∀ (n9 : Nat) (x2 : Int32) (x3 : Int32) (x4 : Int32) (st : St), P_X12_next_127  a0 a1  post n9 x2 x3 x4 st → Jg l E (CFc E) (Rm 10 0 0) cX12_next 6 RX12 (some .int) (fun _ => True) (QI E post 0 0) 0 0 127 [(0, .ref a0), (1, .int a1), (2, .int x2), (3, .int x3), (4, .int x4)] [] st := by
  intro n9
  induction n9 with
  | zero => intro x2 x3 x4 st h; exact h.elim
  | succ n9 ih =>
    intro x2 x3 x4 st h
    unfold P_X12_next_127 at h
    refine J_iload 4 dX12_next_127 rfl ?_
    refine J_aload_n 0 dX12_next_129 rfl rfl ?_
    obtain ⟨r_1, hf, h⟩ := h
    refine J_getR fl_RX12_48 dX12_next_130 hf ?_
    refine J_iconst 1 dX12_next_133 (by decide) ?_
    obtain ⟨hi, h⟩ := h
    refine J_iald dX12_next_134 hi ?_
    refine J_icmp_ge 167 dX12_next_135 (by decide) (fun hc => ?_) (fun hc => ?_)
    · have h := h.1 hc
      refine J_iload_n 1 dX12_next_167 rfl rfl ?_
      refine J_if_ne 175 dX12_next_168 (by decide) (fun hc => ?_) (fun hc => ?_)
      · have h := h.1 hc
        refine J_iload_n 3 dX12_next_175 rfl rfl ?_
        exact J_lv [0, 1] rfl (K_X12_next_176   a0 a1  x3 st h)
      · have h := h.2 hc
        refine J_iload_n 2 dX12_next_171 rfl rfl ?_
        refine J_goto 176 dX12_next_172 (by decide) ?_
        exact J_lv [0, 1] rfl (K_X12_next_176   a0 a1  x2 st h)
    · have h := h.2 hc
      refine J_aload_n 0 dX12_next_138 rfl rfl ?_
      refine J_iload 4 dX12_next_139 rfl ?_
      obtain ⟨ho, h⟩ := h
      refine J_cvi (As := [_]) md_X12_unlike k_1268 (rc_obj cl_12 ho) rfl rfl ⟨Nat.le_of_ble_eq_true rfl, Nat.le_of_ble_eq_true rfl⟩ ⟨Nat.le_of_ble_eq_true rfl, Nat.le_of_ble_eq_true rfl⟩ (Nat.le_of_ble_eq_true rfl) dX12_next_141 (ct_X12_unlike  h) (fun z_2 st_3 h => ?_)
      refine J_istore _ dX12_next_144 (by decide) rfl ?_
      refine J_iload 0 dX12_next_146 rfl ?_
      refine J_iload_n 4 dX12_next_148 rfl rfl ?_
      refine J_icmp_gt 155 dX12_next_149 (by decide) (fun hc => ?_) (fun hc => ?_)
      · have h := h.1 hc
        refine J_iload 5 dX12_next_155 rfl ?_
        refine J_istore_n _ dX12_next_157 rfl (by decide) rfl ?_
        refine J_iload 1 dX12_next_158 rfl ?_
        refine J_istore_n _ dX12_next_160 rfl (by decide) rfl ?_
        exact J_lv [3, 4, 1, 0, 5] rfl (K_X12_next_161   a0 a1 (fun x2 x3 x4 st h => ih x2 x3 x4 st h) x4 z_2 x4 st_3 h)
      · have h := h.2 hc
        refine J_goto 161 dX12_next_152 (by decide) ?_
        exact J_lv [1, 2, 3, 4, 5] rfl (K_X12_next_161   a0 a1 (fun x2 x3 x4 st h => ih x2 x3 x4 st h) x2 x3 x4 st_3 h)
set_option maxRecDepth 100000 in
set_option maxHeartbeats 4000000 in
theorem K_X12_next_82 {l : Launch} {E : En}   (a0 : Nat) (a1 : Int32) {k26 : Int32 → St → Prop} {post : Int32 → St → Prop}  (hk26 : ∀ (x2 : Int32) (st : St), k26 x2 st → Jg l E (CFc E) (Rm 10 0 0) cX12_next 6 RX12 (some .int) (fun _ => True) (QI E post 0 0) 0 0 26 [(0, .ref a0), (1, .int a1), (2, .int x2)] [] st) : ∀ (n9 : Nat) (x2 : Int32) (x5 : Int32) (st : St), P_X12_next_82  a0 a1 k26 post n9 x2 x5 st → Jg l E (CFc E) (Rm 10 0 0) cX12_next 6 RX12 (some .int) (fun _ => True) (QI E post 0 0) 0 0 82 [(0, .ref a0), (1, .int a1), (2, .int x2), (5, .int x5)] [] st := by
  intro n9
  induction n9 with
  | zero => intro x2 x5 st h; exact h.elim
  | succ n9 ih =>
    intro x2 x5 st h
    unfold P_X12_next_82 at h
    refine J_iload 3 dX12_next_82 rfl ?_
    refine J_bipush 6 dX12_next_84 (by decide) ?_
    refine J_icmp_ge 114 dX12_next_86 (by decide) (fun hc => ?_) (fun hc => ?_)
    · have h := h.1 hc
      refine J_iinc 2 (x2 + 1) _ dX12_next_114 rfl (by rfl) (by decide) rfl ?_
      refine J_goto 26 dX12_next_117 (by decide) ?_
      exact J_lv [1, 2, 0] rfl (hk26 (x2 + 1) st h)
    · have h := h.2 hc
      refine J_aload_n 0 dX12_next_89 rfl rfl ?_
      obtain ⟨r_1, hf, h⟩ := h
      refine J_getR fl_RX12_151 dX12_next_90 hf ?_
      refine J_bipush 6 dX12_next_93 (by decide) ?_
      refine J_iload_n 2 dX12_next_95 rfl rfl ?_
      refine J_imul dX12_next_96 ?_
      refine J_iload 3 dX12_next_97 rfl ?_
      refine J_iadd dX12_next_99 ?_
      refine J_aload_n 0 dX12_next_100 rfl rfl ?_
      obtain ⟨r_2, hf, h⟩ := h
      refine J_getR fl_RX12_123 dX12_next_101 hf ?_
      refine J_iload 3 dX12_next_104 rfl ?_
      obtain ⟨hi, h⟩ := h
      refine J_iald dX12_next_106 hi ?_
      obtain ⟨hi, h⟩ := h
      refine J_iast dX12_next_107 hi ?_
      refine J_iinc 3 (x5 + 1) _ dX12_next_108 rfl (by rfl) (by decide) rfl ?_
      refine J_goto 82 dX12_next_111 (by decide) ?_
      exact J_lv [1, 2, 3, 0] rfl (ih x2 (x5 + 1) (sA st r_1 ((6 * x2) + x5 : Int32).toNatClampNeg (gA st r_2 (x5 : Int32).toNatClampNeg)) h)
set_option maxRecDepth 100000 in
set_option maxHeartbeats 4000000 in
theorem K_X12_next_26 {l : Launch} {E : En}   (a0 : Nat) (a1 : Int32)  {post : Int32 → St → Prop}   : ∀ (n9 : Nat) (x2 : Int32) (st : St), P_X12_next_26  a0 a1  post n9 x2 st → Jg l E (CFc E) (Rm 10 0 0) cX12_next 6 RX12 (some .int) (fun _ => True) (QI E post 0 0) 0 0 26 [(0, .ref a0), (1, .int a1), (2, .int x2)] [] st := by
  intro n9
  induction n9 with
  | zero => intro x2 st h; exact h.elim
  | succ n9 ih =>
    intro x2 st h
    unfold P_X12_next_26 at h
    refine J_iload_n 2 dX12_next_26 rfl rfl ?_
    refine J_aload_n 0 dX12_next_27 rfl rfl ?_
    obtain ⟨hf, h⟩ := h
    refine J_getI fl_RX12_468 dX12_next_28 hf ?_
    refine J_icmp_ge 120 dX12_next_31 (by decide) (fun hc => ?_) (fun hc => ?_)
    · have h := h.1 hc
      refine J_iconst (-1) dX12_next_120 (by decide) ?_
      refine J_istore_n _ dX12_next_121 rfl (by decide) rfl ?_
      refine J_iconst 0 dX12_next_122 (by decide) ?_
      refine J_istore_n _ dX12_next_123 rfl (by decide) rfl ?_
      refine J_iconst 0 dX12_next_124 (by decide) ?_
      refine J_istore _ dX12_next_125 (by decide) rfl ?_
      obtain ⟨n8, h⟩ := h
      exact J_lv [3, 4, 2, 1, 0] rfl (K_X12_next_127   a0 a1  n8 (-1) 0 0 st h)
    · have h := h.2 hc
      refine J_aload_n 0 dX12_next_34 rfl rfl ?_
      obtain ⟨r_1, hf, h⟩ := h
      refine J_getR fl_RX12_148 dX12_next_35 hf ?_
      refine J_iload_n 2 dX12_next_38 rfl rfl ?_
      obtain ⟨hi, h⟩ := h
      refine J_iald dX12_next_39 hi ?_
      refine J_bipush 10 dX12_next_40 (by decide) ?_
      refine J_idiv dX12_next_42 (by decide) ?_
      refine J_istore_n _ dX12_next_43 rfl (by decide) rfl ?_
      refine J_aload_n 1 dX12_next_44 rfl rfl ?_
      obtain ⟨r_2, hf, h⟩ := h
      refine J_getR fl_RX12_90 dX12_next_45 hf ?_
      refine J_iload_n 0 dX12_next_48 rfl rfl ?_
      obtain ⟨hi, h⟩ := h
      refine J_iald dX12_next_49 hi ?_
      refine J_istore _ dX12_next_50 (by decide) rfl ?_
      refine J_aload_n 2 dX12_next_52 rfl rfl ?_
      obtain ⟨r_3, hf, h⟩ := h
      refine J_getR fl_RX12_90 dX12_next_53 hf ?_
      refine J_iload_n 1 dX12_next_56 rfl rfl ?_
      refine J_aload_n 2 dX12_next_57 rfl rfl ?_
      obtain ⟨r_4, hf, h⟩ := h
      refine J_getR fl_RX12_148 dX12_next_58 hf ?_
      refine J_iload_n 4 dX12_next_61 rfl rfl ?_
      obtain ⟨hi, h⟩ := h
      refine J_iald dX12_next_62 hi ?_
      refine J_bipush 10 dX12_next_63 (by decide) ?_
      refine J_irem dX12_next_65 (by decide) ?_
      obtain ⟨hi, h⟩ := h
      refine J_iast dX12_next_66 hi ?_
      refine J_aload_n 2 dX12_next_67 rfl rfl ?_
      obtain ⟨ho, h⟩ := h
      refine J_cvv (As := []) md_X12_tellLeaders k_1219 (rc_obj cl_12 ho) rfl rfl ⟨Nat.le_of_ble_eq_true rfl, Nat.le_of_ble_eq_true rfl⟩ ⟨Nat.le_of_ble_eq_true rfl, Nat.le_of_ble_eq_true rfl⟩ (Nat.le_of_ble_eq_true rfl) dX12_next_68 (ct_X12_tellLeaders  h) (fun st_6 h => ?_)
      refine J_aload_n 2 dX12_next_71 rfl rfl ?_
      obtain ⟨r_7, hf, h⟩ := h
      refine J_getR fl_RX12_90 dX12_next_72 hf ?_
      refine J_iload_n 1 dX12_next_75 rfl rfl ?_
      refine J_iload 0 dX12_next_76 rfl ?_
      obtain ⟨hi, h⟩ := h
      refine J_iast dX12_next_78 hi ?_
      refine J_iconst 0 dX12_next_79 (by decide) ?_
      refine J_istore _ dX12_next_80 (by decide) rfl ?_
      obtain ⟨n8, h⟩ := h
      exact J_lv [3, 4, 5, 0] rfl (K_X12_next_82   a0 a1 (fun x2 st h => ih x2 st h) n8 x2 0 (sA st_6 r_7 ((gA st r_1 (x2 : Int32).toNatClampNeg) / 10 : Int32).toNatClampNeg (gA st r_2 ((gA st r_1 (x2 : Int32).toNatClampNeg) / 10 : Int32).toNatClampNeg)) h)
set_option maxRecDepth 100000 in
set_option maxHeartbeats 4000000 in
theorem K_X12_next_14 {l : Launch} {E : En}   (a0 : Nat) (a1 : Int32)  {post : Int32 → St → Prop}    (st : St) (h : P_X12_next_14  a0 a1  post  st) : Jg l E (CFc E) (Rm 10 0 0) cX12_next 6 RX12 (some .int) (fun _ => True) (QI E post 0 0) 0 0 14 [(0, .ref a0), (1, .int a1)] [] st := by
  unfold P_X12_next_14 at h
  refine J_aload_n 0 dX12_next_14 rfl rfl ?_
  refine J_iconst 1 dX12_next_15 (by decide) ?_
  obtain ⟨ho, h⟩ := h
  refine J_cvi (As := [_]) md_X12_fail k_1093 (rc_obj cl_12 ho) rfl rfl ⟨Nat.le_of_ble_eq_true rfl, Nat.le_of_ble_eq_true rfl⟩ ⟨Nat.le_of_ble_eq_true rfl, Nat.le_of_ble_eq_true rfl⟩ (Nat.le_of_ble_eq_true rfl) dX12_next_16 (ct_X12_fail  h) (fun z_1 st_2 h => ?_)
  exact J_reti rfl dX12_next_19 h
set_option maxRecDepth 100000 in
set_option maxHeartbeats 4000000 in
theorem ct_X12_next {l : Launch} {E : En}  {a0 : Nat} {a1 : Int32} {st : St} {post : Int32 → St → Prop} (h : P_X12_next  a0 a1 st post) : CtI l E (CFc E) 10 0 0 yX12_next cX12_next 6 (some .int) [.ref a0, .int a1] st post := by
  refine ctI_of (by decide) (Nat.le_of_ble_eq_true rfl) ?_
  show Jg l E (CFc E) (Rm 10 0 0) cX12_next 6 RX12 (some .int) (fun _ => True) (QI E post 0 0) 0 0 0 [(0, .ref a0), (1, .int a1)] [] st
  unfold P_X12_next at h
  refine J_aload_n 0 dX12_next_0 rfl rfl ?_
  refine J_iconst 0 dX12_next_1 (by decide) ?_
  obtain ⟨hf, h⟩ := h
  refine J_putI fp_RX12_184 dX12_next_2 rfl hf ?_
  refine J_iload_n 1 dX12_next_5 rfl rfl ?_
  refine J_if_lt 14 dX12_next_6 (by decide) (fun hc => ?_) (fun hc => ?_)
  · have h := h.1 hc
    exact J_lv [0, 1] rfl (K_X12_next_14   a0 a1  (sI st a0 4 0) h)
  · have h := h.2 hc
    refine J_iload_n 1 dX12_next_9 rfl rfl ?_
    refine J_iconst 1 dX12_next_10 (by decide) ?_
    refine J_icmp_le 20 dX12_next_11 (by decide) (fun hc => ?_) (fun hc => ?_)
    · have h := h.1 hc
      refine J_aload_n 0 dX12_next_20 rfl rfl ?_
      obtain ⟨ho, h⟩ := h
      refine J_cvv (As := []) md_X12_tellFits k_1263 (rc_obj cl_12 ho) rfl rfl ⟨Nat.le_of_ble_eq_true rfl, Nat.le_of_ble_eq_true rfl⟩ ⟨Nat.le_of_ble_eq_true rfl, Nat.le_of_ble_eq_true rfl⟩ (Nat.le_of_ble_eq_true rfl) dX12_next_21 (ct_X12_tellFits  h) (fun st_2 h => ?_)
      refine J_iconst 0 dX12_next_24 (by decide) ?_
      refine J_istore_n _ dX12_next_25 rfl (by decide) rfl ?_
      obtain ⟨n8, h⟩ := h
      exact J_lv [1, 2, 0] rfl (K_X12_next_26   a0 a1  n8 0 st_2 h)
    · have h := h.2 hc
      exact J_lv [0, 1] rfl (K_X12_next_14   a0 a1  (sI st a0 4 0) h)
/-! X12_forget -/
def P_X12_forget  (a0 : Nat) (st : St) (post : St → Prop) : Prop := fk a0 12 4 = some 0 ∧ fk a0 12 39 = some 0 ∧ post (sI (sI st a0 4 0) a0 39 0)
set_option maxRecDepth 100000 in
set_option maxHeartbeats 4000000 in
theorem ct_X12_forget {l : Launch} {E : En}  {a0 : Nat} {st : St} {post : St → Prop} (h : P_X12_forget  a0 st post) : CtV l E (CFc E) 1 0 0 yX12_forget cX12_forget 1 none [.ref a0] st post := by
  refine ctV_of (by decide) (Nat.le_of_ble_eq_true rfl) ?_
  show Jg l E (CFc E) (Rm 1 0 0) cX12_forget 1 RX12 none (fun _ => True) (QV E post 0 0) 0 0 0 [(0, .ref a0)] [] st
  unfold P_X12_forget at h
  refine J_aload_n 0 dX12_forget_0 rfl rfl ?_
  refine J_iconst 0 dX12_forget_1 (by decide) ?_
  obtain ⟨hf, h⟩ := h
  refine J_putI fp_RX12_184 dX12_forget_2 rfl hf ?_
  refine J_aload_n 0 dX12_forget_5 rfl rfl ?_
  refine J_iconst 0 dX12_forget_6 (by decide) ?_
  obtain ⟨hf, h⟩ := h
  refine J_putI fp_RX12_350 dX12_forget_7 rfl hf ?_
  exact J_retv rfl dX12_forget_10 h
/-! X12_choose -/
def P_X12_choose_46  (a0 : Nat) (a1 : Int32) (a2 : Int32)  (post : St → Prop)  (st : St) : Prop := post st
def P_X12_choose  (a0 : Nat) (a1 : Int32) (a2 : Int32) (st : St) (post : St → Prop) : Prop := ((¬ a2 = 1 → ∃ r_1, rv st a0 12 29 = some r_1 ∧ ∃ r_2, rv st a0 12 29 = some r_2 ∧ vp_in a1 (al 0 r_2) ∧ vp_in a1 (al 0 r_1) ∧ P_X12_choose_46  a0 a1 a2  post (sA st r_1 (a1 : Int32).toNatClampNeg (if (((gA st r_2 (a1 : Int32).toNatClampNeg) + 3) : Int32) < 9 then ((gA st r_2 (a1 : Int32).toNatClampNeg) + 3) else 9))) ∧ (a2 = 1 → ∃ r_3, rv st a0 12 28 = some r_3 ∧ ∃ r_4, rv st a0 12 28 = some r_4 ∧ vp_in a1 (al 0 r_4) ∧ vp_in a1 (al 0 r_3) ∧ P_X12_choose_46  a0 a1 a2  post (sA st r_3 (a1 : Int32).toNatClampNeg (if (((gA st r_4 (a1 : Int32).toNatClampNeg) + 3) : Int32) < 9 then ((gA st r_4 (a1 : Int32).toNatClampNeg) + 3) else 9))))
set_option maxRecDepth 100000 in
set_option maxHeartbeats 4000000 in
theorem K_X12_choose_46 {l : Launch} {E : En}   (a0 : Nat) (a1 : Int32) (a2 : Int32)  {post : St → Prop}    (st : St) (h : P_X12_choose_46  a0 a1 a2  post  st) : Jg l E (CFc E) (Rm 2 0 0) cX12_choose 3 RX12 none (fun _ => True) (QV E post 0 0) 0 0 46 [(0, .ref a0), (1, .int a1), (2, .int a2)] [] st := by
  unfold P_X12_choose_46 at h
  exact J_retv rfl dX12_choose_46 h
set_option maxRecDepth 100000 in
set_option maxHeartbeats 4000000 in
theorem ct_X12_choose {l : Launch} {E : En}  {a0 : Nat} {a1 : Int32} {a2 : Int32} {st : St} {post : St → Prop} (h : P_X12_choose  a0 a1 a2 st post) : CtV l E (CFc E) 2 0 0 yX12_choose cX12_choose 3 none [.ref a0, .int a1, .int a2] st post := by
  refine ctV_of (by decide) (Nat.le_of_ble_eq_true rfl) ?_
  show Jg l E (CFc E) (Rm 2 0 0) cX12_choose 3 RX12 none (fun _ => True) (QV E post 0 0) 0 0 0 [(0, .ref a0), (1, .int a1), (2, .int a2)] [] st
  unfold P_X12_choose at h
  refine J_iload_n 2 dX12_choose_0 rfl rfl ?_
  refine J_iconst 1 dX12_choose_1 (by decide) ?_
  refine J_icmp_ne 27 dX12_choose_2 (by decide) (fun hc => ?_) (fun hc => ?_)
  · have h := h.1 hc
    refine J_aload_n 0 dX12_choose_27 rfl rfl ?_
    obtain ⟨r_1, hf, h⟩ := h
    refine J_getR fl_RX12_90 dX12_choose_28 hf ?_
    refine J_iload_n 1 dX12_choose_31 rfl rfl ?_
    refine J_bipush 9 dX12_choose_32 (by decide) ?_
    refine J_aload_n 0 dX12_choose_34 rfl rfl ?_
    obtain ⟨r_2, hf, h⟩ := h
    refine J_getR fl_RX12_90 dX12_choose_35 hf ?_
    refine J_iload_n 1 dX12_choose_38 rfl rfl ?_
    obtain ⟨hi, h⟩ := h
    refine J_iald dX12_choose_39 hi ?_
    refine J_iconst 3 dX12_choose_40 (by decide) ?_
    refine J_iadd dX12_choose_41 ?_
    refine J_mmin k_987 k_162 k_158 k_163 ⟨Nat.le_of_ble_eq_true rfl, Nat.le_of_ble_eq_true rfl, Nat.le_of_ble_eq_true rfl, Nat.le_of_ble_eq_true rfl⟩ dX12_choose_42 ?_
    obtain ⟨hi, h⟩ := h
    refine J_iast dX12_choose_45 hi ?_
    exact J_lv [0, 1, 2] rfl (K_X12_choose_46   a0 a1 a2  (sA st r_1 (a1 : Int32).toNatClampNeg (if (((gA st r_2 (a1 : Int32).toNatClampNeg) + 3) : Int32) < 9 then ((gA st r_2 (a1 : Int32).toNatClampNeg) + 3) else 9)) h)
  · have h := h.2 hc
    refine J_aload_n 0 dX12_choose_5 rfl rfl ?_
    obtain ⟨r_3, hf, h⟩ := h
    refine J_getR fl_RX12_87 dX12_choose_6 hf ?_
    refine J_iload_n 1 dX12_choose_9 rfl rfl ?_
    refine J_bipush 9 dX12_choose_10 (by decide) ?_
    refine J_aload_n 0 dX12_choose_12 rfl rfl ?_
    obtain ⟨r_4, hf, h⟩ := h
    refine J_getR fl_RX12_87 dX12_choose_13 hf ?_
    refine J_iload_n 1 dX12_choose_16 rfl rfl ?_
    obtain ⟨hi, h⟩ := h
    refine J_iald dX12_choose_17 hi ?_
    refine J_iconst 3 dX12_choose_18 (by decide) ?_
    refine J_iadd dX12_choose_19 ?_
    refine J_mmin k_987 k_162 k_158 k_163 ⟨Nat.le_of_ble_eq_true rfl, Nat.le_of_ble_eq_true rfl, Nat.le_of_ble_eq_true rfl, Nat.le_of_ble_eq_true rfl⟩ dX12_choose_20 ?_
    obtain ⟨hi, h⟩ := h
    refine J_iast dX12_choose_23 hi ?_
    refine J_goto 46 dX12_choose_24 (by decide) ?_
    exact J_lv [0, 1, 2] rfl (K_X12_choose_46   a0 a1 a2  (sA st r_3 (a1 : Int32).toNatClampNeg (if (((gA st r_4 (a1 : Int32).toNatClampNeg) + 3) : Int32) < 9 then ((gA st r_4 (a1 : Int32).toNatClampNeg) + 3) else 9)) h)
/-! X12_tellGains -/
def P_X12_tellGains_115  (a0 : Nat) (a1 : Int32) (a2 : Int32) (a3 : Int32) (k12 : Int32 → St → Prop) (post : St → Prop) (x4 : Int32) (s0 : Int32) (s1 : Int32) (s2 : Int32) (s3 : Nat) (st : St) : Prop := vp_in s2 (al 0 s3) ∧ ∃ r_1, rv (sA st s3 (s2 : Int32).toNatClampNeg (s1 + s0)) a0 12 56 = some r_1 ∧ oC a0 12 ∧ P_X12_unpack  a0 r_1 0 (sA st s3 (s2 : Int32).toNatClampNeg (s1 + s0)) (fun st_3 => k12 (x4 + 1) st_3)
def P_X12_tellGains_101  (a0 : Nat) (a1 : Int32) (a2 : Int32) (a3 : Int32) (k12 : Int32 → St → Prop) (post : St → Prop) (x4 : Int32) (s0 : Int32) (s1 : Int32) (s2 : Nat) (st : St) : Prop := ((¬ (x4 - x4 / 2 * 2) = 1 → P_X12_tellGains_115  a0 a1 a2 a3 k12 post x4 1 s0 s1 s2 st) ∧ ((x4 - x4 / 2 * 2) = 1 → P_X12_tellGains_115  a0 a1 a2 a3 k12 post x4 (-2) s0 s1 s2 st))
def P_X12_tellGains_77  (a0 : Nat) (a1 : Int32) (a2 : Int32) (a3 : Int32) (k12 : Int32 → St → Prop) (post : St → Prop) (x4 : Int32) (x5 : Int32) (s0 : Int32) (s1 : Int32) (s2 : Int32) (s3 : Nat) (st : St) : Prop := vp_in s2 (al 0 s3) ∧ ∃ r_1, rv (sA st s3 (s2 : Int32).toNatClampNeg (s1 + s0)) a0 12 55 = some r_1 ∧ ((¬ x5 = a2 → P_X12_tellGains_101  a0 a1 a2 a3 k12 post x4 0 ((2 * x4) + 1) r_1 (sA st s3 (s2 : Int32).toNatClampNeg (s1 + s0))) ∧ (x5 = a2 → P_X12_tellGains_101  a0 a1 a2 a3 k12 post x4 10 ((2 * x4) + 1) r_1 (sA st s3 (s2 : Int32).toNatClampNeg (s1 + s0))))
def P_X12_tellGains_63  (a0 : Nat) (a1 : Int32) (a2 : Int32) (a3 : Int32) (k12 : Int32 → St → Prop) (post : St → Prop) (x4 : Int32) (x5 : Int32) (s0 : Int32) (s1 : Int32) (s2 : Nat) (st : St) : Prop := ((¬ (x4 / 2) = 1 → P_X12_tellGains_77  a0 a1 a2 a3 k12 post x4 x5 1 s0 s1 s2 st) ∧ ((x4 / 2) = 1 → P_X12_tellGains_77  a0 a1 a2 a3 k12 post x4 x5 (-2) s0 s1 s2 st))
def P_X12_tellGains_12  (a0 : Nat) (a1 : Int32) (a2 : Int32) (a3 : Int32)  (post : St → Prop) : Nat → Int32 → St → Prop
  | 0, _, _ => False
  | n9 + 1, x4, st => ((4 ≤ x4 → post st) ∧ (¬ 4 ≤ x4 → oC a0 12 ∧ P_X12_choose  a0 a1 (x4 / 2) st (fun st_2 => oC a0 12 ∧ P_X12_choose  a0 a2 (x4 - x4 / 2 * 2) st_2 (fun st_4 => oC a0 12 ∧ P_X12_leaderOf  a0 a3 st_4 (fun z_5 st_6 => ∃ r_7, rv st_6 a0 12 55 = some r_7 ∧ ((¬ z_5 = a1 → P_X12_tellGains_63  a0 a1 a2 a3 (fun x4 st => P_X12_tellGains_12  a0 a1 a2 a3  post n9 x4 st) post x4 z_5 0 (2 * x4) r_7 st_6) ∧ (z_5 = a1 → P_X12_tellGains_63  a0 a1 a2 a3 (fun x4 st => P_X12_tellGains_12  a0 a1 a2 a3  post n9 x4 st) post x4 z_5 10 (2 * x4) r_7 st_6)))))))
def P_X12_tellGains  (a0 : Nat) (a1 : Int32) (a2 : Int32) (a3 : Int32) (st : St) (post : St → Prop) : Prop := ∃ r_1, rv st a0 12 56 = some r_1 ∧ oC a0 12 ∧ P_X12_pack  a0 r_1 0 st (fun st_3 => ∃ n8, P_X12_tellGains_12  a0 a1 a2 a3  post n8 0 st_3)
set_option maxRecDepth 100000 in
set_option maxHeartbeats 4000000 in
theorem K_X12_tellGains_115 {l : Launch} {E : En}   (a0 : Nat) (a1 : Int32) (a2 : Int32) (a3 : Int32) {k12 : Int32 → St → Prop} {post : St → Prop}  (hk12 : ∀ (x4 : Int32) (st : St), k12 x4 st → Jg l E (CFc E) (Rm 10 0 0) cX12_tellGains 6 RX12 none (fun _ => True) (QV E post 0 0) 0 0 12 [(0, .ref a0), (1, .int a1), (2, .int a2), (3, .int a3), (4, .int x4)] [] st) (x4 : Int32) (s0 : Int32) (s1 : Int32) (s2 : Int32) (s3 : Nat) (st : St) (h : P_X12_tellGains_115  a0 a1 a2 a3 k12 post x4 s0 s1 s2 s3 st) : Jg l E (CFc E) (Rm 10 0 0) cX12_tellGains 6 RX12 none (fun _ => True) (QV E post 0 0) 0 0 115 [(0, .ref a0), (1, .int a1), (2, .int a2), (3, .int a3), (4, .int x4)] [.int s0, .int s1, .int s2, .ref s3] st := by
  unfold P_X12_tellGains_115 at h
  refine J_iadd dX12_tellGains_115 ?_
  obtain ⟨hi, h⟩ := h
  refine J_iast dX12_tellGains_116 hi ?_
  refine J_aload_n 0 dX12_tellGains_117 rfl rfl ?_
  refine J_aload_n 0 dX12_tellGains_118 rfl rfl ?_
  obtain ⟨r_1, hf, h⟩ := h
  refine J_getR fl_RX12_157 dX12_tellGains_119 hf ?_
  refine J_iconst 0 dX12_tellGains_122 (by decide) ?_
  obtain ⟨ho, h⟩ := h
  refine J_cvv (As := [_, _]) md_X12_unpack k_1200 (rc_obj cl_12 ho) rfl rfl ⟨Nat.le_of_ble_eq_true rfl, Nat.le_of_ble_eq_true rfl⟩ ⟨Nat.le_of_ble_eq_true rfl, Nat.le_of_ble_eq_true rfl⟩ (Nat.le_of_ble_eq_true rfl) dX12_tellGains_123 (ct_X12_unpack  h) (fun st_3 h => ?_)
  refine J_iinc 4 (x4 + 1) _ dX12_tellGains_126 rfl (by rfl) (by decide) rfl ?_
  refine J_goto 12 dX12_tellGains_129 (by decide) ?_
  exact J_lv [1, 2, 3, 4, 0] rfl (hk12 (x4 + 1) st_3 h)
set_option maxRecDepth 100000 in
set_option maxHeartbeats 4000000 in
theorem K_X12_tellGains_101 {l : Launch} {E : En}   (a0 : Nat) (a1 : Int32) (a2 : Int32) (a3 : Int32) {k12 : Int32 → St → Prop} {post : St → Prop}  (hk12 : ∀ (x4 : Int32) (st : St), k12 x4 st → Jg l E (CFc E) (Rm 10 0 0) cX12_tellGains 6 RX12 none (fun _ => True) (QV E post 0 0) 0 0 12 [(0, .ref a0), (1, .int a1), (2, .int a2), (3, .int a3), (4, .int x4)] [] st) (x4 : Int32) (s0 : Int32) (s1 : Int32) (s2 : Nat) (st : St) (h : P_X12_tellGains_101  a0 a1 a2 a3 k12 post x4 s0 s1 s2 st) : Jg l E (CFc E) (Rm 10 0 0) cX12_tellGains 6 RX12 none (fun _ => True) (QV E post 0 0) 0 0 101 [(0, .ref a0), (1, .int a1), (2, .int a2), (3, .int a3), (4, .int x4)] [.int s0, .int s1, .ref s2] st := by
  unfold P_X12_tellGains_101 at h
  refine J_iload 4 dX12_tellGains_101 rfl ?_
  refine J_iconst 2 dX12_tellGains_103 (by decide) ?_
  refine J_irem dX12_tellGains_104 (by decide) ?_
  refine J_iconst 1 dX12_tellGains_105 (by decide) ?_
  refine J_icmp_ne 114 dX12_tellGains_106 (by decide) (fun hc => ?_) (fun hc => ?_)
  · have h := h.1 hc
    refine J_iconst 1 dX12_tellGains_114 (by decide) ?_
    exact J_lv [0, 1, 2, 3, 4] rfl (K_X12_tellGains_115   a0 a1 a2 a3 hk12 x4 1 s0 s1 s2 st h)
  · have h := h.2 hc
    refine J_bipush (-2) dX12_tellGains_109 (by decide) ?_
    refine J_goto 115 dX12_tellGains_111 (by decide) ?_
    exact J_lv [0, 1, 2, 3, 4] rfl (K_X12_tellGains_115   a0 a1 a2 a3 hk12 x4 (-2) s0 s1 s2 st h)
set_option maxRecDepth 100000 in
set_option maxHeartbeats 4000000 in
theorem K_X12_tellGains_77 {l : Launch} {E : En}   (a0 : Nat) (a1 : Int32) (a2 : Int32) (a3 : Int32) {k12 : Int32 → St → Prop} {post : St → Prop}  (hk12 : ∀ (x4 : Int32) (st : St), k12 x4 st → Jg l E (CFc E) (Rm 10 0 0) cX12_tellGains 6 RX12 none (fun _ => True) (QV E post 0 0) 0 0 12 [(0, .ref a0), (1, .int a1), (2, .int a2), (3, .int a3), (4, .int x4)] [] st) (x4 : Int32) (x5 : Int32) (s0 : Int32) (s1 : Int32) (s2 : Int32) (s3 : Nat) (st : St) (h : P_X12_tellGains_77  a0 a1 a2 a3 k12 post x4 x5 s0 s1 s2 s3 st) : Jg l E (CFc E) (Rm 10 0 0) cX12_tellGains 6 RX12 none (fun _ => True) (QV E post 0 0) 0 0 77 [(0, .ref a0), (1, .int a1), (2, .int a2), (3, .int a3), (4, .int x4), (5, .int x5)] [.int s0, .int s1, .int s2, .ref s3] st := by
  unfold P_X12_tellGains_77 at h
  refine J_iadd dX12_tellGains_77 ?_
  obtain ⟨hi, h⟩ := h
  refine J_iast dX12_tellGains_78 hi ?_
  refine J_aload_n 0 dX12_tellGains_79 rfl rfl ?_
  obtain ⟨r_1, hf, h⟩ := h
  refine J_getR fl_RX12_154 dX12_tellGains_80 hf ?_
  refine J_iconst 2 dX12_tellGains_83 (by decide) ?_
  refine J_iload 4 dX12_tellGains_84 rfl ?_
  refine J_imul dX12_tellGains_86 ?_
  refine J_iconst 1 dX12_tellGains_87 (by decide) ?_
  refine J_iadd dX12_tellGains_88 ?_
  refine J_iload 5 dX12_tellGains_89 rfl ?_
  refine J_iload_n 2 dX12_tellGains_91 rfl rfl ?_
  refine J_icmp_ne 100 dX12_tellGains_92 (by decide) (fun hc => ?_) (fun hc => ?_)
  · have h := h.1 hc
    refine J_iconst 0 dX12_tellGains_100 (by decide) ?_
    exact J_lv [0, 1, 2, 3, 4] rfl (K_X12_tellGains_101   a0 a1 a2 a3 hk12 x4 0 ((2 * x4) + 1) r_1 (sA st s3 (s2 : Int32).toNatClampNeg (s1 + s0)) h)
  · have h := h.2 hc
    refine J_bipush 10 dX12_tellGains_95 (by decide) ?_
    refine J_goto 101 dX12_tellGains_97 (by decide) ?_
    exact J_lv [0, 1, 2, 3, 4] rfl (K_X12_tellGains_101   a0 a1 a2 a3 hk12 x4 10 ((2 * x4) + 1) r_1 (sA st s3 (s2 : Int32).toNatClampNeg (s1 + s0)) h)
set_option maxRecDepth 100000 in
set_option maxHeartbeats 4000000 in
theorem K_X12_tellGains_63 {l : Launch} {E : En}   (a0 : Nat) (a1 : Int32) (a2 : Int32) (a3 : Int32) {k12 : Int32 → St → Prop} {post : St → Prop}  (hk12 : ∀ (x4 : Int32) (st : St), k12 x4 st → Jg l E (CFc E) (Rm 10 0 0) cX12_tellGains 6 RX12 none (fun _ => True) (QV E post 0 0) 0 0 12 [(0, .ref a0), (1, .int a1), (2, .int a2), (3, .int a3), (4, .int x4)] [] st) (x4 : Int32) (x5 : Int32) (s0 : Int32) (s1 : Int32) (s2 : Nat) (st : St) (h : P_X12_tellGains_63  a0 a1 a2 a3 k12 post x4 x5 s0 s1 s2 st) : Jg l E (CFc E) (Rm 10 0 0) cX12_tellGains 6 RX12 none (fun _ => True) (QV E post 0 0) 0 0 63 [(0, .ref a0), (1, .int a1), (2, .int a2), (3, .int a3), (4, .int x4), (5, .int x5)] [.int s0, .int s1, .ref s2] st := by
  unfold P_X12_tellGains_63 at h
  refine J_iload 4 dX12_tellGains_63 rfl ?_
  refine J_iconst 2 dX12_tellGains_65 (by decide) ?_
  refine J_idiv dX12_tellGains_66 (by decide) ?_
  refine J_iconst 1 dX12_tellGains_67 (by decide) ?_
  refine J_icmp_ne 76 dX12_tellGains_68 (by decide) (fun hc => ?_) (fun hc => ?_)
  · have h := h.1 hc
    refine J_iconst 1 dX12_tellGains_76 (by decide) ?_
    exact J_lv [0, 1, 2, 3, 4, 5] rfl (K_X12_tellGains_77   a0 a1 a2 a3 hk12 x4 x5 1 s0 s1 s2 st h)
  · have h := h.2 hc
    refine J_bipush (-2) dX12_tellGains_71 (by decide) ?_
    refine J_goto 77 dX12_tellGains_73 (by decide) ?_
    exact J_lv [0, 1, 2, 3, 4, 5] rfl (K_X12_tellGains_77   a0 a1 a2 a3 hk12 x4 x5 (-2) s0 s1 s2 st h)
set_option maxRecDepth 100000 in
set_option maxHeartbeats 4000000 in
theorem K_X12_tellGains_12 {l : Launch} {E : En}   (a0 : Nat) (a1 : Int32) (a2 : Int32) (a3 : Int32)  {post : St → Prop}   : ∀ (n9 : Nat) (x4 : Int32) (st : St), P_X12_tellGains_12  a0 a1 a2 a3  post n9 x4 st → Jg l E (CFc E) (Rm 10 0 0) cX12_tellGains 6 RX12 none (fun _ => True) (QV E post 0 0) 0 0 12 [(0, .ref a0), (1, .int a1), (2, .int a2), (3, .int a3), (4, .int x4)] [] st := by
  intro n9
  induction n9 with
  | zero => intro x4 st h; exact h.elim
  | succ n9 ih =>
    intro x4 st h
    unfold P_X12_tellGains_12 at h
    refine J_iload 4 dX12_tellGains_12 rfl ?_
    refine J_iconst 4 dX12_tellGains_14 (by decide) ?_
    refine J_icmp_ge 132 dX12_tellGains_15 (by decide) (fun hc => ?_) (fun hc => ?_)
    · have h := h.1 hc
      exact J_retv rfl dX12_tellGains_132 h
    · have h := h.2 hc
      refine J_aload_n 0 dX12_tellGains_18 rfl rfl ?_
      refine J_iload_n 1 dX12_tellGains_19 rfl rfl ?_
      refine J_iload 4 dX12_tellGains_20 rfl ?_
      refine J_iconst 2 dX12_tellGains_22 (by decide) ?_
      refine J_idiv dX12_tellGains_23 (by decide) ?_
      obtain ⟨ho, h⟩ := h
      refine J_cvv (As := [_, _]) md_X12_choose k_1274 (rc_obj cl_12 ho) rfl rfl ⟨Nat.le_of_ble_eq_true rfl, Nat.le_of_ble_eq_true rfl⟩ ⟨Nat.le_of_ble_eq_true rfl, Nat.le_of_ble_eq_true rfl⟩ (Nat.le_of_ble_eq_true rfl) dX12_tellGains_24 (ct_X12_choose  h) (fun st_2 h => ?_)
      refine J_aload_n 0 dX12_tellGains_27 rfl rfl ?_
      refine J_iload_n 2 dX12_tellGains_28 rfl rfl ?_
      refine J_iload 4 dX12_tellGains_29 rfl ?_
      refine J_iconst 2 dX12_tellGains_31 (by decide) ?_
      refine J_irem dX12_tellGains_32 (by decide) ?_
      obtain ⟨ho, h⟩ := h
      refine J_cvv (As := [_, _]) md_X12_choose k_1274 (rc_obj cl_12 ho) rfl rfl ⟨Nat.le_of_ble_eq_true rfl, Nat.le_of_ble_eq_true rfl⟩ ⟨Nat.le_of_ble_eq_true rfl, Nat.le_of_ble_eq_true rfl⟩ (Nat.le_of_ble_eq_true rfl) dX12_tellGains_33 (ct_X12_choose  h) (fun st_4 h => ?_)
      refine J_aload_n 0 dX12_tellGains_36 rfl rfl ?_
      refine J_iload_n 3 dX12_tellGains_37 rfl rfl ?_
      obtain ⟨ho, h⟩ := h
      refine J_cvi (As := [_]) md_X12_leaderOf k_1204 (rc_obj cl_12 ho) rfl rfl ⟨Nat.le_of_ble_eq_true rfl, Nat.le_of_ble_eq_true rfl⟩ ⟨Nat.le_of_ble_eq_true rfl, Nat.le_of_ble_eq_true rfl⟩ (Nat.le_of_ble_eq_true rfl) dX12_tellGains_38 (ct_X12_leaderOf  h) (fun z_5 st_6 h => ?_)
      refine J_istore _ dX12_tellGains_41 (by decide) rfl ?_
      refine J_aload_n 1 dX12_tellGains_43 rfl rfl ?_
      obtain ⟨r_7, hf, h⟩ := h
      refine J_getR fl_RX12_154 dX12_tellGains_44 hf ?_
      refine J_iconst 2 dX12_tellGains_47 (by decide) ?_
      refine J_iload 5 dX12_tellGains_48 rfl ?_
      refine J_imul dX12_tellGains_50 ?_
      refine J_iload 0 dX12_tellGains_51 rfl ?_
      refine J_iload_n 2 dX12_tellGains_53 rfl rfl ?_
      refine J_icmp_ne 62 dX12_tellGains_54 (by decide) (fun hc => ?_) (fun hc => ?_)
      · have h := h.1 hc
        refine J_iconst 0 dX12_tellGains_62 (by decide) ?_
        exact J_lv [1, 2, 3, 4, 5, 0] rfl (K_X12_tellGains_63   a0 a1 a2 a3 (fun x4 st h => ih x4 st h) x4 z_5 0 (2 * x4) r_7 st_6 h)
      · have h := h.2 hc
        refine J_bipush 10 dX12_tellGains_57 (by decide) ?_
        refine J_goto 63 dX12_tellGains_59 (by decide) ?_
        exact J_lv [1, 2, 3, 4, 5, 0] rfl (K_X12_tellGains_63   a0 a1 a2 a3 (fun x4 st h => ih x4 st h) x4 z_5 10 (2 * x4) r_7 st_6 h)
set_option maxRecDepth 100000 in
set_option maxHeartbeats 4000000 in
theorem ct_X12_tellGains {l : Launch} {E : En}  {a0 : Nat} {a1 : Int32} {a2 : Int32} {a3 : Int32} {st : St} {post : St → Prop} (h : P_X12_tellGains  a0 a1 a2 a3 st post) : CtV l E (CFc E) 10 0 0 yX12_tellGains cX12_tellGains 6 none [.ref a0, .int a1, .int a2, .int a3] st post := by
  refine ctV_of (by decide) (Nat.le_of_ble_eq_true rfl) ?_
  show Jg l E (CFc E) (Rm 10 0 0) cX12_tellGains 6 RX12 none (fun _ => True) (QV E post 0 0) 0 0 0 [(0, .ref a0), (1, .int a1), (2, .int a2), (3, .int a3)] [] st
  unfold P_X12_tellGains at h
  refine J_aload_n 0 dX12_tellGains_0 rfl rfl ?_
  refine J_aload_n 0 dX12_tellGains_1 rfl rfl ?_
  obtain ⟨r_1, hf, h⟩ := h
  refine J_getR fl_RX12_157 dX12_tellGains_2 hf ?_
  refine J_iconst 0 dX12_tellGains_5 (by decide) ?_
  obtain ⟨ho, h⟩ := h
  refine J_cvv (As := [_, _]) md_X12_pack k_1178 (rc_obj cl_12 ho) rfl rfl ⟨Nat.le_of_ble_eq_true rfl, Nat.le_of_ble_eq_true rfl⟩ ⟨Nat.le_of_ble_eq_true rfl, Nat.le_of_ble_eq_true rfl⟩ (Nat.le_of_ble_eq_true rfl) dX12_tellGains_6 (ct_X12_pack  h) (fun st_3 h => ?_)
  refine J_iconst 0 dX12_tellGains_9 (by decide) ?_
  refine J_istore _ dX12_tellGains_10 (by decide) rfl ?_
  obtain ⟨n8, h⟩ := h
  exact J_lv [1, 2, 3, 4, 0] rfl (K_X12_tellGains_12   a0 a1 a2 a3  n8 0 st_3 h)
/-! X12_game -/
def P_X12_game_215  (a0 : Nat) (a1 : Int32) (a2 : Int32) (a3 : Int32) (a4 : Int32)  (post : Int32 → St → Prop) (s0 : Int32) (st : St) : Prop := post s0 st
def P_X12_game_197  (a0 : Nat) (a1 : Int32) (a2 : Int32) (a3 : Int32) (a4 : Int32) (k110 : Int32 → Int32 → Int32 → St → Prop) (post : Int32 → St → Prop) (x5 : Int32) (x6 : Int32) (x7 : Int32) (st : St) : Prop := k110 x5 x6 (x7 + 1) st
def P_X12_game_195  (a0 : Nat) (a1 : Int32) (a2 : Int32) (a3 : Int32) (a4 : Int32) (k110 : Int32 → Int32 → Int32 → St → Prop) (post : Int32 → St → Prop) (x5 : Int32) (x7 : Int32) (s0 : Int32) (st : St) : Prop := P_X12_game_197  a0 a1 a2 a3 a4 k110 post x5 s0 x7 st
def P_X12_game_110  (a0 : Nat) (a1 : Int32) (a2 : Int32) (a3 : Int32) (a4 : Int32)  (post : Int32 → St → Prop) : Nat → Int32 → Int32 → Int32 → St → Prop
  | 0, _, _, _, _ => False
  | n9 + 1, x5, x6, x7, st => ((4 ≤ x7 → ((¬ a4 = 0 → P_X12_game_215  a0 a1 a2 a3 a4  post x6 st) ∧ (a4 = 0 → P_X12_game_215  a0 a1 a2 a3 a4  post x5 st))) ∧ (¬ 4 ≤ x7 → ∃ r_1, rv st a0 12 55 = some r_1 ∧ vp_in (2 * (x7 ^^^ 2)) (al 0 r_1) ∧ ∃ r_2, rv st a0 12 55 = some r_2 ∧ vp_in (2 * x7) (al 0 r_2) ∧ (((gA st r_2 (2 * x7 : Int32).toNatClampNeg) < (gA st r_1 (2 * (x7 ^^^ 2) : Int32).toNatClampNeg) → P_X12_game_197  a0 a1 a2 a3 a4 (fun x5 x6 x7 st => P_X12_game_110  a0 a1 a2 a3 a4  post n9 x5 x6 x7 st) post x5 x6 x7 st) ∧ (¬ (gA st r_2 (2 * x7 : Int32).toNatClampNeg) < (gA st r_1 (2 * (x7 ^^^ 2) : Int32).toNatClampNeg) → ∃ r_3, rv st a0 12 55 = some r_3 ∧ vp_in ((2 * (x7 ^^^ 1)) + 1) (al 0 r_3) ∧ ∃ r_4, rv st a0 12 55 = some r_4 ∧ vp_in ((2 * x7) + 1) (al 0 r_4) ∧ (((gA st r_3 ((2 * (x7 ^^^ 1)) + 1 : Int32).toNatClampNeg) ≤ (gA st r_4 ((2 * x7) + 1 : Int32).toNatClampNeg) → ((¬ x6 = (-1) → P_X12_game_195  a0 a1 a2 a3 a4 (fun x5 x6 x7 st => P_X12_game_110  a0 a1 a2 a3 a4  post n9 x5 x6 x7 st) post (x5 + 1) x7 x6 st) ∧ (x6 = (-1) → P_X12_game_195  a0 a1 a2 a3 a4 (fun x5 x6 x7 st => P_X12_game_110  a0 a1 a2 a3 a4  post n9 x5 x6 x7 st) post (x5 + 1) x7 ((10 * (x7 / 2)) + (x7 - x7 / 2 * 2)) st))) ∧ (¬ (gA st r_3 ((2 * (x7 ^^^ 1)) + 1 : Int32).toNatClampNeg) ≤ (gA st r_4 ((2 * x7) + 1 : Int32).toNatClampNeg) → P_X12_game_197  a0 a1 a2 a3 a4 (fun x5 x6 x7 st => P_X12_game_110  a0 a1 a2 a3 a4  post n9 x5 x6 x7 st) post x5 x6 x7 st))))))
def P_X12_game_88  (a0 : Nat) (a1 : Int32) (a2 : Int32) (a3 : Int32) (a4 : Int32)  (post : Int32 → St → Prop)  (st : St) : Prop := oC a0 12 ∧ P_X12_fail  a0 2 st (fun z_1 st_2 => post z_1 st_2)
def P_X12_game_40  (a0 : Nat) (a1 : Int32) (a2 : Int32) (a3 : Int32) (a4 : Int32)  (post : Int32 → St → Prop)  (st : St) : Prop := oC a0 12 ∧ P_X12_fail  a0 1 st (fun z_1 st_2 => post z_1 st_2)
def P_X12_game  (a0 : Nat) (a1 : Int32) (a2 : Int32) (a3 : Int32) (a4 : Int32) (st : St) (post : Int32 → St → Prop) : Prop := fk a0 12 4 = some 0 ∧ oC a0 12 ∧ P_X12_isPerson  a0 a1 (sI st a0 4 0) (fun z_1 st_2 => ((z_1 = 0 → P_X12_game_40  a0 a1 a2 a3 a4  post st_2) ∧ (¬ z_1 = 0 → oC a0 12 ∧ P_X12_isPerson  a0 a2 st_2 (fun z_3 st_4 => ((z_3 = 0 → P_X12_game_40  a0 a1 a2 a3 a4  post st_4) ∧ (¬ z_3 = 0 → oC a0 12 ∧ P_X12_isBride  a0 a3 st_4 (fun z_5 st_6 => ((z_5 = 0 → P_X12_game_40  a0 a1 a2 a3 a4  post st_6) ∧ (¬ z_5 = 0 → ((a4 < 0 → P_X12_game_40  a0 a1 a2 a3 a4  post st_6) ∧ (¬ a4 < 0 → ((a4 ≤ 1 → ((a1 = a2 → P_X12_game_88  a0 a1 a2 a3 a4  post st_6) ∧ (¬ a1 = a2 → ∃ r_7, rv st_6 a0 12 34 = some r_7 ∧ vp_in ((6 * a1) + a3) (al 0 r_7) ∧ (((gA st_6 r_7 ((6 * a1) + a3 : Int32).toNatClampNeg) = 0 → P_X12_game_88  a0 a1 a2 a3 a4  post st_6) ∧ (¬ (gA st_6 r_7 ((6 * a1) + a3 : Int32).toNatClampNeg) = 0 → ∃ r_8, rv st_6 a0 12 34 = some r_8 ∧ vp_in ((6 * a2) + a3) (al 0 r_8) ∧ (((gA st_6 r_8 ((6 * a2) + a3 : Int32).toNatClampNeg) = 0 → P_X12_game_88  a0 a1 a2 a3 a4  post st_6) ∧ (¬ (gA st_6 r_8 ((6 * a2) + a3 : Int32).toNatClampNeg) = 0 → ∃ r_9, rv st_6 a0 12 32 = some r_9 ∧ vp_in a3 (al 0 r_9) ∧ ((¬ (gA st_6 r_9 (a3 : Int32).toNatClampNeg) = 0 → oC a0 12 ∧ P_X12_tellGains  a0 a1 a2 a3 st_6 (fun st_11 => ∃ n8, P_X12_game_110  a0 a1 a2 a3 a4  post n8 0 (-1) 0 st_11)) ∧ ((gA st_6 r_9 (a3 : Int32).toNatClampNeg) = 0 → P_X12_game_88  a0 a1 a2 a3 a4  post st_6))))))))) ∧ (¬ a4 ≤ 1 → P_X12_game_40  a0 a1 a2 a3 a4  post st_6)))))))))))))
set_option maxRecDepth 100000 in
set_option maxHeartbeats 4000000 in
theorem K_X12_game_215 {l : Launch} {E : En}   (a0 : Nat) (a1 : Int32) (a2 : Int32) (a3 : Int32) (a4 : Int32)  {post : Int32 → St → Prop}   (s0 : Int32) (st : St) (h : P_X12_game_215  a0 a1 a2 a3 a4  post s0 st) : Jg l E (CFc E) (Rm 11 0 0) cX12_game 8 RX12 (some .int) (fun _ => True) (QI E post 0 0) 0 0 215 [(0, .ref a0), (1, .int a1), (2, .int a2), (3, .int a3), (4, .int a4)] [.int s0] st := by
  unfold P_X12_game_215 at h
  exact J_reti rfl dX12_game_215 h
set_option maxRecDepth 100000 in
set_option maxHeartbeats 4000000 in
theorem K_X12_game_197 {l : Launch} {E : En}   (a0 : Nat) (a1 : Int32) (a2 : Int32) (a3 : Int32) (a4 : Int32) {k110 : Int32 → Int32 → Int32 → St → Prop} {post : Int32 → St → Prop}  (hk110 : ∀ (x5 : Int32) (x6 : Int32) (x7 : Int32) (st : St), k110 x5 x6 x7 st → Jg l E (CFc E) (Rm 11 0 0) cX12_game 8 RX12 (some .int) (fun _ => True) (QI E post 0 0) 0 0 110 [(0, .ref a0), (1, .int a1), (2, .int a2), (3, .int a3), (4, .int a4), (5, .int x5), (6, .int x6), (7, .int x7)] [] st) (x5 : Int32) (x6 : Int32) (x7 : Int32) (st : St) (h : P_X12_game_197  a0 a1 a2 a3 a4 k110 post x5 x6 x7 st) : Jg l E (CFc E) (Rm 11 0 0) cX12_game 8 RX12 (some .int) (fun _ => True) (QI E post 0 0) 0 0 197 [(0, .ref a0), (1, .int a1), (2, .int a2), (3, .int a3), (4, .int a4), (5, .int x5), (6, .int x6), (7, .int x7)] [] st := by
  unfold P_X12_game_197 at h
  refine J_iinc 7 (x7 + 1) _ dX12_game_197 rfl (by rfl) (by decide) rfl ?_
  refine J_goto 110 dX12_game_200 (by decide) ?_
  exact J_lv [1, 2, 3, 4, 5, 6, 7, 0] rfl (hk110 x5 x6 (x7 + 1) st h)
set_option maxRecDepth 100000 in
set_option maxHeartbeats 4000000 in
theorem K_X12_game_195 {l : Launch} {E : En}   (a0 : Nat) (a1 : Int32) (a2 : Int32) (a3 : Int32) (a4 : Int32) {k110 : Int32 → Int32 → Int32 → St → Prop} {post : Int32 → St → Prop}  (hk110 : ∀ (x5 : Int32) (x6 : Int32) (x7 : Int32) (st : St), k110 x5 x6 x7 st → Jg l E (CFc E) (Rm 11 0 0) cX12_game 8 RX12 (some .int) (fun _ => True) (QI E post 0 0) 0 0 110 [(0, .ref a0), (1, .int a1), (2, .int a2), (3, .int a3), (4, .int a4), (5, .int x5), (6, .int x6), (7, .int x7)] [] st) (x5 : Int32) (x7 : Int32) (s0 : Int32) (st : St) (h : P_X12_game_195  a0 a1 a2 a3 a4 k110 post x5 x7 s0 st) : Jg l E (CFc E) (Rm 11 0 0) cX12_game 8 RX12 (some .int) (fun _ => True) (QI E post 0 0) 0 0 195 [(0, .ref a0), (1, .int a1), (2, .int a2), (3, .int a3), (4, .int a4), (5, .int x5), (7, .int x7)] [.int s0] st := by
  unfold P_X12_game_195 at h
  refine J_istore _ dX12_game_195 (by decide) rfl ?_
  exact J_lv [1, 2, 3, 4, 5, 6, 0, 7] rfl (K_X12_game_197   a0 a1 a2 a3 a4 hk110 x5 s0 x7 st h)
set_option maxRecDepth 100000 in
set_option maxHeartbeats 4000000 in
theorem K_X12_game_110 {l : Launch} {E : En}   (a0 : Nat) (a1 : Int32) (a2 : Int32) (a3 : Int32) (a4 : Int32)  {post : Int32 → St → Prop}   : ∀ (n9 : Nat) (x5 : Int32) (x6 : Int32) (x7 : Int32) (st : St), P_X12_game_110  a0 a1 a2 a3 a4  post n9 x5 x6 x7 st → Jg l E (CFc E) (Rm 11 0 0) cX12_game 8 RX12 (some .int) (fun _ => True) (QI E post 0 0) 0 0 110 [(0, .ref a0), (1, .int a1), (2, .int a2), (3, .int a3), (4, .int a4), (5, .int x5), (6, .int x6), (7, .int x7)] [] st := by
  intro n9
  induction n9 with
  | zero => intro x5 x6 x7 st h; exact h.elim
  | succ n9 ih =>
    intro x5 x6 x7 st h
    unfold P_X12_game_110 at h
    refine J_iload 7 dX12_game_110 rfl ?_
    refine J_iconst 4 dX12_game_112 (by decide) ?_
    refine J_icmp_ge 203 dX12_game_113 (by decide) (fun hc => ?_) (fun hc => ?_)
    · have h := h.1 hc
      refine J_iload 4 dX12_game_203 rfl ?_
      refine J_if_ne 213 dX12_game_205 (by decide) (fun hc => ?_) (fun hc => ?_)
      · have h := h.1 hc
        refine J_iload 6 dX12_game_213 rfl ?_
        exact J_lv [0, 1, 2, 3, 4] rfl (K_X12_game_215   a0 a1 a2 a3 a4  x6 st h)
      · have h := h.2 hc
        refine J_iload 5 dX12_game_208 rfl ?_
        refine J_goto 215 dX12_game_210 (by decide) ?_
        exact J_lv [0, 1, 2, 3, 4] rfl (K_X12_game_215   a0 a1 a2 a3 a4  x5 st h)
    · have h := h.2 hc
      refine J_aload_n 0 dX12_game_116 rfl rfl ?_
      obtain ⟨r_1, hf, h⟩ := h
      refine J_getR fl_RX12_154 dX12_game_117 hf ?_
      refine J_iconst 2 dX12_game_120 (by decide) ?_
      refine J_iload 7 dX12_game_121 rfl ?_
      refine J_iconst 2 dX12_game_123 (by decide) ?_
      refine J_ixor dX12_game_124 ?_
      refine J_imul dX12_game_125 ?_
      obtain ⟨hi, h⟩ := h
      refine J_iald dX12_game_126 hi ?_
      refine J_aload_n 0 dX12_game_127 rfl rfl ?_
      obtain ⟨r_2, hf, h⟩ := h
      refine J_getR fl_RX12_154 dX12_game_128 hf ?_
      refine J_iconst 2 dX12_game_131 (by decide) ?_
      refine J_iload 7 dX12_game_132 rfl ?_
      refine J_imul dX12_game_134 ?_
      obtain ⟨hi, h⟩ := h
      refine J_iald dX12_game_135 hi ?_
      refine J_icmp_gt 197 dX12_game_136 (by decide) (fun hc => ?_) (fun hc => ?_)
      · have h := h.1 hc
        exact J_lv [0, 1, 2, 3, 4, 5, 6, 7] rfl (K_X12_game_197   a0 a1 a2 a3 a4 (fun x5 x6 x7 st h => ih x5 x6 x7 st h) x5 x6 x7 st h)
      · have h := h.2 hc
        refine J_aload_n 0 dX12_game_139 rfl rfl ?_
        obtain ⟨r_3, hf, h⟩ := h
        refine J_getR fl_RX12_154 dX12_game_140 hf ?_
        refine J_iconst 2 dX12_game_143 (by decide) ?_
        refine J_iload 7 dX12_game_144 rfl ?_
        refine J_iconst 1 dX12_game_146 (by decide) ?_
        refine J_ixor dX12_game_147 ?_
        refine J_imul dX12_game_148 ?_
        refine J_iconst 1 dX12_game_149 (by decide) ?_
        refine J_iadd dX12_game_150 ?_
        obtain ⟨hi, h⟩ := h
        refine J_iald dX12_game_151 hi ?_
        refine J_aload_n 0 dX12_game_152 rfl rfl ?_
        obtain ⟨r_4, hf, h⟩ := h
        refine J_getR fl_RX12_154 dX12_game_153 hf ?_
        refine J_iconst 2 dX12_game_156 (by decide) ?_
        refine J_iload 7 dX12_game_157 rfl ?_
        refine J_imul dX12_game_159 ?_
        refine J_iconst 1 dX12_game_160 (by decide) ?_
        refine J_iadd dX12_game_161 ?_
        obtain ⟨hi, h⟩ := h
        refine J_iald dX12_game_162 hi ?_
        refine J_icmp_le 169 dX12_game_163 (by decide) (fun hc => ?_) (fun hc => ?_)
        · have h := h.1 hc
          refine J_iinc 5 (x5 + 1) _ dX12_game_169 rfl (by rfl) (by decide) rfl ?_
          refine J_iload 6 dX12_game_172 rfl ?_
          refine J_iconst (-1) dX12_game_174 (by decide) ?_
          refine J_icmp_ne 193 dX12_game_175 (by decide) (fun hc => ?_) (fun hc => ?_)
          · have h := h.1 hc
            refine J_iload 6 dX12_game_193 rfl ?_
            exact J_lv [1, 2, 3, 4, 5, 0, 7] rfl (K_X12_game_195   a0 a1 a2 a3 a4 (fun x5 x6 x7 st h => ih x5 x6 x7 st h) (x5 + 1) x7 x6 st h)
          · have h := h.2 hc
            refine J_bipush 10 dX12_game_178 (by decide) ?_
            refine J_iload 7 dX12_game_180 rfl ?_
            refine J_iconst 2 dX12_game_182 (by decide) ?_
            refine J_idiv dX12_game_183 (by decide) ?_
            refine J_imul dX12_game_184 ?_
            refine J_iload 7 dX12_game_185 rfl ?_
            refine J_iconst 2 dX12_game_187 (by decide) ?_
            refine J_irem dX12_game_188 (by decide) ?_
            refine J_iadd dX12_game_189 ?_
            refine J_goto 195 dX12_game_190 (by decide) ?_
            exact J_lv [1, 2, 3, 4, 5, 0, 7] rfl (K_X12_game_195   a0 a1 a2 a3 a4 (fun x5 x6 x7 st h => ih x5 x6 x7 st h) (x5 + 1) x7 ((10 * (x7 / 2)) + (x7 - x7 / 2 * 2)) st h)
        · have h := h.2 hc
          refine J_goto 197 dX12_game_166 (by decide) ?_
          exact J_lv [0, 1, 2, 3, 4, 5, 6, 7] rfl (K_X12_game_197   a0 a1 a2 a3 a4 (fun x5 x6 x7 st h => ih x5 x6 x7 st h) x5 x6 x7 st h)
set_option maxRecDepth 100000 in
set_option maxHeartbeats 4000000 in
theorem K_X12_game_88 {l : Launch} {E : En}   (a0 : Nat) (a1 : Int32) (a2 : Int32) (a3 : Int32) (a4 : Int32)  {post : Int32 → St → Prop}    (st : St) (h : P_X12_game_88  a0 a1 a2 a3 a4  post  st) : Jg l E (CFc E) (Rm 11 0 0) cX12_game 8 RX12 (some .int) (fun _ => True) (QI E post 0 0) 0 0 88 [(0, .ref a0), (1, .int a1), (2, .int a2), (3, .int a3), (4, .int a4)] [] st := by
  unfold P_X12_game_88 at h
  refine J_aload_n 0 dX12_game_88 rfl rfl ?_
  refine J_iconst 2 dX12_game_89 (by decide) ?_
  obtain ⟨ho, h⟩ := h
  refine J_cvi (As := [_]) md_X12_fail k_1093 (rc_obj cl_12 ho) rfl rfl ⟨Nat.le_of_ble_eq_true rfl, Nat.le_of_ble_eq_true rfl⟩ ⟨Nat.le_of_ble_eq_true rfl, Nat.le_of_ble_eq_true rfl⟩ (Nat.le_of_ble_eq_true rfl) dX12_game_90 (ct_X12_fail  h) (fun z_1 st_2 h => ?_)
  exact J_reti rfl dX12_game_93 h
set_option maxRecDepth 100000 in
set_option maxHeartbeats 4000000 in
theorem K_X12_game_40 {l : Launch} {E : En}   (a0 : Nat) (a1 : Int32) (a2 : Int32) (a3 : Int32) (a4 : Int32)  {post : Int32 → St → Prop}    (st : St) (h : P_X12_game_40  a0 a1 a2 a3 a4  post  st) : Jg l E (CFc E) (Rm 11 0 0) cX12_game 8 RX12 (some .int) (fun _ => True) (QI E post 0 0) 0 0 40 [(0, .ref a0), (1, .int a1), (2, .int a2), (3, .int a3), (4, .int a4)] [] st := by
  unfold P_X12_game_40 at h
  refine J_aload_n 0 dX12_game_40 rfl rfl ?_
  refine J_iconst 1 dX12_game_41 (by decide) ?_
  obtain ⟨ho, h⟩ := h
  refine J_cvi (As := [_]) md_X12_fail k_1093 (rc_obj cl_12 ho) rfl rfl ⟨Nat.le_of_ble_eq_true rfl, Nat.le_of_ble_eq_true rfl⟩ ⟨Nat.le_of_ble_eq_true rfl, Nat.le_of_ble_eq_true rfl⟩ (Nat.le_of_ble_eq_true rfl) dX12_game_42 (ct_X12_fail  h) (fun z_1 st_2 h => ?_)
  exact J_reti rfl dX12_game_45 h
set_option maxRecDepth 100000 in
set_option maxHeartbeats 4000000 in
theorem ct_X12_game {l : Launch} {E : En}  {a0 : Nat} {a1 : Int32} {a2 : Int32} {a3 : Int32} {a4 : Int32} {st : St} {post : Int32 → St → Prop} (h : P_X12_game  a0 a1 a2 a3 a4 st post) : CtI l E (CFc E) 11 0 0 yX12_game cX12_game 8 (some .int) [.ref a0, .int a1, .int a2, .int a3, .int a4] st post := by
  refine ctI_of (by decide) (Nat.le_of_ble_eq_true rfl) ?_
  show Jg l E (CFc E) (Rm 11 0 0) cX12_game 8 RX12 (some .int) (fun _ => True) (QI E post 0 0) 0 0 0 [(0, .ref a0), (1, .int a1), (2, .int a2), (3, .int a3), (4, .int a4)] [] st
  unfold P_X12_game at h
  refine J_aload_n 0 dX12_game_0 rfl rfl ?_
  refine J_iconst 0 dX12_game_1 (by decide) ?_
  obtain ⟨hf, h⟩ := h
  refine J_putI fp_RX12_184 dX12_game_2 rfl hf ?_
  refine J_aload_n 0 dX12_game_5 rfl rfl ?_
  refine J_iload_n 1 dX12_game_6 rfl rfl ?_
  obtain ⟨ho, h⟩ := h
  refine J_cvi (As := [_]) md_X12_isPerson k_1167 (rc_obj cl_12 ho) rfl rfl ⟨Nat.le_of_ble_eq_true rfl, Nat.le_of_ble_eq_true rfl⟩ ⟨Nat.le_of_ble_eq_true rfl, Nat.le_of_ble_eq_true rfl⟩ (Nat.le_of_ble_eq_true rfl) dX12_game_7 (ct_X12_isPerson  h) (fun z_1 st_2 h => ?_)
  refine J_if_eq 40 dX12_game_10 (by decide) (fun hc => ?_) (fun hc => ?_)
  · have h := h.1 hc
    exact J_lv [0, 1, 2, 3, 4] rfl (K_X12_game_40   a0 a1 a2 a3 a4  st_2 h)
  · have h := h.2 hc
    refine J_aload_n 0 dX12_game_13 rfl rfl ?_
    refine J_iload_n 2 dX12_game_14 rfl rfl ?_
    obtain ⟨ho, h⟩ := h
    refine J_cvi (As := [_]) md_X12_isPerson k_1167 (rc_obj cl_12 ho) rfl rfl ⟨Nat.le_of_ble_eq_true rfl, Nat.le_of_ble_eq_true rfl⟩ ⟨Nat.le_of_ble_eq_true rfl, Nat.le_of_ble_eq_true rfl⟩ (Nat.le_of_ble_eq_true rfl) dX12_game_15 (ct_X12_isPerson  h) (fun z_3 st_4 h => ?_)
    refine J_if_eq 40 dX12_game_18 (by decide) (fun hc => ?_) (fun hc => ?_)
    · have h := h.1 hc
      exact J_lv [0, 1, 2, 3, 4] rfl (K_X12_game_40   a0 a1 a2 a3 a4  st_4 h)
    · have h := h.2 hc
      refine J_aload_n 0 dX12_game_21 rfl rfl ?_
      refine J_iload_n 3 dX12_game_22 rfl rfl ?_
      obtain ⟨ho, h⟩ := h
      refine J_cvi (As := [_]) md_X12_isBride k_1170 (rc_obj cl_12 ho) rfl rfl ⟨Nat.le_of_ble_eq_true rfl, Nat.le_of_ble_eq_true rfl⟩ ⟨Nat.le_of_ble_eq_true rfl, Nat.le_of_ble_eq_true rfl⟩ (Nat.le_of_ble_eq_true rfl) dX12_game_23 (ct_X12_isBride  h) (fun z_5 st_6 h => ?_)
      refine J_if_eq 40 dX12_game_26 (by decide) (fun hc => ?_) (fun hc => ?_)
      · have h := h.1 hc
        exact J_lv [0, 1, 2, 3, 4] rfl (K_X12_game_40   a0 a1 a2 a3 a4  st_6 h)
      · have h := h.2 hc
        refine J_iload 4 dX12_game_29 rfl ?_
        refine J_if_lt 40 dX12_game_31 (by decide) (fun hc => ?_) (fun hc => ?_)
        · have h := h.1 hc
          exact J_lv [0, 1, 2, 3, 4] rfl (K_X12_game_40   a0 a1 a2 a3 a4  st_6 h)
        · have h := h.2 hc
          refine J_iload 4 dX12_game_34 rfl ?_
          refine J_iconst 1 dX12_game_36 (by decide) ?_
          refine J_icmp_le 46 dX12_game_37 (by decide) (fun hc => ?_) (fun hc => ?_)
          · have h := h.1 hc
            refine J_iload_n 1 dX12_game_46 rfl rfl ?_
            refine J_iload_n 2 dX12_game_47 rfl rfl ?_
            refine J_icmp_eq 88 dX12_game_48 (by decide) (fun hc => ?_) (fun hc => ?_)
            · have h := h.1 hc
              exact J_lv [0, 1, 2, 3, 4] rfl (K_X12_game_88   a0 a1 a2 a3 a4  st_6 h)
            · have h := h.2 hc
              refine J_aload_n 0 dX12_game_51 rfl rfl ?_
              obtain ⟨r_7, hf, h⟩ := h
              refine J_getR fl_RX12_105 dX12_game_52 hf ?_
              refine J_bipush 6 dX12_game_55 (by decide) ?_
              refine J_iload_n 1 dX12_game_57 rfl rfl ?_
              refine J_imul dX12_game_58 ?_
              refine J_iload_n 3 dX12_game_59 rfl rfl ?_
              refine J_iadd dX12_game_60 ?_
              obtain ⟨hi, h⟩ := h
              refine J_iald dX12_game_61 hi ?_
              refine J_if_eq 88 dX12_game_62 (by decide) (fun hc => ?_) (fun hc => ?_)
              · have h := h.1 hc
                exact J_lv [0, 1, 2, 3, 4] rfl (K_X12_game_88   a0 a1 a2 a3 a4  st_6 h)
              · have h := h.2 hc
                refine J_aload_n 0 dX12_game_65 rfl rfl ?_
                obtain ⟨r_8, hf, h⟩ := h
                refine J_getR fl_RX12_105 dX12_game_66 hf ?_
                refine J_bipush 6 dX12_game_69 (by decide) ?_
                refine J_iload_n 2 dX12_game_71 rfl rfl ?_
                refine J_imul dX12_game_72 ?_
                refine J_iload_n 3 dX12_game_73 rfl rfl ?_
                refine J_iadd dX12_game_74 ?_
                obtain ⟨hi, h⟩ := h
                refine J_iald dX12_game_75 hi ?_
                refine J_if_eq 88 dX12_game_76 (by decide) (fun hc => ?_) (fun hc => ?_)
                · have h := h.1 hc
                  exact J_lv [0, 1, 2, 3, 4] rfl (K_X12_game_88   a0 a1 a2 a3 a4  st_6 h)
                · have h := h.2 hc
                  refine J_aload_n 0 dX12_game_79 rfl rfl ?_
                  obtain ⟨r_9, hf, h⟩ := h
                  refine J_getR fl_RX12_99 dX12_game_80 hf ?_
                  refine J_iload_n 3 dX12_game_83 rfl rfl ?_
                  obtain ⟨hi, h⟩ := h
                  refine J_iald dX12_game_84 hi ?_
                  refine J_if_ne 94 dX12_game_85 (by decide) (fun hc => ?_) (fun hc => ?_)
                  · have h := h.1 hc
                    refine J_aload_n 0 dX12_game_94 rfl rfl ?_
                    refine J_iload_n 1 dX12_game_95 rfl rfl ?_
                    refine J_iload_n 2 dX12_game_96 rfl rfl ?_
                    refine J_iload_n 3 dX12_game_97 rfl rfl ?_
                    obtain ⟨ho, h⟩ := h
                    refine J_cvv (As := [_, _, _]) md_X12_tellGains k_1278 (rc_obj cl_12 ho) rfl rfl ⟨Nat.le_of_ble_eq_true rfl, Nat.le_of_ble_eq_true rfl⟩ ⟨Nat.le_of_ble_eq_true rfl, Nat.le_of_ble_eq_true rfl⟩ (Nat.le_of_ble_eq_true rfl) dX12_game_98 (ct_X12_tellGains  h) (fun st_11 h => ?_)
                    refine J_iconst 0 dX12_game_101 (by decide) ?_
                    refine J_istore _ dX12_game_102 (by decide) rfl ?_
                    refine J_iconst (-1) dX12_game_104 (by decide) ?_
                    refine J_istore _ dX12_game_105 (by decide) rfl ?_
                    refine J_iconst 0 dX12_game_107 (by decide) ?_
                    refine J_istore _ dX12_game_108 (by decide) rfl ?_
                    obtain ⟨n8, h⟩ := h
                    exact J_lv [3, 4, 5, 6, 7, 2, 1, 0] rfl (K_X12_game_110   a0 a1 a2 a3 a4  n8 0 (-1) 0 st_11 h)
                  · have h := h.2 hc
                    exact J_lv [0, 1, 2, 3, 4] rfl (K_X12_game_88   a0 a1 a2 a3 a4  st_6 h)
          · have h := h.2 hc
            exact J_lv [0, 1, 2, 3, 4] rfl (K_X12_game_40   a0 a1 a2 a3 a4  st_6 h)
/-! X12_drawOf -/
def P_X12_drawOf  (a0 : Nat) (a1 : Int32) (st : St) (post : Int32 → St → Prop) : Prop := fk a0 12 57 = some 0 ∧ fk a0 12 57 = some 0 ∧ fk a0 12 57 = some 0 ∧ (¬ a1 = 0) ∧ post ((((gI (sI st a0 57 (((gI st a0 57) * 1103515245) + 12345)) a0 57 : Int32) >>> ((16 : Int32) &&& 31)) &&& 32767) - (((gI (sI st a0 57 (((gI st a0 57) * 1103515245) + 12345)) a0 57 : Int32) >>> ((16 : Int32) &&& 31)) &&& 32767) / a1 * a1) (sI st a0 57 (((gI st a0 57) * 1103515245) + 12345))
set_option maxRecDepth 100000 in
set_option maxHeartbeats 4000000 in
theorem ct_X12_drawOf {l : Launch} {E : En}  {a0 : Nat} {a1 : Int32} {st : St} {post : Int32 → St → Prop} (h : P_X12_drawOf  a0 a1 st post) : CtI l E (CFc E) 1 0 0 yX12_drawOf cX12_drawOf 2 (some .int) [.ref a0, .int a1] st post := by
  refine ctI_of (by decide) (Nat.le_of_ble_eq_true rfl) ?_
  show Jg l E (CFc E) (Rm 1 0 0) cX12_drawOf 2 RX12 (some .int) (fun _ => True) (QI E post 0 0) 0 0 0 [(0, .ref a0), (1, .int a1)] [] st
  unfold P_X12_drawOf at h
  refine J_aload_n 0 dX12_drawOf_0 rfl rfl ?_
  refine J_aload_n 0 dX12_drawOf_1 rfl rfl ?_
  obtain ⟨hf, h⟩ := h
  refine J_getI fl_RX12_491 dX12_drawOf_2 hf ?_
  refine J_ldcw k_1284 dX12_drawOf_5 ?_
  refine J_imul dX12_drawOf_8 ?_
  refine J_sipush 12345 dX12_drawOf_9 (by decide) ?_
  refine J_iadd dX12_drawOf_12 ?_
  obtain ⟨hf, h⟩ := h
  refine J_putI fp_RX12_491 dX12_drawOf_13 rfl hf ?_
  refine J_aload_n 0 dX12_drawOf_16 rfl rfl ?_
  obtain ⟨hf, h⟩ := h
  refine J_getI fl_RX12_491 dX12_drawOf_17 hf ?_
  refine J_bipush 16 dX12_drawOf_20 (by decide) ?_
  refine J_ishr dX12_drawOf_22 ?_
  refine J_sipush 32767 dX12_drawOf_23 (by decide) ?_
  refine J_iand dX12_drawOf_26 ?_
  refine J_iload_n 1 dX12_drawOf_27 rfl rfl ?_
  obtain ⟨hz, h⟩ := h
  refine J_irem dX12_drawOf_28 hz ?_
  exact J_reti rfl dX12_drawOf_29 h
/-! X12_something -/
def P_X12_something_109  (a0 : Nat)  (post : St → Prop)  (st : St) : Prop := post st
def P_X12_something_51  (a0 : Nat)  (post : St → Prop) (x1 : Int32) (st : St) : Prop := ((¬ x1 = 1 → P_X12_something_109  a0  post st) ∧ (x1 = 1 → ∃ r_1, rv st a0 12 5 = some r_1 ∧ vp_in 1 (al 0 r_1) ∧ (((gA st r_1 (1 : Int32).toNatClampNeg) ≤ 0 → P_X12_something_109  a0  post st) ∧ (¬ (gA st r_1 (1 : Int32).toNatClampNeg) ≤ 0 → ∃ r_2, rv st a0 12 5 = some r_2 ∧ vp_in 1 (al 0 r_2) ∧ oC a0 12 ∧ P_X12_drawOf  a0 (gA st r_2 (1 : Int32).toNatClampNeg) st (fun z_3 st_4 => ∃ r_5, rv st_4 a0 12 32 = some r_5 ∧ vp_in z_3 (al 0 r_5) ∧ ((¬ (gA st_4 r_5 (z_3 : Int32).toNatClampNeg) = 1 → P_X12_something_109  a0  post st_4) ∧ ((gA st_4 r_5 (z_3 : Int32).toNatClampNeg) = 1 → ∃ r_6, rv st_4 a0 12 31 = some r_6 ∧ vp_in z_3 (al 0 r_6) ∧ fk a0 12 36 = some 0 ∧ (((gA st_4 r_6 (z_3 : Int32).toNatClampNeg) < (gI st_4 a0 36) → P_X12_something_109  a0  post st_4) ∧ (¬ (gA st_4 r_6 (z_3 : Int32).toNatClampNeg) < (gI st_4 a0 36) → ∃ r_7, rv st_4 a0 12 31 = some r_7 ∧ vp_in z_3 (al 0 r_7) ∧ vp_in z_3 (al 0 r_7) ∧ P_X12_something_109  a0  post (sA st_4 r_7 (z_3 : Int32).toNatClampNeg ((gA st_4 r_7 (z_3 : Int32).toNatClampNeg) + 2)))))))))))
def P_X12_something  (a0 : Nat) (st : St) (post : St → Prop) : Prop := oC a0 12 ∧ P_X12_drawOf  a0 6 st (fun z_1 st_2 => ((¬ z_1 = 0 → P_X12_something_51  a0  post z_1 st_2) ∧ (z_1 = 0 → ∃ r_3, rv st_2 a0 12 5 = some r_3 ∧ vp_in 0 (al 0 r_3) ∧ (((gA st_2 r_3 (0 : Int32).toNatClampNeg) ≤ 0 → P_X12_something_51  a0  post z_1 st_2) ∧ (¬ (gA st_2 r_3 (0 : Int32).toNatClampNeg) ≤ 0 → ∃ r_4, rv st_2 a0 12 5 = some r_4 ∧ vp_in 0 (al 0 r_4) ∧ oC a0 12 ∧ P_X12_drawOf  a0 (gA st_2 r_4 (0 : Int32).toNatClampNeg) st_2 (fun z_5 st_6 => ∃ r_7, rv st_6 a0 12 27 = some r_7 ∧ ∃ r_8, rv st_6 a0 12 27 = some r_8 ∧ vp_in z_5 (al 0 r_8) ∧ vp_in z_5 (al 0 r_7) ∧ P_X12_something_51  a0  post z_1 (sA st_6 r_7 (z_5 : Int32).toNatClampNeg (if (((gA st_6 r_8 (z_5 : Int32).toNatClampNeg) + 15) : Int32) < 99 then ((gA st_6 r_8 (z_5 : Int32).toNatClampNeg) + 15) else 99))))))))
set_option maxRecDepth 100000 in
set_option maxHeartbeats 4000000 in
theorem K_X12_something_109 {l : Launch} {E : En}   (a0 : Nat)  {post : St → Prop}    (st : St) (h : P_X12_something_109  a0  post  st) : Jg l E (CFc E) (Rm 2 0 0) cX12_something 3 RX12 none (fun _ => True) (QV E post 0 0) 0 0 109 [(0, .ref a0)] [] st := by
  unfold P_X12_something_109 at h
  exact J_retv rfl dX12_something_109 h
set_option maxRecDepth 100000 in
set_option maxHeartbeats 4000000 in
theorem K_X12_something_51 {l : Launch} {E : En}   (a0 : Nat)  {post : St → Prop}   (x1 : Int32) (st : St) (h : P_X12_something_51  a0  post x1 st) : Jg l E (CFc E) (Rm 2 0 0) cX12_something 3 RX12 none (fun _ => True) (QV E post 0 0) 0 0 51 [(0, .ref a0), (1, .int x1)] [] st := by
  unfold P_X12_something_51 at h
  refine J_iload_n 1 dX12_something_51 rfl rfl ?_
  refine J_iconst 1 dX12_something_52 (by decide) ?_
  refine J_icmp_ne 109 dX12_something_53 (by decide) (fun hc => ?_) (fun hc => ?_)
  · have h := h.1 hc
    exact J_lv [0] rfl (K_X12_something_109   a0  st h)
  · have h := h.2 hc
    refine J_aload_n 0 dX12_something_56 rfl rfl ?_
    obtain ⟨r_1, hf, h⟩ := h
    refine J_getR fl_RX12_48 dX12_something_57 hf ?_
    refine J_iconst 1 dX12_something_60 (by decide) ?_
    obtain ⟨hi, h⟩ := h
    refine J_iald dX12_something_61 hi ?_
    refine J_if_le 109 dX12_something_62 (by decide) (fun hc => ?_) (fun hc => ?_)
    · have h := h.1 hc
      exact J_lv [0] rfl (K_X12_something_109   a0  st h)
    · have h := h.2 hc
      refine J_aload_n 0 dX12_something_65 rfl rfl ?_
      refine J_aload_n 0 dX12_something_66 rfl rfl ?_
      obtain ⟨r_2, hf, h⟩ := h
      refine J_getR fl_RX12_48 dX12_something_67 hf ?_
      refine J_iconst 1 dX12_something_70 (by decide) ?_
      obtain ⟨hi, h⟩ := h
      refine J_iald dX12_something_71 hi ?_
      obtain ⟨ho, h⟩ := h
      refine J_cvi (As := [_]) md_X12_drawOf k_1286 (rc_obj cl_12 ho) rfl rfl ⟨Nat.le_of_ble_eq_true rfl, Nat.le_of_ble_eq_true rfl⟩ ⟨Nat.le_of_ble_eq_true rfl, Nat.le_of_ble_eq_true rfl⟩ (Nat.le_of_ble_eq_true rfl) dX12_something_72 (ct_X12_drawOf  h) (fun z_3 st_4 h => ?_)
      refine J_istore_n _ dX12_something_75 rfl (by decide) rfl ?_
      refine J_aload_n 1 dX12_something_76 rfl rfl ?_
      obtain ⟨r_5, hf, h⟩ := h
      refine J_getR fl_RX12_99 dX12_something_77 hf ?_
      refine J_iload_n 0 dX12_something_80 rfl rfl ?_
      obtain ⟨hi, h⟩ := h
      refine J_iald dX12_something_81 hi ?_
      refine J_iconst 1 dX12_something_82 (by decide) ?_
      refine J_icmp_ne 109 dX12_something_83 (by decide) (fun hc => ?_) (fun hc => ?_)
      · have h := h.1 hc
        exact J_lv [1] rfl (K_X12_something_109   a0  st_4 h)
      · have h := h.2 hc
        refine J_aload_n 1 dX12_something_86 rfl rfl ?_
        obtain ⟨r_6, hf, h⟩ := h
        refine J_getR fl_RX12_96 dX12_something_87 hf ?_
        refine J_iload_n 0 dX12_something_90 rfl rfl ?_
        obtain ⟨hi, h⟩ := h
        refine J_iald dX12_something_91 hi ?_
        refine J_aload_n 1 dX12_something_92 rfl rfl ?_
        obtain ⟨hf, h⟩ := h
        refine J_getI fl_RX12_342 dX12_something_93 hf ?_
        refine J_icmp_lt 109 dX12_something_96 (by decide) (fun hc => ?_) (fun hc => ?_)
        · have h := h.1 hc
          exact J_lv [1] rfl (K_X12_something_109   a0  st_4 h)
        · have h := h.2 hc
          refine J_aload_n 1 dX12_something_99 rfl rfl ?_
          obtain ⟨r_7, hf, h⟩ := h
          refine J_getR fl_RX12_96 dX12_something_100 hf ?_
          refine J_iload_n 0 dX12_something_103 rfl rfl ?_
          refine J_dup2 dX12_something_104 rfl rfl ?_
          obtain ⟨hi, h⟩ := h
          refine J_iald dX12_something_105 hi ?_
          refine J_iconst 2 dX12_something_106 (by decide) ?_
          refine J_iadd dX12_something_107 ?_
          obtain ⟨hi, h⟩ := h
          refine J_iast dX12_something_108 hi ?_
          exact J_lv [1] rfl (K_X12_something_109   a0  (sA st_4 r_7 (z_3 : Int32).toNatClampNeg ((gA st_4 r_7 (z_3 : Int32).toNatClampNeg) + 2)) h)
set_option maxRecDepth 100000 in
set_option maxHeartbeats 4000000 in
theorem ct_X12_something {l : Launch} {E : En}  {a0 : Nat} {st : St} {post : St → Prop} (h : P_X12_something  a0 st post) : CtV l E (CFc E) 2 0 0 yX12_something cX12_something 3 none [.ref a0] st post := by
  refine ctV_of (by decide) (Nat.le_of_ble_eq_true rfl) ?_
  show Jg l E (CFc E) (Rm 2 0 0) cX12_something 3 RX12 none (fun _ => True) (QV E post 0 0) 0 0 0 [(0, .ref a0)] [] st
  unfold P_X12_something at h
  refine J_aload_n 0 dX12_something_0 rfl rfl ?_
  refine J_bipush 6 dX12_something_1 (by decide) ?_
  obtain ⟨ho, h⟩ := h
  refine J_cvi (As := [_]) md_X12_drawOf k_1286 (rc_obj cl_12 ho) rfl rfl ⟨Nat.le_of_ble_eq_true rfl, Nat.le_of_ble_eq_true rfl⟩ ⟨Nat.le_of_ble_eq_true rfl, Nat.le_of_ble_eq_true rfl⟩ (Nat.le_of_ble_eq_true rfl) dX12_something_3 (ct_X12_drawOf  h) (fun z_1 st_2 h => ?_)
  refine J_istore_n _ dX12_something_6 rfl (by decide) rfl ?_
  refine J_iload_n 0 dX12_something_7 rfl rfl ?_
  refine J_if_ne 51 dX12_something_8 (by decide) (fun hc => ?_) (fun hc => ?_)
  · have h := h.1 hc
    exact J_lv [1, 0] rfl (K_X12_something_51   a0  z_1 st_2 h)
  · have h := h.2 hc
    refine J_aload_n 1 dX12_something_11 rfl rfl ?_
    obtain ⟨r_3, hf, h⟩ := h
    refine J_getR fl_RX12_48 dX12_something_12 hf ?_
    refine J_iconst 0 dX12_something_15 (by decide) ?_
    obtain ⟨hi, h⟩ := h
    refine J_iald dX12_something_16 hi ?_
    refine J_if_le 51 dX12_something_17 (by decide) (fun hc => ?_) (fun hc => ?_)
    · have h := h.1 hc
      exact J_lv [1, 0] rfl (K_X12_something_51   a0  z_1 st_2 h)
    · have h := h.2 hc
      refine J_aload_n 1 dX12_something_20 rfl rfl ?_
      refine J_aload_n 1 dX12_something_21 rfl rfl ?_
      obtain ⟨r_4, hf, h⟩ := h
      refine J_getR fl_RX12_48 dX12_something_22 hf ?_
      refine J_iconst 0 dX12_something_25 (by decide) ?_
      obtain ⟨hi, h⟩ := h
      refine J_iald dX12_something_26 hi ?_
      obtain ⟨ho, h⟩ := h
      refine J_cvi (As := [_]) md_X12_drawOf k_1286 (rc_obj cl_12 ho) rfl rfl ⟨Nat.le_of_ble_eq_true rfl, Nat.le_of_ble_eq_true rfl⟩ ⟨Nat.le_of_ble_eq_true rfl, Nat.le_of_ble_eq_true rfl⟩ (Nat.le_of_ble_eq_true rfl) dX12_something_27 (ct_X12_drawOf  h) (fun z_5 st_6 h => ?_)
      refine J_istore_n _ dX12_something_30 rfl (by decide) rfl ?_
      refine J_aload_n 2 dX12_something_31 rfl rfl ?_
      obtain ⟨r_7, hf, h⟩ := h
      refine J_getR fl_RX12_85 dX12_something_32 hf ?_
      refine J_iload_n 0 dX12_something_35 rfl rfl ?_
      refine J_bipush 99 dX12_something_36 (by decide) ?_
      refine J_aload_n 2 dX12_something_38 rfl rfl ?_
      obtain ⟨r_8, hf, h⟩ := h
      refine J_getR fl_RX12_85 dX12_something_39 hf ?_
      refine J_iload_n 0 dX12_something_42 rfl rfl ?_
      obtain ⟨hi, h⟩ := h
      refine J_iald dX12_something_43 hi ?_
      refine J_bipush 15 dX12_something_44 (by decide) ?_
      refine J_iadd dX12_something_46 ?_
      refine J_mmin k_987 k_162 k_158 k_163 ⟨Nat.le_of_ble_eq_true rfl, Nat.le_of_ble_eq_true rfl, Nat.le_of_ble_eq_true rfl, Nat.le_of_ble_eq_true rfl⟩ dX12_something_47 ?_
      obtain ⟨hi, h⟩ := h
      refine J_iast dX12_something_50 hi ?_
      exact J_lv [2, 1] rfl (K_X12_something_51   a0  z_1 (sA st_6 r_7 (z_5 : Int32).toNatClampNeg (if (((gA st_6 r_8 (z_5 : Int32).toNatClampNeg) + 15) : Int32) < 99 then ((gA st_6 r_8 (z_5 : Int32).toNatClampNeg) + 15) else 99)) h)
/-! X12_drawn -/
def P_X12_drawn_124  (a0 : Nat) (a1 : Int32) (a2 : Int32) (a3 : Int32)  (post : Int32 → St → Prop) (s0 : Int32) (st : St) : Prop := ∃ r_1, rv st a0 12 43 = some r_1 ∧ oC a0 12 ∧ P_X12_unpack  a0 r_1 0 st (fun st_3 => post s0 st_3)
def P_X12_drawn_64  (a0 : Nat) (a1 : Int32) (a2 : Int32) (a3 : Int32)  (post : Int32 → St → Prop) : Nat → Int32 → Int32 → St → Prop
  | 0, _, _, _ => False
  | n9 + 1, x4, x5, st => ((a2 ≤ x5 → ((¬ a3 = 0 → ((¬ a3 = 1 → oC a0 12 ∧ P_X12_allGrief  a0 st (fun z_1 st_2 => P_X12_drawn_124  a0 a1 a2 a3  post z_1 st_2)) ∧ (a3 = 1 → fk a0 12 37 = some 0 ∧ P_X12_drawn_124  a0 a1 a2 a3  post ((gI st a0 37) - x4) st))) ∧ (a3 = 0 → ∃ r_3, rv st a0 12 5 = some r_3 ∧ vp_in 1 (al 0 r_3) ∧ oC a0 12 ∧ P_X12_atHome  a0 st (fun z_4 st_5 => P_X12_bitsOf  z_4 st_5 (fun z_6 st_7 => P_X12_drawn_124  a0 a1 a2 a3  post ((gA st r_3 (1 : Int32).toNatClampNeg) - z_6) st_7))))) ∧ (¬ a2 ≤ x5 → oC a0 12 ∧ P_X12_something  a0 st (fun st_9 => oC a0 12 ∧ P_X12_aDay  a0 st_9 (fun st_11 => P_X12_drawn_64  a0 a1 a2 a3  post n9 x4 (x5 + 1) st_11))))
def P_X12_drawn  (a0 : Nat) (a1 : Int32) (a2 : Int32) (a3 : Int32) (st : St) (post : Int32 → St → Prop) : Prop := fk a0 12 4 = some 0 ∧ P_X12_isIn  ((a3 : Int32).toInt64) 0 2 (sI st a0 4 0) (fun z_1 st_2 => ((¬ z_1 = 0 → P_X12_isIn  ((a2 : Int32).toInt64) 0 60 st_2 (fun z_3 st_4 => ((¬ z_3 = 0 → ∃ r_5, rv st_4 a0 12 43 = some r_5 ∧ oC a0 12 ∧ P_X12_pack  a0 r_5 0 st_4 (fun st_7 => fk a0 12 57 = some 0 ∧ fk a0 12 37 = some 0 ∧ ∃ n8, P_X12_drawn_64  a0 a1 a2 a3  post n8 (gI (sI st_7 a0 57 a1) a0 37) 0 (sI st_7 a0 57 a1))) ∧ (z_3 = 0 → oC a0 12 ∧ P_X12_fail  a0 2 st_4 (fun z_8 st_9 => post z_8 st_9))))) ∧ (z_1 = 0 → oC a0 12 ∧ P_X12_fail  a0 1 st_2 (fun z_10 st_11 => post z_10 st_11))))
set_option maxRecDepth 100000 in
set_option maxHeartbeats 4000000 in
theorem K_X12_drawn_124 {l : Launch} {E : En}   (a0 : Nat) (a1 : Int32) (a2 : Int32) (a3 : Int32)  {post : Int32 → St → Prop}   (s0 : Int32) (st : St) (h : P_X12_drawn_124  a0 a1 a2 a3  post s0 st) : Jg l E (CFc E) (Rm 8 0 0) cX12_drawn 6 RX12 (some .int) (fun _ => True) (QI E post 0 0) 0 0 124 [(0, .ref a0), (1, .int a1), (2, .int a2), (3, .int a3)] [.int s0] st := by
  unfold P_X12_drawn_124 at h
  refine J_istore _ dX12_drawn_124 (by decide) rfl ?_
  refine J_aload_n 1 dX12_drawn_126 rfl rfl ?_
  refine J_aload_n 1 dX12_drawn_127 rfl rfl ?_
  obtain ⟨r_1, hf, h⟩ := h
  refine J_getR fl_RX12_120 dX12_drawn_128 hf ?_
  refine J_iconst 0 dX12_drawn_131 (by decide) ?_
  obtain ⟨ho, h⟩ := h
  refine J_cvv (As := [_, _]) md_X12_unpack k_1200 (rc_obj cl_12 ho) rfl rfl ⟨Nat.le_of_ble_eq_true rfl, Nat.le_of_ble_eq_true rfl⟩ ⟨Nat.le_of_ble_eq_true rfl, Nat.le_of_ble_eq_true rfl⟩ (Nat.le_of_ble_eq_true rfl) dX12_drawn_132 (ct_X12_unpack  h) (fun st_3 h => ?_)
  refine J_iload 0 dX12_drawn_135 rfl ?_
  exact J_reti rfl dX12_drawn_137 h
set_option maxRecDepth 100000 in
set_option maxHeartbeats 4000000 in
theorem K_X12_drawn_64 {l : Launch} {E : En}   (a0 : Nat) (a1 : Int32) (a2 : Int32) (a3 : Int32)  {post : Int32 → St → Prop}   : ∀ (n9 : Nat) (x4 : Int32) (x5 : Int32) (st : St), P_X12_drawn_64  a0 a1 a2 a3  post n9 x4 x5 st → Jg l E (CFc E) (Rm 8 0 0) cX12_drawn 6 RX12 (some .int) (fun _ => True) (QI E post 0 0) 0 0 64 [(0, .ref a0), (1, .int a1), (2, .int a2), (3, .int a3), (4, .int x4), (5, .int x5)] [] st := by
  intro n9
  induction n9 with
  | zero => intro x4 x5 st h; exact h.elim
  | succ n9 ih =>
    intro x4 x5 st h
    unfold P_X12_drawn_64 at h
    refine J_iload 5 dX12_drawn_64 rfl ?_
    refine J_iload_n 2 dX12_drawn_66 rfl rfl ?_
    refine J_icmp_ge 84 dX12_drawn_67 (by decide) (fun hc => ?_) (fun hc => ?_)
    · have h := h.1 hc
      refine J_iload_n 3 dX12_drawn_84 rfl rfl ?_
      refine J_if_ne 105 dX12_drawn_85 (by decide) (fun hc => ?_) (fun hc => ?_)
      · have h := h.1 hc
        refine J_iload_n 3 dX12_drawn_105 rfl rfl ?_
        refine J_iconst 1 dX12_drawn_106 (by decide) ?_
        refine J_icmp_ne 120 dX12_drawn_107 (by decide) (fun hc => ?_) (fun hc => ?_)
        · have h := h.1 hc
          refine J_aload_n 0 dX12_drawn_120 rfl rfl ?_
          obtain ⟨ho, h⟩ := h
          refine J_cvi (As := []) md_X12_allGrief k_1162 (rc_obj cl_12 ho) rfl rfl ⟨Nat.le_of_ble_eq_true rfl, Nat.le_of_ble_eq_true rfl⟩ ⟨Nat.le_of_ble_eq_true rfl, Nat.le_of_ble_eq_true rfl⟩ (Nat.le_of_ble_eq_true rfl) dX12_drawn_121 (ct_X12_allGrief  h) (fun z_1 st_2 h => ?_)
          exact J_lv [0, 1, 2, 3] rfl (K_X12_drawn_124   a0 a1 a2 a3  z_1 st_2 h)
        · have h := h.2 hc
          refine J_aload_n 0 dX12_drawn_110 rfl rfl ?_
          obtain ⟨hf, h⟩ := h
          refine J_getI fl_RX12_344 dX12_drawn_111 hf ?_
          refine J_iload 4 dX12_drawn_114 rfl ?_
          refine J_isub dX12_drawn_116 ?_
          refine J_goto 124 dX12_drawn_117 (by decide) ?_
          exact J_lv [0, 1, 2, 3] rfl (K_X12_drawn_124   a0 a1 a2 a3  ((gI st a0 37) - x4) st h)
      · have h := h.2 hc
        refine J_aload_n 0 dX12_drawn_88 rfl rfl ?_
        obtain ⟨r_3, hf, h⟩ := h
        refine J_getR fl_RX12_48 dX12_drawn_89 hf ?_
        refine J_iconst 1 dX12_drawn_92 (by decide) ?_
        obtain ⟨hi, h⟩ := h
        refine J_iald dX12_drawn_93 hi ?_
        refine J_aload_n 0 dX12_drawn_94 rfl rfl ?_
        obtain ⟨ho, h⟩ := h
        refine J_cvi (As := []) md_X12_atHome k_1159 (rc_obj cl_12 ho) rfl rfl ⟨Nat.le_of_ble_eq_true rfl, Nat.le_of_ble_eq_true rfl⟩ ⟨Nat.le_of_ble_eq_true rfl, Nat.le_of_ble_eq_true rfl⟩ (Nat.le_of_ble_eq_true rfl) dX12_drawn_95 (ct_X12_atHome  h) (fun z_4 st_5 h => ?_)
        refine J_csi (As := [_]) md_X12_bitsOf k_1111 rfl rfl ⟨Nat.le_of_ble_eq_true rfl, Nat.le_of_ble_eq_true rfl⟩ ⟨Nat.le_of_ble_eq_true rfl, Nat.le_of_ble_eq_true rfl⟩ (Nat.le_of_ble_eq_true rfl) dX12_drawn_98 (ct_X12_bitsOf  h) (fun z_6 st_7 h => ?_)
        refine J_isub dX12_drawn_101 ?_
        refine J_goto 124 dX12_drawn_102 (by decide) ?_
        exact J_lv [0, 1, 2, 3] rfl (K_X12_drawn_124   a0 a1 a2 a3  ((gA st r_3 (1 : Int32).toNatClampNeg) - z_6) st_7 h)
    · have h := h.2 hc
      refine J_aload_n 0 dX12_drawn_70 rfl rfl ?_
      obtain ⟨ho, h⟩ := h
      refine J_cvv (As := []) md_X12_something k_1289 (rc_obj cl_12 ho) rfl rfl ⟨Nat.le_of_ble_eq_true rfl, Nat.le_of_ble_eq_true rfl⟩ ⟨Nat.le_of_ble_eq_true rfl, Nat.le_of_ble_eq_true rfl⟩ (Nat.le_of_ble_eq_true rfl) dX12_drawn_71 (ct_X12_something  h) (fun st_9 h => ?_)
      refine J_aload_n 0 dX12_drawn_74 rfl rfl ?_
      obtain ⟨ho, h⟩ := h
      refine J_cvv (As := []) md_X12_aDay k_1146 (rc_obj cl_12 ho) rfl rfl ⟨Nat.le_of_ble_eq_true rfl, Nat.le_of_ble_eq_true rfl⟩ ⟨Nat.le_of_ble_eq_true rfl, Nat.le_of_ble_eq_true rfl⟩ (Nat.le_of_ble_eq_true rfl) dX12_drawn_75 (ct_X12_aDay  h) (fun st_11 h => ?_)
      refine J_iinc 5 (x5 + 1) _ dX12_drawn_78 rfl (by rfl) (by decide) rfl ?_
      refine J_goto 64 dX12_drawn_81 (by decide) ?_
      exact J_lv [1, 2, 3, 4, 5, 0] rfl (ih x4 (x5 + 1) st_11 h)
set_option maxRecDepth 100000 in
set_option maxHeartbeats 4000000 in
theorem ct_X12_drawn {l : Launch} {E : En}  {a0 : Nat} {a1 : Int32} {a2 : Int32} {a3 : Int32} {st : St} {post : Int32 → St → Prop} (h : P_X12_drawn  a0 a1 a2 a3 st post) : CtI l E (CFc E) 8 0 0 yX12_drawn cX12_drawn 6 (some .int) [.ref a0, .int a1, .int a2, .int a3] st post := by
  refine ctI_of (by decide) (Nat.le_of_ble_eq_true rfl) ?_
  show Jg l E (CFc E) (Rm 8 0 0) cX12_drawn 6 RX12 (some .int) (fun _ => True) (QI E post 0 0) 0 0 0 [(0, .ref a0), (1, .int a1), (2, .int a2), (3, .int a3)] [] st
  unfold P_X12_drawn at h
  refine J_aload_n 0 dX12_drawn_0 rfl rfl ?_
  refine J_iconst 0 dX12_drawn_1 (by decide) ?_
  obtain ⟨hf, h⟩ := h
  refine J_putI fp_RX12_184 dX12_drawn_2 rfl hf ?_
  refine J_iload_n 3 dX12_drawn_5 rfl rfl ?_
  refine J_i2l dX12_drawn_6 ?_
  refine J_lconst 0 dX12_drawn_7 (by decide) ?_
  refine J_ldc2 k_1262 dX12_drawn_8 ?_
  refine J_csi (As := [_, _, _]) md_X12_isIn k_971 rfl rfl ⟨Nat.le_of_ble_eq_true rfl, Nat.le_of_ble_eq_true rfl⟩ ⟨Nat.le_of_ble_eq_true rfl, Nat.le_of_ble_eq_true rfl⟩ (Nat.le_of_ble_eq_true rfl) dX12_drawn_11 (ct_X12_isIn  h) (fun z_1 st_2 h => ?_)
  refine J_if_ne 23 dX12_drawn_14 (by decide) (fun hc => ?_) (fun hc => ?_)
  · have h := h.1 hc
    refine J_iload_n 2 dX12_drawn_23 rfl rfl ?_
    refine J_i2l dX12_drawn_24 ?_
    refine J_lconst 0 dX12_drawn_25 (by decide) ?_
    refine J_ldc2 k_1208 dX12_drawn_26 ?_
    refine J_csi (As := [_, _, _]) md_X12_isIn k_971 rfl rfl ⟨Nat.le_of_ble_eq_true rfl, Nat.le_of_ble_eq_true rfl⟩ ⟨Nat.le_of_ble_eq_true rfl, Nat.le_of_ble_eq_true rfl⟩ (Nat.le_of_ble_eq_true rfl) dX12_drawn_29 (ct_X12_isIn  h) (fun z_3 st_4 h => ?_)
    refine J_if_ne 41 dX12_drawn_32 (by decide) (fun hc => ?_) (fun hc => ?_)
    · have h := h.1 hc
      refine J_aload_n 0 dX12_drawn_41 rfl rfl ?_
      refine J_aload_n 0 dX12_drawn_42 rfl rfl ?_
      obtain ⟨r_5, hf, h⟩ := h
      refine J_getR fl_RX12_120 dX12_drawn_43 hf ?_
      refine J_iconst 0 dX12_drawn_46 (by decide) ?_
      obtain ⟨ho, h⟩ := h
      refine J_cvv (As := [_, _]) md_X12_pack k_1178 (rc_obj cl_12 ho) rfl rfl ⟨Nat.le_of_ble_eq_true rfl, Nat.le_of_ble_eq_true rfl⟩ ⟨Nat.le_of_ble_eq_true rfl, Nat.le_of_ble_eq_true rfl⟩ (Nat.le_of_ble_eq_true rfl) dX12_drawn_47 (ct_X12_pack  h) (fun st_7 h => ?_)
      refine J_aload_n 0 dX12_drawn_50 rfl rfl ?_
      refine J_iload_n 1 dX12_drawn_51 rfl rfl ?_
      obtain ⟨hf, h⟩ := h
      refine J_putI fp_RX12_491 dX12_drawn_52 rfl hf ?_
      refine J_aload_n 0 dX12_drawn_55 rfl rfl ?_
      obtain ⟨hf, h⟩ := h
      refine J_getI fl_RX12_344 dX12_drawn_56 hf ?_
      refine J_istore _ dX12_drawn_59 (by decide) rfl ?_
      refine J_iconst 0 dX12_drawn_61 (by decide) ?_
      refine J_istore _ dX12_drawn_62 (by decide) rfl ?_
      obtain ⟨n8, h⟩ := h
      exact J_lv [2, 3, 4, 5, 1, 0] rfl (K_X12_drawn_64   a0 a1 a2 a3  n8 (gI (sI st_7 a0 57 a1) a0 37) 0 (sI st_7 a0 57 a1) h)
    · have h := h.2 hc
      refine J_aload_n 0 dX12_drawn_35 rfl rfl ?_
      refine J_iconst 2 dX12_drawn_36 (by decide) ?_
      obtain ⟨ho, h⟩ := h
      refine J_cvi (As := [_]) md_X12_fail k_1093 (rc_obj cl_12 ho) rfl rfl ⟨Nat.le_of_ble_eq_true rfl, Nat.le_of_ble_eq_true rfl⟩ ⟨Nat.le_of_ble_eq_true rfl, Nat.le_of_ble_eq_true rfl⟩ (Nat.le_of_ble_eq_true rfl) dX12_drawn_37 (ct_X12_fail  h) (fun z_8 st_9 h => ?_)
      exact J_reti rfl dX12_drawn_40 h
  · have h := h.2 hc
    refine J_aload_n 0 dX12_drawn_17 rfl rfl ?_
    refine J_iconst 1 dX12_drawn_18 (by decide) ?_
    obtain ⟨ho, h⟩ := h
    refine J_cvi (As := [_]) md_X12_fail k_1093 (rc_obj cl_12 ho) rfl rfl ⟨Nat.le_of_ble_eq_true rfl, Nat.le_of_ble_eq_true rfl⟩ ⟨Nat.le_of_ble_eq_true rfl, Nat.le_of_ble_eq_true rfl⟩ (Nat.le_of_ble_eq_true rfl) dX12_drawn_19 (ct_X12_fail  h) (fun z_10 st_11 h => ?_)
    exact J_reti rfl dX12_drawn_22 h
/-! X12_copyTo -/
def P_X12_copyTo_2  (a0 : Nat) (a1 : Nat)  (post : St → Prop) : Nat → Int32 → St → Prop
  | 0, _, _ => False
  | n9 + 1, x2, st => 0 < al 0 a0 ∧ (((Int32.ofNat (al 0 a0)) ≤ x2 → post st) ∧ (¬ (Int32.ofNat (al 0 a0)) ≤ x2 → vp_in x2 (al 0 a1) ∧ vp_in x2 (al 0 a0) ∧ P_X12_copyTo_2  a0 a1  post n9 (x2 + 1) (sA st a0 (x2 : Int32).toNatClampNeg (gA st a1 (x2 : Int32).toNatClampNeg))))
def P_X12_copyTo  (a0 : Nat) (a1 : Nat) (st : St) (post : St → Prop) : Prop := ∃ n8, P_X12_copyTo_2  a0 a1  post n8 0 st
set_option maxRecDepth 100000 in
set_option maxHeartbeats 4000000 in
theorem K_X12_copyTo_2 {l : Launch} {E : En}   (a0 : Nat) (a1 : Nat)  {post : St → Prop}   : ∀ (n9 : Nat) (x2 : Int32) (st : St), P_X12_copyTo_2  a0 a1  post n9 x2 st → Jg l E (CFc E) (Rm 1 0 0) cX12_copyTo 3 RX12 none (fun _ => True) (QV E post 0 0) 0 0 2 [(0, .ref a0), (1, .ref a1), (2, .int x2)] [] st := by
  intro n9
  induction n9 with
  | zero => intro x2 st h; exact h.elim
  | succ n9 ih =>
    intro x2 st h
    unfold P_X12_copyTo_2 at h
    refine J_iload_n 2 dX12_copyTo_2 rfl rfl ?_
    refine J_aload_n 0 dX12_copyTo_3 rfl rfl ?_
    obtain ⟨hf, h⟩ := h
    refine J_alenI dX12_copyTo_4 hf ?_
    refine J_icmp_ge 20 dX12_copyTo_5 (by decide) (fun hc => ?_) (fun hc => ?_)
    · have h := h.1 hc
      exact J_retv rfl dX12_copyTo_20 h
    · have h := h.2 hc
      refine J_aload_n 0 dX12_copyTo_8 rfl rfl ?_
      refine J_iload_n 2 dX12_copyTo_9 rfl rfl ?_
      refine J_aload_n 1 dX12_copyTo_10 rfl rfl ?_
      refine J_iload_n 2 dX12_copyTo_11 rfl rfl ?_
      obtain ⟨hi, h⟩ := h
      refine J_iald dX12_copyTo_12 hi ?_
      obtain ⟨hi, h⟩ := h
      refine J_iast dX12_copyTo_13 hi ?_
      refine J_iinc 2 (x2 + 1) _ dX12_copyTo_14 rfl (by rfl) (by decide) rfl ?_
      refine J_goto 2 dX12_copyTo_17 (by decide) ?_
      exact J_lv [1, 2, 0] rfl (ih (x2 + 1) (sA st a0 (x2 : Int32).toNatClampNeg (gA st a1 (x2 : Int32).toNatClampNeg)) h)
set_option maxRecDepth 100000 in
set_option maxHeartbeats 4000000 in
theorem ct_X12_copyTo {l : Launch} {E : En}  {a0 : Nat} {a1 : Nat} {st : St} {post : St → Prop} (h : P_X12_copyTo  a0 a1 st post) : CtV l E (CFc E) 1 0 0 yX12_copyTo cX12_copyTo 3 none [.ref a0, .ref a1] st post := by
  refine ctV_of (by decide) (Nat.le_of_ble_eq_true rfl) ?_
  show Jg l E (CFc E) (Rm 1 0 0) cX12_copyTo 3 RX12 none (fun _ => True) (QV E post 0 0) 0 0 0 [(0, .ref a0), (1, .ref a1)] [] st
  unfold P_X12_copyTo at h
  refine J_iconst 0 dX12_copyTo_0 (by decide) ?_
  refine J_istore_n _ dX12_copyTo_1 rfl (by decide) rfl ?_
  obtain ⟨n8, h⟩ := h
  exact J_lv [1, 2, 0] rfl (K_X12_copyTo_2   a0 a1  n8 0 st h)
/-! X12_image -/
def P_X12_image_92  (a0 : Nat)  (post : St → Prop) : Nat → Int32 → St → Prop
  | 0, _, _ => False
  | n9 + 1, x1, st => ((8 ≤ x1 → ∃ r_1, rv st a0 12 67 = some r_1 ∧ ∃ r_2, rv st a0 12 14 = some r_2 ∧ P_X12_copyTo  r_1 r_2 st (fun st_4 => post st_4)) ∧ (¬ 8 ≤ x1 → ∃ r_5, rv st a0 12 68 = some r_5 ∧ ∃ r_6, rv st a0 12 51 = some r_6 ∧ vp_in x1 (al 1 r_6) ∧ vp_in x1 (al 1 r_5) ∧ ((gA st r_6 (x1 : Int32).toNatClampNeg) = 0 ∨ (gA st r_6 (x1 : Int32).toNatClampNeg) = 1) ∧ P_X12_image_92  a0  post n9 (x1 + 1) (sA st r_5 (x1 : Int32).toNatClampNeg (gA st r_6 (x1 : Int32).toNatClampNeg))))
def P_X12_image  (a0 : Nat) (st : St) (post : St → Prop) : Prop := fk a0 12 4 = some 0 ∧ fk a0 12 58 = some 0 ∧ fk a0 12 38 = some 0 ∧ fk a0 12 59 = some 0 ∧ fk a0 12 39 = some 0 ∧ fk a0 12 60 = some 0 ∧ ∃ r_1, rv (sI (sI (sI (sI st a0 4 0) a0 58 1) a0 59 (gI (sI (sI st a0 4 0) a0 58 1) a0 38)) a0 60 (gI (sI (sI (sI st a0 4 0) a0 58 1) a0 59 (gI (sI (sI st a0 4 0) a0 58 1) a0 38)) a0 39)) a0 12 61 = some r_1 ∧ oC a0 12 ∧ P_X12_pack  a0 r_1 0 (sI (sI (sI (sI st a0 4 0) a0 58 1) a0 59 (gI (sI (sI st a0 4 0) a0 58 1) a0 38)) a0 60 (gI (sI (sI (sI st a0 4 0) a0 58 1) a0 59 (gI (sI (sI st a0 4 0) a0 58 1) a0 38)) a0 39)) (fun st_3 => ∃ r_4, rv st_3 a0 12 62 = some r_4 ∧ ∃ r_5, rv st_3 a0 12 35 = some r_5 ∧ P_X12_copyTo  r_4 r_5 st_3 (fun st_7 => ∃ r_8, rv st_7 a0 12 63 = some r_8 ∧ ∃ r_9, rv st_7 a0 12 46 = some r_9 ∧ P_X12_copyTo  r_8 r_9 st_7 (fun st_11 => ∃ r_12, rv st_11 a0 12 64 = some r_12 ∧ ∃ r_13, rv st_11 a0 12 47 = some r_13 ∧ P_X12_copyTo  r_12 r_13 st_11 (fun st_15 => ∃ r_16, rv st_15 a0 12 65 = some r_16 ∧ ∃ r_17, rv st_15 a0 12 48 = some r_17 ∧ P_X12_copyTo  r_16 r_17 st_15 (fun st_19 => ∃ r_20, rv st_19 a0 12 66 = some r_20 ∧ ∃ r_21, rv st_19 a0 12 49 = some r_21 ∧ P_X12_copyTo  r_20 r_21 st_19 (fun st_23 => ∃ n8, P_X12_image_92  a0  post n8 0 st_23))))))
set_option maxRecDepth 100000 in
set_option maxHeartbeats 4000000 in
theorem K_X12_image_92 {l : Launch} {E : En}   (a0 : Nat)  {post : St → Prop}   : ∀ (n9 : Nat) (x1 : Int32) (st : St), P_X12_image_92  a0  post n9 x1 st → Jg l E (CFc E) (Rm 2 0 0) cX12_image 2 RX12 none (fun _ => True) (QV E post 0 0) 0 0 92 [(0, .ref a0), (1, .int x1)] [] st := by
  intro n9
  induction n9 with
  | zero => intro x1 st h; exact h.elim
  | succ n9 ih =>
    intro x1 st h
    unfold P_X12_image_92 at h
    refine J_iload_n 1 dX12_image_92 rfl rfl ?_
    refine J_bipush 8 dX12_image_93 (by decide) ?_
    refine J_icmp_ge 116 dX12_image_95 (by decide) (fun hc => ?_) (fun hc => ?_)
    · have h := h.1 hc
      refine J_aload_n 0 dX12_image_116 rfl rfl ?_
      obtain ⟨r_1, hf, h⟩ := h
      refine J_getR fl_RX12_178 dX12_image_117 hf ?_
      refine J_aload_n 0 dX12_image_120 rfl rfl ?_
      obtain ⟨r_2, hf, h⟩ := h
      refine J_getR fl_RX12_75 dX12_image_121 hf ?_
      refine J_csv (As := [_, _]) md_X12_copyTo k_1296 rfl rfl ⟨Nat.le_of_ble_eq_true rfl, Nat.le_of_ble_eq_true rfl⟩ ⟨Nat.le_of_ble_eq_true rfl, Nat.le_of_ble_eq_true rfl⟩ (Nat.le_of_ble_eq_true rfl) dX12_image_124 (ct_X12_copyTo  h) (fun st_4 h => ?_)
      exact J_retv rfl dX12_image_127 h
    · have h := h.2 hc
      refine J_aload_n 0 dX12_image_98 rfl rfl ?_
      obtain ⟨r_5, hf, h⟩ := h
      refine J_getR fl_RX12_181 dX12_image_99 hf ?_
      refine J_iload_n 1 dX12_image_102 rfl rfl ?_
      refine J_aload_n 0 dX12_image_103 rfl rfl ?_
      obtain ⟨r_6, hf, h⟩ := h
      refine J_getR fl_RX12_144 dX12_image_104 hf ?_
      refine J_iload_n 1 dX12_image_107 rfl rfl ?_
      obtain ⟨hi, h⟩ := h
      refine J_zald dX12_image_108 hi ?_
      obtain ⟨hi, h⟩ := h
      obtain ⟨hb, h⟩ := h
      refine J_zast dX12_image_109 hi hb ?_
      refine J_iinc 1 (x1 + 1) _ dX12_image_110 rfl (by rfl) (by decide) rfl ?_
      refine J_goto 92 dX12_image_113 (by decide) ?_
      exact J_lv [1, 0] rfl (ih (x1 + 1) (sA st r_5 (x1 : Int32).toNatClampNeg (gA st r_6 (x1 : Int32).toNatClampNeg)) h)
set_option maxRecDepth 100000 in
set_option maxHeartbeats 4000000 in
theorem ct_X12_image {l : Launch} {E : En}  {a0 : Nat} {st : St} {post : St → Prop} (h : P_X12_image  a0 st post) : CtV l E (CFc E) 2 0 0 yX12_image cX12_image 2 none [.ref a0] st post := by
  refine ctV_of (by decide) (Nat.le_of_ble_eq_true rfl) ?_
  show Jg l E (CFc E) (Rm 2 0 0) cX12_image 2 RX12 none (fun _ => True) (QV E post 0 0) 0 0 0 [(0, .ref a0)] [] st
  unfold P_X12_image at h
  refine J_aload_n 0 dX12_image_0 rfl rfl ?_
  refine J_iconst 0 dX12_image_1 (by decide) ?_
  obtain ⟨hf, h⟩ := h
  refine J_putI fp_RX12_184 dX12_image_2 rfl hf ?_
  refine J_aload_n 0 dX12_image_5 rfl rfl ?_
  refine J_iconst 1 dX12_image_6 (by decide) ?_
  obtain ⟨hf, h⟩ := h
  refine J_putZ fp_RX12_353 dX12_image_7 rfl (Or.inr rfl) hf ?_
  refine J_aload_n 0 dX12_image_10 rfl rfl ?_
  refine J_aload_n 0 dX12_image_11 rfl rfl ?_
  obtain ⟨hf, h⟩ := h
  refine J_getI fl_RX12_347 dX12_image_12 hf ?_
  obtain ⟨hf, h⟩ := h
  refine J_putI fp_RX12_501 dX12_image_15 rfl hf ?_
  refine J_aload_n 0 dX12_image_18 rfl rfl ?_
  refine J_aload_n 0 dX12_image_19 rfl rfl ?_
  obtain ⟨hf, h⟩ := h
  refine J_getI fl_RX12_350 dX12_image_20 hf ?_
  obtain ⟨hf, h⟩ := h
  refine J_putI fp_RX12_504 dX12_image_23 rfl hf ?_
  refine J_aload_n 0 dX12_image_26 rfl rfl ?_
  refine J_aload_n 0 dX12_image_27 rfl rfl ?_
  obtain ⟨r_1, hf, h⟩ := h
  refine J_getR fl_RX12_160 dX12_image_28 hf ?_
  refine J_iconst 0 dX12_image_31 (by decide) ?_
  obtain ⟨ho, h⟩ := h
  refine J_cvv (As := [_, _]) md_X12_pack k_1178 (rc_obj cl_12 ho) rfl rfl ⟨Nat.le_of_ble_eq_true rfl, Nat.le_of_ble_eq_true rfl⟩ ⟨Nat.le_of_ble_eq_true rfl, Nat.le_of_ble_eq_true rfl⟩ (Nat.le_of_ble_eq_true rfl) dX12_image_32 (ct_X12_pack  h) (fun st_3 h => ?_)
  refine J_aload_n 0 dX12_image_35 rfl rfl ?_
  obtain ⟨r_4, hf, h⟩ := h
  refine J_getR fl_RX12_163 dX12_image_36 hf ?_
  refine J_aload_n 0 dX12_image_39 rfl rfl ?_
  obtain ⟨r_5, hf, h⟩ := h
  refine J_getR fl_RX12_108 dX12_image_40 hf ?_
  refine J_csv (As := [_, _]) md_X12_copyTo k_1296 rfl rfl ⟨Nat.le_of_ble_eq_true rfl, Nat.le_of_ble_eq_true rfl⟩ ⟨Nat.le_of_ble_eq_true rfl, Nat.le_of_ble_eq_true rfl⟩ (Nat.le_of_ble_eq_true rfl) dX12_image_43 (ct_X12_copyTo  h) (fun st_7 h => ?_)
  refine J_aload_n 0 dX12_image_46 rfl rfl ?_
  obtain ⟨r_8, hf, h⟩ := h
  refine J_getR fl_RX12_166 dX12_image_47 hf ?_
  refine J_aload_n 0 dX12_image_50 rfl rfl ?_
  obtain ⟨r_9, hf, h⟩ := h
  refine J_getR fl_RX12_129 dX12_image_51 hf ?_
  refine J_csv (As := [_, _]) md_X12_copyTo k_1296 rfl rfl ⟨Nat.le_of_ble_eq_true rfl, Nat.le_of_ble_eq_true rfl⟩ ⟨Nat.le_of_ble_eq_true rfl, Nat.le_of_ble_eq_true rfl⟩ (Nat.le_of_ble_eq_true rfl) dX12_image_54 (ct_X12_copyTo  h) (fun st_11 h => ?_)
  refine J_aload_n 0 dX12_image_57 rfl rfl ?_
  obtain ⟨r_12, hf, h⟩ := h
  refine J_getR fl_RX12_169 dX12_image_58 hf ?_
  refine J_aload_n 0 dX12_image_61 rfl rfl ?_
  obtain ⟨r_13, hf, h⟩ := h
  refine J_getR fl_RX12_132 dX12_image_62 hf ?_
  refine J_csv (As := [_, _]) md_X12_copyTo k_1296 rfl rfl ⟨Nat.le_of_ble_eq_true rfl, Nat.le_of_ble_eq_true rfl⟩ ⟨Nat.le_of_ble_eq_true rfl, Nat.le_of_ble_eq_true rfl⟩ (Nat.le_of_ble_eq_true rfl) dX12_image_65 (ct_X12_copyTo  h) (fun st_15 h => ?_)
  refine J_aload_n 0 dX12_image_68 rfl rfl ?_
  obtain ⟨r_16, hf, h⟩ := h
  refine J_getR fl_RX12_172 dX12_image_69 hf ?_
  refine J_aload_n 0 dX12_image_72 rfl rfl ?_
  obtain ⟨r_17, hf, h⟩ := h
  refine J_getR fl_RX12_135 dX12_image_73 hf ?_
  refine J_csv (As := [_, _]) md_X12_copyTo k_1296 rfl rfl ⟨Nat.le_of_ble_eq_true rfl, Nat.le_of_ble_eq_true rfl⟩ ⟨Nat.le_of_ble_eq_true rfl, Nat.le_of_ble_eq_true rfl⟩ (Nat.le_of_ble_eq_true rfl) dX12_image_76 (ct_X12_copyTo  h) (fun st_19 h => ?_)
  refine J_aload_n 0 dX12_image_79 rfl rfl ?_
  obtain ⟨r_20, hf, h⟩ := h
  refine J_getR fl_RX12_175 dX12_image_80 hf ?_
  refine J_aload_n 0 dX12_image_83 rfl rfl ?_
  obtain ⟨r_21, hf, h⟩ := h
  refine J_getR fl_RX12_138 dX12_image_84 hf ?_
  refine J_csv (As := [_, _]) md_X12_copyTo k_1296 rfl rfl ⟨Nat.le_of_ble_eq_true rfl, Nat.le_of_ble_eq_true rfl⟩ ⟨Nat.le_of_ble_eq_true rfl, Nat.le_of_ble_eq_true rfl⟩ (Nat.le_of_ble_eq_true rfl) dX12_image_87 (ct_X12_copyTo  h) (fun st_23 h => ?_)
  refine J_iconst 0 dX12_image_90 (by decide) ?_
  refine J_istore_n _ dX12_image_91 rfl (by decide) rfl ?_
  obtain ⟨n8, h⟩ := h
  exact J_lv [1, 0] rfl (K_X12_image_92   a0  n8 0 st_23 h)
/-! X12_restore -/
def P_X12_restore_96  (a0 : Nat)  (post : Int32 → St → Prop) : Nat → Int32 → St → Prop
  | 0, _, _ => False
  | n9 + 1, x1, st => ((8 ≤ x1 → ∃ r_1, rv st a0 12 14 = some r_1 ∧ ∃ r_2, rv st a0 12 67 = some r_2 ∧ P_X12_copyTo  r_1 r_2 st (fun st_4 => post 1 st_4)) ∧ (¬ 8 ≤ x1 → ∃ r_5, rv st a0 12 51 = some r_5 ∧ ∃ r_6, rv st a0 12 68 = some r_6 ∧ vp_in x1 (al 1 r_6) ∧ vp_in x1 (al 1 r_5) ∧ ((gA st r_6 (x1 : Int32).toNatClampNeg) = 0 ∨ (gA st r_6 (x1 : Int32).toNatClampNeg) = 1) ∧ P_X12_restore_96  a0  post n9 (x1 + 1) (sA st r_5 (x1 : Int32).toNatClampNeg (gA st r_6 (x1 : Int32).toNatClampNeg))))
def P_X12_restore  (a0 : Nat) (st : St) (post : Int32 → St → Prop) : Prop := fk a0 12 4 = some 0 ∧ fk a0 12 58 = some 0 ∧ ((¬ (gI (sI st a0 4 0) a0 58) = 0 → fk a0 12 59 = some 0 ∧ fk a0 12 38 = some 0 ∧ fk a0 12 60 = some 0 ∧ fk a0 12 39 = some 0 ∧ ∃ r_1, rv (sI (sI (sI st a0 4 0) a0 38 (gI (sI st a0 4 0) a0 59)) a0 39 (gI (sI (sI st a0 4 0) a0 38 (gI (sI st a0 4 0) a0 59)) a0 60)) a0 12 61 = some r_1 ∧ oC a0 12 ∧ P_X12_unpack  a0 r_1 0 (sI (sI (sI st a0 4 0) a0 38 (gI (sI st a0 4 0) a0 59)) a0 39 (gI (sI (sI st a0 4 0) a0 38 (gI (sI st a0 4 0) a0 59)) a0 60)) (fun st_3 => ∃ r_4, rv st_3 a0 12 35 = some r_4 ∧ ∃ r_5, rv st_3 a0 12 62 = some r_5 ∧ P_X12_copyTo  r_4 r_5 st_3 (fun st_7 => ∃ r_8, rv st_7 a0 12 46 = some r_8 ∧ ∃ r_9, rv st_7 a0 12 63 = some r_9 ∧ P_X12_copyTo  r_8 r_9 st_7 (fun st_11 => ∃ r_12, rv st_11 a0 12 47 = some r_12 ∧ ∃ r_13, rv st_11 a0 12 64 = some r_13 ∧ P_X12_copyTo  r_12 r_13 st_11 (fun st_15 => ∃ r_16, rv st_15 a0 12 48 = some r_16 ∧ ∃ r_17, rv st_15 a0 12 65 = some r_17 ∧ P_X12_copyTo  r_16 r_17 st_15 (fun st_19 => ∃ r_20, rv st_19 a0 12 49 = some r_20 ∧ ∃ r_21, rv st_19 a0 12 66 = some r_21 ∧ P_X12_copyTo  r_20 r_21 st_19 (fun st_23 => ∃ n8, P_X12_restore_96  a0  post n8 0 st_23))))))) ∧ ((gI (sI st a0 4 0) a0 58) = 0 → post 0 (sI st a0 4 0)))
set_option maxRecDepth 100000 in
set_option maxHeartbeats 4000000 in
theorem K_X12_restore_96 {l : Launch} {E : En}   (a0 : Nat)  {post : Int32 → St → Prop}   : ∀ (n9 : Nat) (x1 : Int32) (st : St), P_X12_restore_96  a0  post n9 x1 st → Jg l E (CFc E) (Rm 2 0 0) cX12_restore 2 RX12 (some .boolean) (fun _ => True) (QI E post 0 0) 0 0 96 [(0, .ref a0), (1, .int x1)] [] st := by
  intro n9
  induction n9 with
  | zero => intro x1 st h; exact h.elim
  | succ n9 ih =>
    intro x1 st h
    unfold P_X12_restore_96 at h
    refine J_iload_n 1 dX12_restore_96 rfl rfl ?_
    refine J_bipush 8 dX12_restore_97 (by decide) ?_
    refine J_icmp_ge 120 dX12_restore_99 (by decide) (fun hc => ?_) (fun hc => ?_)
    · have h := h.1 hc
      refine J_aload_n 0 dX12_restore_120 rfl rfl ?_
      obtain ⟨r_1, hf, h⟩ := h
      refine J_getR fl_RX12_75 dX12_restore_121 hf ?_
      refine J_aload_n 0 dX12_restore_124 rfl rfl ?_
      obtain ⟨r_2, hf, h⟩ := h
      refine J_getR fl_RX12_178 dX12_restore_125 hf ?_
      refine J_csv (As := [_, _]) md_X12_copyTo k_1296 rfl rfl ⟨Nat.le_of_ble_eq_true rfl, Nat.le_of_ble_eq_true rfl⟩ ⟨Nat.le_of_ble_eq_true rfl, Nat.le_of_ble_eq_true rfl⟩ (Nat.le_of_ble_eq_true rfl) dX12_restore_128 (ct_X12_copyTo  h) (fun st_4 h => ?_)
      refine J_iconst 1 dX12_restore_131 (by decide) ?_
      exact J_retz rfl (Or.inr rfl) dX12_restore_132 h
    · have h := h.2 hc
      refine J_aload_n 0 dX12_restore_102 rfl rfl ?_
      obtain ⟨r_5, hf, h⟩ := h
      refine J_getR fl_RX12_144 dX12_restore_103 hf ?_
      refine J_iload_n 1 dX12_restore_106 rfl rfl ?_
      refine J_aload_n 0 dX12_restore_107 rfl rfl ?_
      obtain ⟨r_6, hf, h⟩ := h
      refine J_getR fl_RX12_181 dX12_restore_108 hf ?_
      refine J_iload_n 1 dX12_restore_111 rfl rfl ?_
      obtain ⟨hi, h⟩ := h
      refine J_zald dX12_restore_112 hi ?_
      obtain ⟨hi, h⟩ := h
      obtain ⟨hb, h⟩ := h
      refine J_zast dX12_restore_113 hi hb ?_
      refine J_iinc 1 (x1 + 1) _ dX12_restore_114 rfl (by rfl) (by decide) rfl ?_
      refine J_goto 96 dX12_restore_117 (by decide) ?_
      exact J_lv [1, 0] rfl (ih (x1 + 1) (sA st r_5 (x1 : Int32).toNatClampNeg (gA st r_6 (x1 : Int32).toNatClampNeg)) h)
set_option maxRecDepth 100000 in
set_option maxHeartbeats 4000000 in
theorem ct_X12_restore {l : Launch} {E : En}  {a0 : Nat} {st : St} {post : Int32 → St → Prop} (h : P_X12_restore  a0 st post) : CtI l E (CFc E) 2 0 0 yX12_restore cX12_restore 2 (some .boolean) [.ref a0] st post := by
  refine ctI_of (by decide) (Nat.le_of_ble_eq_true rfl) ?_
  show Jg l E (CFc E) (Rm 2 0 0) cX12_restore 2 RX12 (some .boolean) (fun _ => True) (QI E post 0 0) 0 0 0 [(0, .ref a0)] [] st
  unfold P_X12_restore at h
  refine J_aload_n 0 dX12_restore_0 rfl rfl ?_
  refine J_iconst 0 dX12_restore_1 (by decide) ?_
  obtain ⟨hf, h⟩ := h
  refine J_putI fp_RX12_184 dX12_restore_2 rfl hf ?_
  refine J_aload_n 0 dX12_restore_5 rfl rfl ?_
  obtain ⟨hf, h⟩ := h
  refine J_getI fl_RX12_353 dX12_restore_6 hf ?_
  refine J_if_ne 14 dX12_restore_9 (by decide) (fun hc => ?_) (fun hc => ?_)
  · have h := h.1 hc
    refine J_aload_n 0 dX12_restore_14 rfl rfl ?_
    refine J_aload_n 0 dX12_restore_15 rfl rfl ?_
    obtain ⟨hf, h⟩ := h
    refine J_getI fl_RX12_501 dX12_restore_16 hf ?_
    obtain ⟨hf, h⟩ := h
    refine J_putI fp_RX12_347 dX12_restore_19 rfl hf ?_
    refine J_aload_n 0 dX12_restore_22 rfl rfl ?_
    refine J_aload_n 0 dX12_restore_23 rfl rfl ?_
    obtain ⟨hf, h⟩ := h
    refine J_getI fl_RX12_504 dX12_restore_24 hf ?_
    obtain ⟨hf, h⟩ := h
    refine J_putI fp_RX12_350 dX12_restore_27 rfl hf ?_
    refine J_aload_n 0 dX12_restore_30 rfl rfl ?_
    refine J_aload_n 0 dX12_restore_31 rfl rfl ?_
    obtain ⟨r_1, hf, h⟩ := h
    refine J_getR fl_RX12_160 dX12_restore_32 hf ?_
    refine J_iconst 0 dX12_restore_35 (by decide) ?_
    obtain ⟨ho, h⟩ := h
    refine J_cvv (As := [_, _]) md_X12_unpack k_1200 (rc_obj cl_12 ho) rfl rfl ⟨Nat.le_of_ble_eq_true rfl, Nat.le_of_ble_eq_true rfl⟩ ⟨Nat.le_of_ble_eq_true rfl, Nat.le_of_ble_eq_true rfl⟩ (Nat.le_of_ble_eq_true rfl) dX12_restore_36 (ct_X12_unpack  h) (fun st_3 h => ?_)
    refine J_aload_n 0 dX12_restore_39 rfl rfl ?_
    obtain ⟨r_4, hf, h⟩ := h
    refine J_getR fl_RX12_108 dX12_restore_40 hf ?_
    refine J_aload_n 0 dX12_restore_43 rfl rfl ?_
    obtain ⟨r_5, hf, h⟩ := h
    refine J_getR fl_RX12_163 dX12_restore_44 hf ?_
    refine J_csv (As := [_, _]) md_X12_copyTo k_1296 rfl rfl ⟨Nat.le_of_ble_eq_true rfl, Nat.le_of_ble_eq_true rfl⟩ ⟨Nat.le_of_ble_eq_true rfl, Nat.le_of_ble_eq_true rfl⟩ (Nat.le_of_ble_eq_true rfl) dX12_restore_47 (ct_X12_copyTo  h) (fun st_7 h => ?_)
    refine J_aload_n 0 dX12_restore_50 rfl rfl ?_
    obtain ⟨r_8, hf, h⟩ := h
    refine J_getR fl_RX12_129 dX12_restore_51 hf ?_
    refine J_aload_n 0 dX12_restore_54 rfl rfl ?_
    obtain ⟨r_9, hf, h⟩ := h
    refine J_getR fl_RX12_166 dX12_restore_55 hf ?_
    refine J_csv (As := [_, _]) md_X12_copyTo k_1296 rfl rfl ⟨Nat.le_of_ble_eq_true rfl, Nat.le_of_ble_eq_true rfl⟩ ⟨Nat.le_of_ble_eq_true rfl, Nat.le_of_ble_eq_true rfl⟩ (Nat.le_of_ble_eq_true rfl) dX12_restore_58 (ct_X12_copyTo  h) (fun st_11 h => ?_)
    refine J_aload_n 0 dX12_restore_61 rfl rfl ?_
    obtain ⟨r_12, hf, h⟩ := h
    refine J_getR fl_RX12_132 dX12_restore_62 hf ?_
    refine J_aload_n 0 dX12_restore_65 rfl rfl ?_
    obtain ⟨r_13, hf, h⟩ := h
    refine J_getR fl_RX12_169 dX12_restore_66 hf ?_
    refine J_csv (As := [_, _]) md_X12_copyTo k_1296 rfl rfl ⟨Nat.le_of_ble_eq_true rfl, Nat.le_of_ble_eq_true rfl⟩ ⟨Nat.le_of_ble_eq_true rfl, Nat.le_of_ble_eq_true rfl⟩ (Nat.le_of_ble_eq_true rfl) dX12_restore_69 (ct_X12_copyTo  h) (fun st_15 h => ?_)
    refine J_aload_n 0 dX12_restore_72 rfl rfl ?_
    obtain ⟨r_16, hf, h⟩ := h
    refine J_getR fl_RX12_135 dX12_restore_73 hf ?_
    refine J_aload_n 0 dX12_restore_76 rfl rfl ?_
    obtain ⟨r_17, hf, h⟩ := h
    refine J_getR fl_RX12_172 dX12_restore_77 hf ?_
    refine J_csv (As := [_, _]) md_X12_copyTo k_1296 rfl rfl ⟨Nat.le_of_ble_eq_true rfl, Nat.le_of_ble_eq_true rfl⟩ ⟨Nat.le_of_ble_eq_true rfl, Nat.le_of_ble_eq_true rfl⟩ (Nat.le_of_ble_eq_true rfl) dX12_restore_80 (ct_X12_copyTo  h) (fun st_19 h => ?_)
    refine J_aload_n 0 dX12_restore_83 rfl rfl ?_
    obtain ⟨r_20, hf, h⟩ := h
    refine J_getR fl_RX12_138 dX12_restore_84 hf ?_
    refine J_aload_n 0 dX12_restore_87 rfl rfl ?_
    obtain ⟨r_21, hf, h⟩ := h
    refine J_getR fl_RX12_175 dX12_restore_88 hf ?_
    refine J_csv (As := [_, _]) md_X12_copyTo k_1296 rfl rfl ⟨Nat.le_of_ble_eq_true rfl, Nat.le_of_ble_eq_true rfl⟩ ⟨Nat.le_of_ble_eq_true rfl, Nat.le_of_ble_eq_true rfl⟩ (Nat.le_of_ble_eq_true rfl) dX12_restore_91 (ct_X12_copyTo  h) (fun st_23 h => ?_)
    refine J_iconst 0 dX12_restore_94 (by decide) ?_
    refine J_istore_n _ dX12_restore_95 rfl (by decide) rfl ?_
    obtain ⟨n8, h⟩ := h
    exact J_lv [1, 0] rfl (K_X12_restore_96   a0  n8 0 st_23 h)
  · have h := h.2 hc
    refine J_iconst 0 dX12_restore_12 (by decide) ?_
    exact J_retz rfl (Or.inl rfl) dX12_restore_13 h
/-! X12_is -/
def P_X12_is_82  (a0 : Nat) (a1 : Nat)  (post : Int32 → St → Prop) (x2 : Int32) (st : St) : Prop := (x2 = 0 ∨ x2 = 1) ∧ post x2 st
def P_X12_is_75  (a0 : Nat) (a1 : Nat) (k39 : Int32 → Int32 → St → Prop) (post : Int32 → St → Prop) (x3 : Int32) (s0 : Int32) (st : St) : Prop := k39 s0 (x3 + 1) st
def P_X12_is_39  (a0 : Nat) (a1 : Nat)  (post : Int32 → St → Prop) : Nat → Int32 → Int32 → St → Prop
  | 0, _, _, _ => False
  | n9 + 1, x2, x3, st => ((x2 = 0 → P_X12_is_82  a0 a1  post x2 st) ∧ (¬ x2 = 0 → kOk a1 ∧ P_J0_length_8abf5  a1 st (fun z_1 st_2 => ((z_1 ≤ x3 → P_X12_is_82  a0 a1  post x2 st_2) ∧ (¬ z_1 ≤ x3 → kOk a1 ∧ P_J0_charAt_5068e  a1 x3 st_2 (fun z_3 st_4 => ∃ r_5, rv st_4 a0 12 15 = some r_5 ∧ fk a0 12 21 = some 0 ∧ vp_in ((gI st_4 a0 21) + x3) (al 0 r_5) ∧ ((¬ z_3 = (gA st_4 r_5 ((gI st_4 a0 21) + x3 : Int32).toNatClampNeg) → P_X12_is_75  a0 a1 (fun x2 x3 st => P_X12_is_39  a0 a1  post n9 x2 x3 st) post x3 0 st_4) ∧ (z_3 = (gA st_4 r_5 ((gI st_4 a0 21) + x3 : Int32).toNatClampNeg) → P_X12_is_75  a0 a1 (fun x2 x3 st => P_X12_is_39  a0 a1  post n9 x2 x3 st) post x3 1 st_4))))))))
def P_X12_is_36  (a0 : Nat) (a1 : Nat)  (post : Int32 → St → Prop) (s0 : Int32) (st : St) : Prop := ∃ n8, P_X12_is_39  a0 a1  post n8 s0 0 st
def P_X12_is_35  (a0 : Nat) (a1 : Nat)  (post : Int32 → St → Prop)  (st : St) : Prop := P_X12_is_36  a0 a1  post 0 st
def P_X12_is  (a0 : Nat) (a1 : Nat) (st : St) (post : Int32 → St → Prop) : Prop := fk a0 12 23 = some 0 ∧ ((¬ (gI st a0 23) = 0 → P_X12_is_35  a0 a1  post st) ∧ ((gI st a0 23) = 0 → fk a0 12 19 = some 0 ∧ ((¬ (gI st a0 19) = 1 → P_X12_is_35  a0 a1  post st) ∧ ((gI st a0 19) = 1 → kOk a1 ∧ P_J0_length_8abf5  a1 st (fun z_1 st_2 => fk a0 12 22 = some 0 ∧ fk a0 12 21 = some 0 ∧ ((¬ z_1 = ((gI st_2 a0 22) - (gI st_2 a0 21)) → P_X12_is_35  a0 a1  post st_2) ∧ (z_1 = ((gI st_2 a0 22) - (gI st_2 a0 21)) → P_X12_is_36  a0 a1  post 1 st_2)))))))
set_option maxRecDepth 100000 in
set_option maxHeartbeats 4000000 in
theorem K_X12_is_82 {l : Launch} {E : En}   (a0 : Nat) (a1 : Nat)  {post : Int32 → St → Prop}   (x2 : Int32) (st : St) (h : P_X12_is_82  a0 a1  post x2 st) : Jg l E (CFc E) (Rm 5 0 0) cX12_is 4 RX12 (some .boolean) (fun _ => True) (QI E post 0 0) 0 0 82 [(0, .ref a0), (1, .ref a1), (2, .int x2)] [] st := by
  unfold P_X12_is_82 at h
  refine J_iload_n 2 dX12_is_82 rfl rfl ?_
  exact J_retz rfl h.1 dX12_is_83 h.2
set_option maxRecDepth 100000 in
set_option maxHeartbeats 4000000 in
theorem K_X12_is_75 {l : Launch} {E : En}   (a0 : Nat) (a1 : Nat) {k39 : Int32 → Int32 → St → Prop} {post : Int32 → St → Prop}  (hk39 : ∀ (x2 : Int32) (x3 : Int32) (st : St), k39 x2 x3 st → Jg l E (CFc E) (Rm 5 0 0) cX12_is 4 RX12 (some .boolean) (fun _ => True) (QI E post 0 0) 0 0 39 [(0, .ref a0), (1, .ref a1), (2, .int x2), (3, .int x3)] [] st) (x3 : Int32) (s0 : Int32) (st : St) (h : P_X12_is_75  a0 a1 k39 post x3 s0 st) : Jg l E (CFc E) (Rm 5 0 0) cX12_is 4 RX12 (some .boolean) (fun _ => True) (QI E post 0 0) 0 0 75 [(0, .ref a0), (1, .ref a1), (3, .int x3)] [.int s0] st := by
  unfold P_X12_is_75 at h
  refine J_istore_n _ dX12_is_75 rfl (by decide) rfl ?_
  refine J_iinc 3 (x3 + 1) _ dX12_is_76 rfl (by rfl) (by decide) rfl ?_
  refine J_goto 39 dX12_is_79 (by decide) ?_
  exact J_lv [2, 3, 1, 0] rfl (hk39 s0 (x3 + 1) st h)
set_option maxRecDepth 100000 in
set_option maxHeartbeats 4000000 in
theorem K_X12_is_39 {l : Launch} {E : En}   (a0 : Nat) (a1 : Nat)  {post : Int32 → St → Prop}   : ∀ (n9 : Nat) (x2 : Int32) (x3 : Int32) (st : St), P_X12_is_39  a0 a1  post n9 x2 x3 st → Jg l E (CFc E) (Rm 5 0 0) cX12_is 4 RX12 (some .boolean) (fun _ => True) (QI E post 0 0) 0 0 39 [(0, .ref a0), (1, .ref a1), (2, .int x2), (3, .int x3)] [] st := by
  intro n9
  induction n9 with
  | zero => intro x2 x3 st h; exact h.elim
  | succ n9 ih =>
    intro x2 x3 st h
    unfold P_X12_is_39 at h
    refine J_iload_n 2 dX12_is_39 rfl rfl ?_
    refine J_if_eq 82 dX12_is_40 (by decide) (fun hc => ?_) (fun hc => ?_)
    · have h := h.1 hc
      exact J_lv [0, 1, 2] rfl (K_X12_is_82   a0 a1  x2 st h)
    · have h := h.2 hc
      refine J_iload_n 3 dX12_is_43 rfl rfl ?_
      refine J_aload_n 1 dX12_is_44 rfl rfl ?_
      obtain ⟨ho, h⟩ := h
      refine J_cvi (As := []) md_J0_length_8abf5 k_1002 (rc_str ho) rfl rfl ⟨Nat.le_of_ble_eq_true rfl, Nat.le_of_ble_eq_true rfl⟩ ⟨Nat.le_of_ble_eq_true rfl, Nat.le_of_ble_eq_true rfl⟩ (Nat.le_of_ble_eq_true rfl) dX12_is_45 (ct_J0_length_8abf5  h) (fun z_1 st_2 h => ?_)
      refine J_icmp_ge 82 dX12_is_48 (by decide) (fun hc => ?_) (fun hc => ?_)
      · have h := h.1 hc
        exact J_lv [0, 1, 2] rfl (K_X12_is_82   a0 a1  x2 st_2 h)
      · have h := h.2 hc
        refine J_aload_n 1 dX12_is_51 rfl rfl ?_
        refine J_iload_n 3 dX12_is_52 rfl rfl ?_
        obtain ⟨ho, h⟩ := h
        refine J_cvi (As := [_]) md_J0_charAt_5068e k_1003 (rc_str ho) rfl rfl ⟨Nat.le_of_ble_eq_true rfl, Nat.le_of_ble_eq_true rfl⟩ ⟨Nat.le_of_ble_eq_true rfl, Nat.le_of_ble_eq_true rfl⟩ (Nat.le_of_ble_eq_true rfl) dX12_is_53 (ct_J0_charAt_5068e  h) (fun z_3 st_4 h => ?_)
        refine J_aload_n 0 dX12_is_56 rfl rfl ?_
        obtain ⟨r_5, hf, h⟩ := h
        refine J_getR fl_RX12_78 dX12_is_57 hf ?_
        refine J_aload_n 0 dX12_is_60 rfl rfl ?_
        obtain ⟨hf, h⟩ := h
        refine J_getI fl_RX12_204 dX12_is_61 hf ?_
        refine J_iload_n 3 dX12_is_64 rfl rfl ?_
        refine J_iadd dX12_is_65 ?_
        obtain ⟨hi, h⟩ := h
        refine J_iald dX12_is_66 hi ?_
        refine J_icmp_ne 74 dX12_is_67 (by decide) (fun hc => ?_) (fun hc => ?_)
        · have h := h.1 hc
          refine J_iconst 0 dX12_is_74 (by decide) ?_
          exact J_lv [0, 1, 3] rfl (K_X12_is_75   a0 a1 (fun x2 x3 st h => ih x2 x3 st h) x3 0 st_4 h)
        · have h := h.2 hc
          refine J_iconst 1 dX12_is_70 (by decide) ?_
          refine J_goto 75 dX12_is_71 (by decide) ?_
          exact J_lv [0, 1, 3] rfl (K_X12_is_75   a0 a1 (fun x2 x3 st h => ih x2 x3 st h) x3 1 st_4 h)
set_option maxRecDepth 100000 in
set_option maxHeartbeats 4000000 in
theorem K_X12_is_36 {l : Launch} {E : En}   (a0 : Nat) (a1 : Nat)  {post : Int32 → St → Prop}   (s0 : Int32) (st : St) (h : P_X12_is_36  a0 a1  post s0 st) : Jg l E (CFc E) (Rm 5 0 0) cX12_is 4 RX12 (some .boolean) (fun _ => True) (QI E post 0 0) 0 0 36 [(0, .ref a0), (1, .ref a1)] [.int s0] st := by
  unfold P_X12_is_36 at h
  refine J_istore_n _ dX12_is_36 rfl (by decide) rfl ?_
  refine J_iconst 0 dX12_is_37 (by decide) ?_
  refine J_istore_n _ dX12_is_38 rfl (by decide) rfl ?_
  obtain ⟨n8, h⟩ := h
  exact J_lv [2, 3, 1, 0] rfl (K_X12_is_39   a0 a1  n8 s0 0 st h)
set_option maxRecDepth 100000 in
set_option maxHeartbeats 4000000 in
theorem K_X12_is_35 {l : Launch} {E : En}   (a0 : Nat) (a1 : Nat)  {post : Int32 → St → Prop}    (st : St) (h : P_X12_is_35  a0 a1  post  st) : Jg l E (CFc E) (Rm 5 0 0) cX12_is 4 RX12 (some .boolean) (fun _ => True) (QI E post 0 0) 0 0 35 [(0, .ref a0), (1, .ref a1)] [] st := by
  unfold P_X12_is_35 at h
  refine J_iconst 0 dX12_is_35 (by decide) ?_
  exact J_lv [0, 1] rfl (K_X12_is_36   a0 a1  0 st h)
set_option maxRecDepth 100000 in
set_option maxHeartbeats 4000000 in
theorem ct_X12_is {l : Launch} {E : En}  {a0 : Nat} {a1 : Nat} {st : St} {post : Int32 → St → Prop} (h : P_X12_is  a0 a1 st post) : CtI l E (CFc E) 5 0 0 yX12_is cX12_is 4 (some .boolean) [.ref a0, .ref a1] st post := by
  refine ctI_of (by decide) (Nat.le_of_ble_eq_true rfl) ?_
  show Jg l E (CFc E) (Rm 5 0 0) cX12_is 4 RX12 (some .boolean) (fun _ => True) (QI E post 0 0) 0 0 0 [(0, .ref a0), (1, .ref a1)] [] st
  unfold P_X12_is at h
  refine J_aload_n 0 dX12_is_0 rfl rfl ?_
  obtain ⟨hf, h⟩ := h
  refine J_getI fl_RX12_233 dX12_is_1 hf ?_
  refine J_if_ne 35 dX12_is_4 (by decide) (fun hc => ?_) (fun hc => ?_)
  · have h := h.1 hc
    exact J_lv [0, 1] rfl (K_X12_is_35   a0 a1  st h)
  · have h := h.2 hc
    refine J_aload_n 0 dX12_is_7 rfl rfl ?_
    obtain ⟨hf, h⟩ := h
    refine J_getI fl_RX12_207 dX12_is_8 hf ?_
    refine J_iconst 1 dX12_is_11 (by decide) ?_
    refine J_icmp_ne 35 dX12_is_12 (by decide) (fun hc => ?_) (fun hc => ?_)
    · have h := h.1 hc
      exact J_lv [0, 1] rfl (K_X12_is_35   a0 a1  st h)
    · have h := h.2 hc
      refine J_aload_n 1 dX12_is_15 rfl rfl ?_
      obtain ⟨ho, h⟩ := h
      refine J_cvi (As := []) md_J0_length_8abf5 k_1002 (rc_str ho) rfl rfl ⟨Nat.le_of_ble_eq_true rfl, Nat.le_of_ble_eq_true rfl⟩ ⟨Nat.le_of_ble_eq_true rfl, Nat.le_of_ble_eq_true rfl⟩ (Nat.le_of_ble_eq_true rfl) dX12_is_16 (ct_J0_length_8abf5  h) (fun z_1 st_2 h => ?_)
      refine J_aload_n 0 dX12_is_19 rfl rfl ?_
      obtain ⟨hf, h⟩ := h
      refine J_getI fl_RX12_230 dX12_is_20 hf ?_
      refine J_aload_n 0 dX12_is_23 rfl rfl ?_
      obtain ⟨hf, h⟩ := h
      refine J_getI fl_RX12_204 dX12_is_24 hf ?_
      refine J_isub dX12_is_27 ?_
      refine J_icmp_ne 35 dX12_is_28 (by decide) (fun hc => ?_) (fun hc => ?_)
      · have h := h.1 hc
        exact J_lv [0, 1] rfl (K_X12_is_35   a0 a1  st_2 h)
      · have h := h.2 hc
        refine J_iconst 1 dX12_is_31 (by decide) ?_
        refine J_goto 36 dX12_is_32 (by decide) ?_
        exact J_lv [0, 1] rfl (K_X12_is_36   a0 a1  1 st_2 h)
/-! X12_which -/
def P_X12_which_2  (a0 : Nat) (a1 : Nat)  (post : Int32 → St → Prop) : Nat → Int32 → St → Prop
  | 0, _, _ => False
  | n9 + 1, x2, st => 0 < al 3 a1 ∧ (((Int32.ofNat (al 3 a1)) ≤ x2 → post (-1) st) ∧ (¬ (Int32.ofNat (al 3 a1)) ≤ x2 → vp_in x2 (al 3 a1) ∧ ∃ r_1, (tbe a1).2.2[(x2 : Int32).toNatClampNeg]? = some r_1 ∧ oC a0 12 ∧ P_X12_is  a0 r_1 st (fun z_2 st_3 => ((z_2 = 0 → P_X12_which_2  a0 a1  post n9 (x2 + 1) st_3) ∧ (¬ z_2 = 0 → post x2 st_3)))))
def P_X12_which  (a0 : Nat) (a1 : Nat) (st : St) (post : Int32 → St → Prop) : Prop := ∃ n8, P_X12_which_2  a0 a1  post n8 0 st
set_option maxRecDepth 100000 in
set_option maxHeartbeats 4000000 in
theorem K_X12_which_2 {l : Launch} {E : En}   (a0 : Nat) (a1 : Nat)  {post : Int32 → St → Prop}   : ∀ (n9 : Nat) (x2 : Int32) (st : St), P_X12_which_2  a0 a1  post n9 x2 st → Jg l E (CFc E) (Rm 6 0 0) cX12_which 3 RX12 (some .int) (fun _ => True) (QI E post 0 0) 0 0 2 [(0, .ref a0), (1, .ref a1), (2, .int x2)] [] st := by
  intro n9
  induction n9 with
  | zero => intro x2 st h; exact h.elim
  | succ n9 ih =>
    intro x2 st h
    unfold P_X12_which_2 at h
    refine J_iload_n 2 dX12_which_2 rfl rfl ?_
    refine J_aload_n 1 dX12_which_3 rfl rfl ?_
    obtain ⟨hf, h⟩ := h
    refine J_alenS dX12_which_4 hf ?_
    refine J_icmp_ge 26 dX12_which_5 (by decide) (fun hc => ?_) (fun hc => ?_)
    · have h := h.1 hc
      refine J_iconst (-1) dX12_which_26 (by decide) ?_
      exact J_reti rfl dX12_which_27 h
    · have h := h.2 hc
      refine J_aload_n 0 dX12_which_8 rfl rfl ?_
      refine J_aload_n 1 dX12_which_9 rfl rfl ?_
      refine J_iload_n 2 dX12_which_10 rfl rfl ?_
      obtain ⟨hi, h⟩ := h
      obtain ⟨r_1, hf, h⟩ := h
      refine J_aald dX12_which_11 hi hf ?_
      obtain ⟨ho, h⟩ := h
      refine J_cvi (As := [_]) md_X12_is k_1005 (rc_obj cl_12 ho) rfl rfl ⟨Nat.le_of_ble_eq_true rfl, Nat.le_of_ble_eq_true rfl⟩ ⟨Nat.le_of_ble_eq_true rfl, Nat.le_of_ble_eq_true rfl⟩ (Nat.le_of_ble_eq_true rfl) dX12_which_12 (ct_X12_is  h) (fun z_2 st_3 h => ?_)
      refine J_if_eq 20 dX12_which_15 (by decide) (fun hc => ?_) (fun hc => ?_)
      · have h := h.1 hc
        refine J_iinc 2 (x2 + 1) _ dX12_which_20 rfl (by rfl) (by decide) rfl ?_
        refine J_goto 2 dX12_which_23 (by decide) ?_
        exact J_lv [1, 2, 0] rfl (ih (x2 + 1) st_3 h)
      · have h := h.2 hc
        refine J_iload_n 2 dX12_which_18 rfl rfl ?_
        exact J_reti rfl dX12_which_19 h
set_option maxRecDepth 100000 in
set_option maxHeartbeats 4000000 in
theorem ct_X12_which {l : Launch} {E : En}  {a0 : Nat} {a1 : Nat} {st : St} {post : Int32 → St → Prop} (h : P_X12_which  a0 a1 st post) : CtI l E (CFc E) 6 0 0 yX12_which cX12_which 3 (some .int) [.ref a0, .ref a1] st post := by
  refine ctI_of (by decide) (Nat.le_of_ble_eq_true rfl) ?_
  show Jg l E (CFc E) (Rm 6 0 0) cX12_which 3 RX12 (some .int) (fun _ => True) (QI E post 0 0) 0 0 0 [(0, .ref a0), (1, .ref a1)] [] st
  unfold P_X12_which at h
  refine J_iconst 0 dX12_which_0 (by decide) ?_
  refine J_istore_n _ dX12_which_1 rfl (by decide) rfl ?_
  obtain ⟨n8, h⟩ := h
  exact J_lv [1, 2, 0] rfl (K_X12_which_2   a0 a1  n8 0 st h)
/-! X12_readPart -/
def P_X12_readPart_74 (rc_X12_readExpression : Nat → Int32 → St → (St → Prop) → Prop) (a0 : Nat) (a1 : Int32)  (post : St → Prop)  (st : St) : Prop := post st
def P_X12_readPart_56 (rc_X12_readExpression : Nat → Int32 → St → (St → Prop) → Prop) (a0 : Nat) (a1 : Int32)  (post : St → Prop) (x2 : Int32) (st : St) : Prop := oC a0 12 ∧ P_X12_lay  a0 ((-1) - x2) st (fun st_2 => fk a0 12 23 = some 0 ∧ ((¬ (gI st_2 a0 23) = 0 → P_X12_readPart_74 rc_X12_readExpression a0 a1  post st_2) ∧ ((gI st_2 a0 23) = 0 → oC a0 12 ∧ P_X12_stepOn  a0 st_2 (fun st_4 => P_X12_readPart_74 rc_X12_readExpression a0 a1  post st_4))))
def P_X12_readPart (rc_X12_readExpression : Nat → Int32 → St → (St → Prop) → Prop) (a0 : Nat) (a1 : Int32) (st : St) (post : St → Prop) : Prop := fk a0 12 23 = some 0 ∧ (((gI st a0 23) = 0 → fk a0 12 19 = some 0 ∧ ((¬ (gI st a0 19) = 2 → fk a0 12 19 = some 0 ∧ ((¬ (gI st a0 19) = 1 → oC a0 12 ∧ P_X12_mark  a0 40 st (fun st_2 => oC a0 12 ∧ rc_X12_readExpression a0 (a1 + 1) st_2 (fun st_4 => oC a0 12 ∧ P_X12_mark  a0 41 st_4 (fun st_6 => post st_6)))) ∧ ((gI st a0 19) = 1 → ∃ r_7, rv st a0 12 3 = some r_7 ∧ oC a0 12 ∧ P_X12_which  a0 r_7 st (fun z_8 st_9 => ((¬ z_8 = (-1) → P_X12_readPart_56 rc_X12_readExpression a0 a1  post z_8 st_9) ∧ (z_8 = (-1) → oC a0 12 ∧ P_X12_wrong  a0 3 st_9 (fun st_11 => P_X12_readPart_56 rc_X12_readExpression a0 a1  post z_8 st_11))))))) ∧ ((gI st a0 19) = 2 → oC a0 12 ∧ P_X12_readNumber  a0 0 9999 st (fun z_12 st_13 => oC a0 12 ∧ P_X12_lay  a0 z_12 st_13 (fun st_15 => post st_15))))) ∧ (¬ (gI st a0 23) = 0 → post st))
set_option maxRecDepth 100000 in
set_option maxHeartbeats 4000000 in
theorem K_X12_readPart_74 {l : Launch} {E : En}  {L0 : Nat} (hL0 : 16 ≤ L0) {rc_X12_readExpression : Nat → Int32 → St → (St → Prop) → Prop} (hrc_X12_readExpression : ∀ {b0 : Nat} {b1 : Int32} {st : St} {post : St → Prop}, rc_X12_readExpression b0 b1 st post → CtV l E (CFc E) L0 0 0 yX12_readExpression cX12_readExpression 3 none [.ref b0, .int b1] st post) (a0 : Nat) (a1 : Int32)  {post : St → Prop}    (st : St) (h : P_X12_readPart_74 rc_X12_readExpression a0 a1  post  st) : Jg l E (CFc E) (Rm (L0 + 1) 0 0) cX12_readPart 3 RX12 none (fun _ => True) (QV E post 0 0) 0 0 74 [(0, .ref a0), (1, .int a1)] [] st := by
  unfold P_X12_readPart_74 at h
  exact J_retv rfl dX12_readPart_74 h
set_option maxRecDepth 100000 in
set_option maxHeartbeats 4000000 in
theorem K_X12_readPart_56 {l : Launch} {E : En}  {L0 : Nat} (hL0 : 16 ≤ L0) {rc_X12_readExpression : Nat → Int32 → St → (St → Prop) → Prop} (hrc_X12_readExpression : ∀ {b0 : Nat} {b1 : Int32} {st : St} {post : St → Prop}, rc_X12_readExpression b0 b1 st post → CtV l E (CFc E) L0 0 0 yX12_readExpression cX12_readExpression 3 none [.ref b0, .int b1] st post) (a0 : Nat) (a1 : Int32)  {post : St → Prop}   (x2 : Int32) (st : St) (h : P_X12_readPart_56 rc_X12_readExpression a0 a1  post x2 st) : Jg l E (CFc E) (Rm (L0 + 1) 0 0) cX12_readPart 3 RX12 none (fun _ => True) (QV E post 0 0) 0 0 56 [(0, .ref a0), (1, .int a1), (2, .int x2)] [] st := by
  unfold P_X12_readPart_56 at h
  refine J_aload_n 0 dX12_readPart_56 rfl rfl ?_
  refine J_iconst (-1) dX12_readPart_57 (by decide) ?_
  refine J_iload_n 2 dX12_readPart_58 rfl rfl ?_
  refine J_isub dX12_readPart_59 ?_
  obtain ⟨ho, h⟩ := h
  refine J_cvv (As := [_]) md_X12_lay k_1031 (rc_obj cl_12 ho) rfl rfl ⟨(by simp only [Rm]; omega), (by simp only [Rm]; omega)⟩ ⟨Nat.le_refl _, Nat.le_refl _⟩ (Nat.le_of_ble_eq_true rfl) dX12_readPart_60 (ct_X12_lay  h) (fun st_2 h => ?_)
  refine J_aload_n 0 dX12_readPart_63 rfl rfl ?_
  obtain ⟨hf, h⟩ := h
  refine J_getI fl_RX12_233 dX12_readPart_64 hf ?_
  refine J_if_ne 74 dX12_readPart_67 (by decide) (fun hc => ?_) (fun hc => ?_)
  · have h := h.1 hc
    exact J_lv [0, 1] rfl (K_X12_readPart_74  hL0 hrc_X12_readExpression a0 a1  st_2 h)
  · have h := h.2 hc
    refine J_aload_n 0 dX12_readPart_70 rfl rfl ?_
    obtain ⟨ho, h⟩ := h
    refine J_cvv (As := []) md_X12_stepOn k_1016 (rc_obj cl_12 ho) rfl rfl ⟨(by simp only [Rm]; omega), (by simp only [Rm]; omega)⟩ ⟨Nat.le_refl _, Nat.le_refl _⟩ (Nat.le_of_ble_eq_true rfl) dX12_readPart_71 (ct_X12_stepOn  h) (fun st_4 h => ?_)
    exact J_lv [0, 1] rfl (K_X12_readPart_74  hL0 hrc_X12_readExpression a0 a1  st_4 h)
set_option maxRecDepth 100000 in
set_option maxHeartbeats 4000000 in
theorem ct_X12_readPart {l : Launch} {E : En} {L0 : Nat} (hL0 : 16 ≤ L0) {rc_X12_readExpression : Nat → Int32 → St → (St → Prop) → Prop} (hrc_X12_readExpression : ∀ {b0 : Nat} {b1 : Int32} {st : St} {post : St → Prop}, rc_X12_readExpression b0 b1 st post → CtV l E (CFc E) L0 0 0 yX12_readExpression cX12_readExpression 3 none [.ref b0, .int b1] st post) {a0 : Nat} {a1 : Int32} {st : St} {post : St → Prop} (h : P_X12_readPart rc_X12_readExpression a0 a1 st post) : CtV l E (CFc E) (L0 + 1) 0 0 yX12_readPart cX12_readPart 3 none [.ref a0, .int a1] st post := by
  refine ctV_of (by decide) (Nat.le_of_ble_eq_true rfl) ?_
  show Jg l E (CFc E) (Rm (L0 + 1) 0 0) cX12_readPart 3 RX12 none (fun _ => True) (QV E post 0 0) 0 0 0 [(0, .ref a0), (1, .int a1)] [] st
  unfold P_X12_readPart at h
  refine J_aload_n 0 dX12_readPart_0 rfl rfl ?_
  obtain ⟨hf, h⟩ := h
  refine J_getI fl_RX12_233 dX12_readPart_1 hf ?_
  refine J_if_eq 8 dX12_readPart_4 (by decide) (fun hc => ?_) (fun hc => ?_)
  · have h := h.1 hc
    refine J_aload_n 0 dX12_readPart_8 rfl rfl ?_
    obtain ⟨hf, h⟩ := h
    refine J_getI fl_RX12_207 dX12_readPart_9 hf ?_
    refine J_iconst 2 dX12_readPart_12 (by decide) ?_
    refine J_icmp_ne 29 dX12_readPart_13 (by decide) (fun hc => ?_) (fun hc => ?_)
    · have h := h.1 hc
      refine J_aload_n 0 dX12_readPart_29 rfl rfl ?_
      obtain ⟨hf, h⟩ := h
      refine J_getI fl_RX12_207 dX12_readPart_30 hf ?_
      refine J_iconst 1 dX12_readPart_33 (by decide) ?_
      refine J_icmp_ne 75 dX12_readPart_34 (by decide) (fun hc => ?_) (fun hc => ?_)
      · have h := h.1 hc
        refine J_aload_n 0 dX12_readPart_75 rfl rfl ?_
        refine J_bipush 40 dX12_readPart_76 (by decide) ?_
        obtain ⟨ho, h⟩ := h
        refine J_cvv (As := [_]) md_X12_mark k_1049 (rc_obj cl_12 ho) rfl rfl ⟨(by simp only [Rm]; omega), (by simp only [Rm]; omega)⟩ ⟨Nat.le_refl _, Nat.le_refl _⟩ (Nat.le_of_ble_eq_true rfl) dX12_readPart_78 (ct_X12_mark  h) (fun st_2 h => ?_)
        refine J_aload_n 0 dX12_readPart_81 rfl rfl ?_
        refine J_iload_n 1 dX12_readPart_82 rfl rfl ?_
        refine J_iconst 1 dX12_readPart_83 (by decide) ?_
        refine J_iadd dX12_readPart_84 ?_
        obtain ⟨ho, h⟩ := h
        refine J_cvv (As := [_]) md_X12_readExpression k_1052 (rc_obj cl_12 ho) rfl rfl ⟨(by simp only [Rm]; omega), (by simp only [Rm]; omega)⟩ ⟨Nat.le_refl _, Nat.le_refl _⟩ (Nat.le_of_ble_eq_true rfl) dX12_readPart_85 (hrc_X12_readExpression h) (fun st_4 h => ?_)
        refine J_aload_n 0 dX12_readPart_88 rfl rfl ?_
        refine J_bipush 41 dX12_readPart_89 (by decide) ?_
        obtain ⟨ho, h⟩ := h
        refine J_cvv (As := [_]) md_X12_mark k_1049 (rc_obj cl_12 ho) rfl rfl ⟨(by simp only [Rm]; omega), (by simp only [Rm]; omega)⟩ ⟨Nat.le_refl _, Nat.le_refl _⟩ (Nat.le_of_ble_eq_true rfl) dX12_readPart_91 (ct_X12_mark  h) (fun st_6 h => ?_)
        exact J_retv rfl dX12_readPart_94 h
      · have h := h.2 hc
        refine J_aload_n 0 dX12_readPart_37 rfl rfl ?_
        refine J_aload_n 0 dX12_readPart_38 rfl rfl ?_
        obtain ⟨r_7, hf, h⟩ := h
        refine J_getR fl_RX12_45 dX12_readPart_39 hf ?_
        obtain ⟨ho, h⟩ := h
        refine J_cvi (As := [_]) md_X12_which k_1046 (rc_obj cl_12 ho) rfl rfl ⟨(by simp only [Rm]; omega), (by simp only [Rm]; omega)⟩ ⟨Nat.le_refl _, Nat.le_refl _⟩ (Nat.le_of_ble_eq_true rfl) dX12_readPart_42 (ct_X12_which  h) (fun z_8 st_9 h => ?_)
        refine J_istore_n _ dX12_readPart_45 rfl (by decide) rfl ?_
        refine J_iload_n 0 dX12_readPart_46 rfl rfl ?_
        refine J_iconst (-1) dX12_readPart_47 (by decide) ?_
        refine J_icmp_ne 56 dX12_readPart_48 (by decide) (fun hc => ?_) (fun hc => ?_)
        · have h := h.1 hc
          exact J_lv [1, 2, 0] rfl (K_X12_readPart_56  hL0 hrc_X12_readExpression a0 a1  z_8 st_9 h)
        · have h := h.2 hc
          refine J_aload_n 1 dX12_readPart_51 rfl rfl ?_
          refine J_iconst 3 dX12_readPart_52 (by decide) ?_
          obtain ⟨ho, h⟩ := h
          refine J_cvv (As := [_]) md_X12_wrong k_1013 (rc_obj cl_12 ho) rfl rfl ⟨(by simp only [Rm]; omega), (by simp only [Rm]; omega)⟩ ⟨Nat.le_refl _, Nat.le_refl _⟩ (Nat.le_of_ble_eq_true rfl) dX12_readPart_53 (ct_X12_wrong  h) (fun st_11 h => ?_)
          exact J_lv [1, 2, 0] rfl (K_X12_readPart_56  hL0 hrc_X12_readExpression a0 a1  z_8 st_11 h)
    · have h := h.2 hc
      refine J_aload_n 0 dX12_readPart_16 rfl rfl ?_
      refine J_aload_n 0 dX12_readPart_17 rfl rfl ?_
      refine J_iconst 0 dX12_readPart_18 (by decide) ?_
      refine J_sipush 9999 dX12_readPart_19 (by decide) ?_
      obtain ⟨ho, h⟩ := h
      refine J_cvi (As := [_, _]) md_X12_readNumber k_1043 (rc_obj cl_12 ho) rfl rfl ⟨(by simp only [Rm]; omega), (by simp only [Rm]; omega)⟩ ⟨Nat.le_refl _, Nat.le_refl _⟩ (Nat.le_of_ble_eq_true rfl) dX12_readPart_22 (ct_X12_readNumber  h) (fun z_12 st_13 h => ?_)
      obtain ⟨ho, h⟩ := h
      refine J_cvv (As := [_]) md_X12_lay k_1031 (rc_obj cl_12 ho) rfl rfl ⟨(by simp only [Rm]; omega), (by simp only [Rm]; omega)⟩ ⟨Nat.le_refl _, Nat.le_refl _⟩ (Nat.le_of_ble_eq_true rfl) dX12_readPart_25 (ct_X12_lay  h) (fun st_15 h => ?_)
      exact J_retv rfl dX12_readPart_28 h
  · have h := h.2 hc
    exact J_retv rfl dX12_readPart_7 h
/-! X12_readProduct -/
def P_X12_readProduct_39 (rc_X12_readExpression : Nat → Int32 → St → (St → Prop) → Prop) (a0 : Nat) (a1 : Int32) (k5 : St → Prop) (post : St → Prop) (s0 : Int32) (st : St) : Prop := oC a0 12 ∧ P_X12_stepOn  a0 st (fun st_2 => oC a0 12 ∧ P_X12_readPart rc_X12_readExpression a0 a1 st_2 (fun st_4 => oC a0 12 ∧ P_X12_lay  a0 s0 st_4 (fun st_6 => k5 st_6)))
def P_X12_readProduct_23 (rc_X12_readExpression : Nat → Int32 → St → (St → Prop) → Prop) (a0 : Nat) (a1 : Int32) (k5 : St → Prop) (post : St → Prop)  (st : St) : Prop := oC a0 12 ∧ P_X12_isMarked  a0 42 st (fun z_1 st_2 => ((z_1 = 0 → P_X12_readProduct_39 rc_X12_readExpression a0 a1 k5 post (-23) st_2) ∧ (¬ z_1 = 0 → P_X12_readProduct_39 rc_X12_readExpression a0 a1 k5 post (-22) st_2)))
def P_X12_readProduct_5 (rc_X12_readExpression : Nat → Int32 → St → (St → Prop) → Prop) (a0 : Nat) (a1 : Int32)  (post : St → Prop) : Nat → St → Prop
  | 0, _ => False
  | n9 + 1, st => oC a0 12 ∧ P_X12_isMarked  a0 42 st (fun z_1 st_2 => ((¬ z_1 = 0 → P_X12_readProduct_23 rc_X12_readExpression a0 a1 (fun st => P_X12_readProduct_5 rc_X12_readExpression a0 a1  post n9 st) post st_2) ∧ (z_1 = 0 → oC a0 12 ∧ P_X12_isMarked  a0 47 st_2 (fun z_3 st_4 => ((z_3 = 0 → post st_4) ∧ (¬ z_3 = 0 → P_X12_readProduct_23 rc_X12_readExpression a0 a1 (fun st => P_X12_readProduct_5 rc_X12_readExpression a0 a1  post n9 st) post st_4))))))
def P_X12_readProduct (rc_X12_readExpression : Nat → Int32 → St → (St → Prop) → Prop) (a0 : Nat) (a1 : Int32) (st : St) (post : St → Prop) : Prop := oC a0 12 ∧ P_X12_readPart rc_X12_readExpression a0 a1 st (fun st_2 => ∃ n8, P_X12_readProduct_5 rc_X12_readExpression a0 a1  post n8 st_2)
set_option maxRecDepth 100000 in
set_option maxHeartbeats 4000000 in
theorem K_X12_readProduct_39 {l : Launch} {E : En}  {L0 : Nat} (hL0 : 16 ≤ L0) {rc_X12_readExpression : Nat → Int32 → St → (St → Prop) → Prop} (hrc_X12_readExpression : ∀ {b0 : Nat} {b1 : Int32} {st : St} {post : St → Prop}, rc_X12_readExpression b0 b1 st post → CtV l E (CFc E) L0 0 0 yX12_readExpression cX12_readExpression 3 none [.ref b0, .int b1] st post) (a0 : Nat) (a1 : Int32) {k5 : St → Prop} {post : St → Prop}  (hk5 : ∀  (st : St), k5  st → Jg l E (CFc E) (Rm (L0 + 2) 0 0) cX12_readProduct 3 RX12 none (fun _ => True) (QV E post 0 0) 0 0 5 [(0, .ref a0), (1, .int a1)] [] st) (s0 : Int32) (st : St) (h : P_X12_readProduct_39 rc_X12_readExpression a0 a1 k5 post s0 st) : Jg l E (CFc E) (Rm (L0 + 2) 0 0) cX12_readProduct 3 RX12 none (fun _ => True) (QV E post 0 0) 0 0 39 [(0, .ref a0), (1, .int a1)] [.int s0] st := by
  unfold P_X12_readProduct_39 at h
  refine J_istore_n _ dX12_readProduct_39 rfl (by decide) rfl ?_
  refine J_aload_n 1 dX12_readProduct_40 rfl rfl ?_
  obtain ⟨ho, h⟩ := h
  refine J_cvv (As := []) md_X12_stepOn k_1016 (rc_obj cl_12 ho) rfl rfl ⟨(by simp only [Rm]; omega), (by simp only [Rm]; omega)⟩ ⟨Nat.le_refl _, Nat.le_refl _⟩ (Nat.le_of_ble_eq_true rfl) dX12_readProduct_41 (ct_X12_stepOn  h) (fun st_2 h => ?_)
  refine J_aload_n 1 dX12_readProduct_44 rfl rfl ?_
  refine J_iload_n 2 dX12_readProduct_45 rfl rfl ?_
  obtain ⟨ho, h⟩ := h
  refine J_cvv (As := [_]) md_X12_readPart k_1056 (rc_obj cl_12 ho) rfl rfl ⟨(by simp only [Rm]; omega), (by simp only [Rm]; omega)⟩ ⟨Nat.le_refl _, Nat.le_refl _⟩ (Nat.le_of_ble_eq_true rfl) dX12_readProduct_46 (ct_X12_readPart hL0 hrc_X12_readExpression h) (fun st_4 h => ?_)
  refine J_aload_n 1 dX12_readProduct_49 rfl rfl ?_
  refine J_iload_n 0 dX12_readProduct_50 rfl rfl ?_
  obtain ⟨ho, h⟩ := h
  refine J_cvv (As := [_]) md_X12_lay k_1031 (rc_obj cl_12 ho) rfl rfl ⟨(by simp only [Rm]; omega), (by simp only [Rm]; omega)⟩ ⟨Nat.le_refl _, Nat.le_refl _⟩ (Nat.le_of_ble_eq_true rfl) dX12_readProduct_51 (ct_X12_lay  h) (fun st_6 h => ?_)
  refine J_goto 5 dX12_readProduct_54 (by decide) ?_
  exact J_lv [1, 2] rfl (hk5 st_6 h)
set_option maxRecDepth 100000 in
set_option maxHeartbeats 4000000 in
theorem K_X12_readProduct_23 {l : Launch} {E : En}  {L0 : Nat} (hL0 : 16 ≤ L0) {rc_X12_readExpression : Nat → Int32 → St → (St → Prop) → Prop} (hrc_X12_readExpression : ∀ {b0 : Nat} {b1 : Int32} {st : St} {post : St → Prop}, rc_X12_readExpression b0 b1 st post → CtV l E (CFc E) L0 0 0 yX12_readExpression cX12_readExpression 3 none [.ref b0, .int b1] st post) (a0 : Nat) (a1 : Int32) {k5 : St → Prop} {post : St → Prop}  (hk5 : ∀  (st : St), k5  st → Jg l E (CFc E) (Rm (L0 + 2) 0 0) cX12_readProduct 3 RX12 none (fun _ => True) (QV E post 0 0) 0 0 5 [(0, .ref a0), (1, .int a1)] [] st)  (st : St) (h : P_X12_readProduct_23 rc_X12_readExpression a0 a1 k5 post  st) : Jg l E (CFc E) (Rm (L0 + 2) 0 0) cX12_readProduct 3 RX12 none (fun _ => True) (QV E post 0 0) 0 0 23 [(0, .ref a0), (1, .int a1)] [] st := by
  unfold P_X12_readProduct_23 at h
  refine J_aload_n 0 dX12_readProduct_23 rfl rfl ?_
  refine J_bipush 42 dX12_readProduct_24 (by decide) ?_
  obtain ⟨ho, h⟩ := h
  refine J_cvi (As := [_]) md_X12_isMarked k_1010 (rc_obj cl_12 ho) rfl rfl ⟨(by simp only [Rm]; omega), (by simp only [Rm]; omega)⟩ ⟨Nat.le_refl _, Nat.le_refl _⟩ (Nat.le_of_ble_eq_true rfl) dX12_readProduct_26 (ct_X12_isMarked  h) (fun z_1 st_2 h => ?_)
  refine J_if_eq 37 dX12_readProduct_29 (by decide) (fun hc => ?_) (fun hc => ?_)
  · have h := h.1 hc
    refine J_bipush (-23) dX12_readProduct_37 (by decide) ?_
    exact J_lv [0, 1] rfl (K_X12_readProduct_39  hL0 hrc_X12_readExpression a0 a1 hk5 (-23) st_2 h)
  · have h := h.2 hc
    refine J_bipush (-22) dX12_readProduct_32 (by decide) ?_
    refine J_goto 39 dX12_readProduct_34 (by decide) ?_
    exact J_lv [0, 1] rfl (K_X12_readProduct_39  hL0 hrc_X12_readExpression a0 a1 hk5 (-22) st_2 h)
set_option maxRecDepth 100000 in
set_option maxHeartbeats 4000000 in
theorem K_X12_readProduct_5 {l : Launch} {E : En}  {L0 : Nat} (hL0 : 16 ≤ L0) {rc_X12_readExpression : Nat → Int32 → St → (St → Prop) → Prop} (hrc_X12_readExpression : ∀ {b0 : Nat} {b1 : Int32} {st : St} {post : St → Prop}, rc_X12_readExpression b0 b1 st post → CtV l E (CFc E) L0 0 0 yX12_readExpression cX12_readExpression 3 none [.ref b0, .int b1] st post) (a0 : Nat) (a1 : Int32)  {post : St → Prop}   : ∀ (n9 : Nat)  (st : St), P_X12_readProduct_5 rc_X12_readExpression a0 a1  post n9  st → Jg l E (CFc E) (Rm (L0 + 2) 0 0) cX12_readProduct 3 RX12 none (fun _ => True) (QV E post 0 0) 0 0 5 [(0, .ref a0), (1, .int a1)] [] st := by
  intro n9
  induction n9 with
  | zero => intro  st h; exact h.elim
  | succ n9 ih =>
    intro  st h
    unfold P_X12_readProduct_5 at h
    refine J_aload_n 0 dX12_readProduct_5 rfl rfl ?_
    refine J_bipush 42 dX12_readProduct_6 (by decide) ?_
    obtain ⟨ho, h⟩ := h
    refine J_cvi (As := [_]) md_X12_isMarked k_1010 (rc_obj cl_12 ho) rfl rfl ⟨(by simp only [Rm]; omega), (by simp only [Rm]; omega)⟩ ⟨Nat.le_refl _, Nat.le_refl _⟩ (Nat.le_of_ble_eq_true rfl) dX12_readProduct_8 (ct_X12_isMarked  h) (fun z_1 st_2 h => ?_)
    refine J_if_ne 23 dX12_readProduct_11 (by decide) (fun hc => ?_) (fun hc => ?_)
    · have h := h.1 hc
      exact J_lv [0, 1] rfl (K_X12_readProduct_23  hL0 hrc_X12_readExpression a0 a1 (fun st h => ih st h) st_2 h)
    · have h := h.2 hc
      refine J_aload_n 0 dX12_readProduct_14 rfl rfl ?_
      refine J_bipush 47 dX12_readProduct_15 (by decide) ?_
      obtain ⟨ho, h⟩ := h
      refine J_cvi (As := [_]) md_X12_isMarked k_1010 (rc_obj cl_12 ho) rfl rfl ⟨(by simp only [Rm]; omega), (by simp only [Rm]; omega)⟩ ⟨Nat.le_refl _, Nat.le_refl _⟩ (Nat.le_of_ble_eq_true rfl) dX12_readProduct_17 (ct_X12_isMarked  h) (fun z_3 st_4 h => ?_)
      refine J_if_eq 57 dX12_readProduct_20 (by decide) (fun hc => ?_) (fun hc => ?_)
      · have h := h.1 hc
        exact J_retv rfl dX12_readProduct_57 h
      · have h := h.2 hc
        exact J_lv [0, 1] rfl (K_X12_readProduct_23  hL0 hrc_X12_readExpression a0 a1 (fun st h => ih st h) st_4 h)
set_option maxRecDepth 100000 in
set_option maxHeartbeats 4000000 in
theorem ct_X12_readProduct {l : Launch} {E : En} {L0 : Nat} (hL0 : 16 ≤ L0) {rc_X12_readExpression : Nat → Int32 → St → (St → Prop) → Prop} (hrc_X12_readExpression : ∀ {b0 : Nat} {b1 : Int32} {st : St} {post : St → Prop}, rc_X12_readExpression b0 b1 st post → CtV l E (CFc E) L0 0 0 yX12_readExpression cX12_readExpression 3 none [.ref b0, .int b1] st post) {a0 : Nat} {a1 : Int32} {st : St} {post : St → Prop} (h : P_X12_readProduct rc_X12_readExpression a0 a1 st post) : CtV l E (CFc E) (L0 + 2) 0 0 yX12_readProduct cX12_readProduct 3 none [.ref a0, .int a1] st post := by
  refine ctV_of (by decide) (Nat.le_of_ble_eq_true rfl) ?_
  show Jg l E (CFc E) (Rm (L0 + 2) 0 0) cX12_readProduct 3 RX12 none (fun _ => True) (QV E post 0 0) 0 0 0 [(0, .ref a0), (1, .int a1)] [] st
  unfold P_X12_readProduct at h
  refine J_aload_n 0 dX12_readProduct_0 rfl rfl ?_
  refine J_iload_n 1 dX12_readProduct_1 rfl rfl ?_
  obtain ⟨ho, h⟩ := h
  refine J_cvv (As := [_]) md_X12_readPart k_1056 (rc_obj cl_12 ho) rfl rfl ⟨(by simp only [Rm]; omega), (by simp only [Rm]; omega)⟩ ⟨Nat.le_refl _, Nat.le_refl _⟩ (Nat.le_of_ble_eq_true rfl) dX12_readProduct_2 (ct_X12_readPart hL0 hrc_X12_readExpression h) (fun st_2 h => ?_)
  obtain ⟨n8, h⟩ := h
  exact J_lv [0, 1] rfl (K_X12_readProduct_5  hL0 hrc_X12_readExpression a0 a1  n8 st_2 h)
/-! X12_readSum -/
def P_X12_readSum_39 (rc_X12_readExpression : Nat → Int32 → St → (St → Prop) → Prop) (a0 : Nat) (a1 : Int32) (k5 : St → Prop) (post : St → Prop) (s0 : Int32) (st : St) : Prop := oC a0 12 ∧ P_X12_stepOn  a0 st (fun st_2 => oC a0 12 ∧ P_X12_readProduct rc_X12_readExpression a0 a1 st_2 (fun st_4 => oC a0 12 ∧ P_X12_lay  a0 s0 st_4 (fun st_6 => k5 st_6)))
def P_X12_readSum_23 (rc_X12_readExpression : Nat → Int32 → St → (St → Prop) → Prop) (a0 : Nat) (a1 : Int32) (k5 : St → Prop) (post : St → Prop)  (st : St) : Prop := oC a0 12 ∧ P_X12_isMarked  a0 43 st (fun z_1 st_2 => ((z_1 = 0 → P_X12_readSum_39 rc_X12_readExpression a0 a1 k5 post (-21) st_2) ∧ (¬ z_1 = 0 → P_X12_readSum_39 rc_X12_readExpression a0 a1 k5 post (-20) st_2)))
def P_X12_readSum_5 (rc_X12_readExpression : Nat → Int32 → St → (St → Prop) → Prop) (a0 : Nat) (a1 : Int32)  (post : St → Prop) : Nat → St → Prop
  | 0, _ => False
  | n9 + 1, st => oC a0 12 ∧ P_X12_isMarked  a0 43 st (fun z_1 st_2 => ((¬ z_1 = 0 → P_X12_readSum_23 rc_X12_readExpression a0 a1 (fun st => P_X12_readSum_5 rc_X12_readExpression a0 a1  post n9 st) post st_2) ∧ (z_1 = 0 → oC a0 12 ∧ P_X12_isMarked  a0 45 st_2 (fun z_3 st_4 => ((z_3 = 0 → post st_4) ∧ (¬ z_3 = 0 → P_X12_readSum_23 rc_X12_readExpression a0 a1 (fun st => P_X12_readSum_5 rc_X12_readExpression a0 a1  post n9 st) post st_4))))))
def P_X12_readSum (rc_X12_readExpression : Nat → Int32 → St → (St → Prop) → Prop) (a0 : Nat) (a1 : Int32) (st : St) (post : St → Prop) : Prop := oC a0 12 ∧ P_X12_readProduct rc_X12_readExpression a0 a1 st (fun st_2 => ∃ n8, P_X12_readSum_5 rc_X12_readExpression a0 a1  post n8 st_2)
set_option maxRecDepth 100000 in
set_option maxHeartbeats 4000000 in
theorem K_X12_readSum_39 {l : Launch} {E : En}  {L0 : Nat} (hL0 : 16 ≤ L0) {rc_X12_readExpression : Nat → Int32 → St → (St → Prop) → Prop} (hrc_X12_readExpression : ∀ {b0 : Nat} {b1 : Int32} {st : St} {post : St → Prop}, rc_X12_readExpression b0 b1 st post → CtV l E (CFc E) L0 0 0 yX12_readExpression cX12_readExpression 3 none [.ref b0, .int b1] st post) (a0 : Nat) (a1 : Int32) {k5 : St → Prop} {post : St → Prop}  (hk5 : ∀  (st : St), k5  st → Jg l E (CFc E) (Rm (L0 + 3) 0 0) cX12_readSum 3 RX12 none (fun _ => True) (QV E post 0 0) 0 0 5 [(0, .ref a0), (1, .int a1)] [] st) (s0 : Int32) (st : St) (h : P_X12_readSum_39 rc_X12_readExpression a0 a1 k5 post s0 st) : Jg l E (CFc E) (Rm (L0 + 3) 0 0) cX12_readSum 3 RX12 none (fun _ => True) (QV E post 0 0) 0 0 39 [(0, .ref a0), (1, .int a1)] [.int s0] st := by
  unfold P_X12_readSum_39 at h
  refine J_istore_n _ dX12_readSum_39 rfl (by decide) rfl ?_
  refine J_aload_n 1 dX12_readSum_40 rfl rfl ?_
  obtain ⟨ho, h⟩ := h
  refine J_cvv (As := []) md_X12_stepOn k_1016 (rc_obj cl_12 ho) rfl rfl ⟨(by simp only [Rm]; omega), (by simp only [Rm]; omega)⟩ ⟨Nat.le_refl _, Nat.le_refl _⟩ (Nat.le_of_ble_eq_true rfl) dX12_readSum_41 (ct_X12_stepOn  h) (fun st_2 h => ?_)
  refine J_aload_n 1 dX12_readSum_44 rfl rfl ?_
  refine J_iload_n 2 dX12_readSum_45 rfl rfl ?_
  obtain ⟨ho, h⟩ := h
  refine J_cvv (As := [_]) md_X12_readProduct k_1060 (rc_obj cl_12 ho) rfl rfl ⟨(by simp only [Rm]; omega), (by simp only [Rm]; omega)⟩ ⟨Nat.le_refl _, Nat.le_refl _⟩ (Nat.le_of_ble_eq_true rfl) dX12_readSum_46 (ct_X12_readProduct hL0 hrc_X12_readExpression h) (fun st_4 h => ?_)
  refine J_aload_n 1 dX12_readSum_49 rfl rfl ?_
  refine J_iload_n 0 dX12_readSum_50 rfl rfl ?_
  obtain ⟨ho, h⟩ := h
  refine J_cvv (As := [_]) md_X12_lay k_1031 (rc_obj cl_12 ho) rfl rfl ⟨(by simp only [Rm]; omega), (by simp only [Rm]; omega)⟩ ⟨Nat.le_refl _, Nat.le_refl _⟩ (Nat.le_of_ble_eq_true rfl) dX12_readSum_51 (ct_X12_lay  h) (fun st_6 h => ?_)
  refine J_goto 5 dX12_readSum_54 (by decide) ?_
  exact J_lv [1, 2] rfl (hk5 st_6 h)
set_option maxRecDepth 100000 in
set_option maxHeartbeats 4000000 in
theorem K_X12_readSum_23 {l : Launch} {E : En}  {L0 : Nat} (hL0 : 16 ≤ L0) {rc_X12_readExpression : Nat → Int32 → St → (St → Prop) → Prop} (hrc_X12_readExpression : ∀ {b0 : Nat} {b1 : Int32} {st : St} {post : St → Prop}, rc_X12_readExpression b0 b1 st post → CtV l E (CFc E) L0 0 0 yX12_readExpression cX12_readExpression 3 none [.ref b0, .int b1] st post) (a0 : Nat) (a1 : Int32) {k5 : St → Prop} {post : St → Prop}  (hk5 : ∀  (st : St), k5  st → Jg l E (CFc E) (Rm (L0 + 3) 0 0) cX12_readSum 3 RX12 none (fun _ => True) (QV E post 0 0) 0 0 5 [(0, .ref a0), (1, .int a1)] [] st)  (st : St) (h : P_X12_readSum_23 rc_X12_readExpression a0 a1 k5 post  st) : Jg l E (CFc E) (Rm (L0 + 3) 0 0) cX12_readSum 3 RX12 none (fun _ => True) (QV E post 0 0) 0 0 23 [(0, .ref a0), (1, .int a1)] [] st := by
  unfold P_X12_readSum_23 at h
  refine J_aload_n 0 dX12_readSum_23 rfl rfl ?_
  refine J_bipush 43 dX12_readSum_24 (by decide) ?_
  obtain ⟨ho, h⟩ := h
  refine J_cvi (As := [_]) md_X12_isMarked k_1010 (rc_obj cl_12 ho) rfl rfl ⟨(by simp only [Rm]; omega), (by simp only [Rm]; omega)⟩ ⟨Nat.le_refl _, Nat.le_refl _⟩ (Nat.le_of_ble_eq_true rfl) dX12_readSum_26 (ct_X12_isMarked  h) (fun z_1 st_2 h => ?_)
  refine J_if_eq 37 dX12_readSum_29 (by decide) (fun hc => ?_) (fun hc => ?_)
  · have h := h.1 hc
    refine J_bipush (-21) dX12_readSum_37 (by decide) ?_
    exact J_lv [0, 1] rfl (K_X12_readSum_39  hL0 hrc_X12_readExpression a0 a1 hk5 (-21) st_2 h)
  · have h := h.2 hc
    refine J_bipush (-20) dX12_readSum_32 (by decide) ?_
    refine J_goto 39 dX12_readSum_34 (by decide) ?_
    exact J_lv [0, 1] rfl (K_X12_readSum_39  hL0 hrc_X12_readExpression a0 a1 hk5 (-20) st_2 h)
set_option maxRecDepth 100000 in
set_option maxHeartbeats 4000000 in
theorem K_X12_readSum_5 {l : Launch} {E : En}  {L0 : Nat} (hL0 : 16 ≤ L0) {rc_X12_readExpression : Nat → Int32 → St → (St → Prop) → Prop} (hrc_X12_readExpression : ∀ {b0 : Nat} {b1 : Int32} {st : St} {post : St → Prop}, rc_X12_readExpression b0 b1 st post → CtV l E (CFc E) L0 0 0 yX12_readExpression cX12_readExpression 3 none [.ref b0, .int b1] st post) (a0 : Nat) (a1 : Int32)  {post : St → Prop}   : ∀ (n9 : Nat)  (st : St), P_X12_readSum_5 rc_X12_readExpression a0 a1  post n9  st → Jg l E (CFc E) (Rm (L0 + 3) 0 0) cX12_readSum 3 RX12 none (fun _ => True) (QV E post 0 0) 0 0 5 [(0, .ref a0), (1, .int a1)] [] st := by
  intro n9
  induction n9 with
  | zero => intro  st h; exact h.elim
  | succ n9 ih =>
    intro  st h
    unfold P_X12_readSum_5 at h
    refine J_aload_n 0 dX12_readSum_5 rfl rfl ?_
    refine J_bipush 43 dX12_readSum_6 (by decide) ?_
    obtain ⟨ho, h⟩ := h
    refine J_cvi (As := [_]) md_X12_isMarked k_1010 (rc_obj cl_12 ho) rfl rfl ⟨(by simp only [Rm]; omega), (by simp only [Rm]; omega)⟩ ⟨Nat.le_refl _, Nat.le_refl _⟩ (Nat.le_of_ble_eq_true rfl) dX12_readSum_8 (ct_X12_isMarked  h) (fun z_1 st_2 h => ?_)
    refine J_if_ne 23 dX12_readSum_11 (by decide) (fun hc => ?_) (fun hc => ?_)
    · have h := h.1 hc
      exact J_lv [0, 1] rfl (K_X12_readSum_23  hL0 hrc_X12_readExpression a0 a1 (fun st h => ih st h) st_2 h)
    · have h := h.2 hc
      refine J_aload_n 0 dX12_readSum_14 rfl rfl ?_
      refine J_bipush 45 dX12_readSum_15 (by decide) ?_
      obtain ⟨ho, h⟩ := h
      refine J_cvi (As := [_]) md_X12_isMarked k_1010 (rc_obj cl_12 ho) rfl rfl ⟨(by simp only [Rm]; omega), (by simp only [Rm]; omega)⟩ ⟨Nat.le_refl _, Nat.le_refl _⟩ (Nat.le_of_ble_eq_true rfl) dX12_readSum_17 (ct_X12_isMarked  h) (fun z_3 st_4 h => ?_)
      refine J_if_eq 57 dX12_readSum_20 (by decide) (fun hc => ?_) (fun hc => ?_)
      · have h := h.1 hc
        exact J_retv rfl dX12_readSum_57 h
      · have h := h.2 hc
        exact J_lv [0, 1] rfl (K_X12_readSum_23  hL0 hrc_X12_readExpression a0 a1 (fun st h => ih st h) st_4 h)
set_option maxRecDepth 100000 in
set_option maxHeartbeats 4000000 in
theorem ct_X12_readSum {l : Launch} {E : En} {L0 : Nat} (hL0 : 16 ≤ L0) {rc_X12_readExpression : Nat → Int32 → St → (St → Prop) → Prop} (hrc_X12_readExpression : ∀ {b0 : Nat} {b1 : Int32} {st : St} {post : St → Prop}, rc_X12_readExpression b0 b1 st post → CtV l E (CFc E) L0 0 0 yX12_readExpression cX12_readExpression 3 none [.ref b0, .int b1] st post) {a0 : Nat} {a1 : Int32} {st : St} {post : St → Prop} (h : P_X12_readSum rc_X12_readExpression a0 a1 st post) : CtV l E (CFc E) (L0 + 3) 0 0 yX12_readSum cX12_readSum 3 none [.ref a0, .int a1] st post := by
  refine ctV_of (by decide) (Nat.le_of_ble_eq_true rfl) ?_
  show Jg l E (CFc E) (Rm (L0 + 3) 0 0) cX12_readSum 3 RX12 none (fun _ => True) (QV E post 0 0) 0 0 0 [(0, .ref a0), (1, .int a1)] [] st
  unfold P_X12_readSum at h
  refine J_aload_n 0 dX12_readSum_0 rfl rfl ?_
  refine J_iload_n 1 dX12_readSum_1 rfl rfl ?_
  obtain ⟨ho, h⟩ := h
  refine J_cvv (As := [_]) md_X12_readProduct k_1060 (rc_obj cl_12 ho) rfl rfl ⟨(by simp only [Rm]; omega), (by simp only [Rm]; omega)⟩ ⟨Nat.le_refl _, Nat.le_refl _⟩ (Nat.le_of_ble_eq_true rfl) dX12_readSum_2 (ct_X12_readProduct hL0 hrc_X12_readExpression h) (fun st_2 h => ?_)
  obtain ⟨n8, h⟩ := h
  exact J_lv [0, 1] rfl (K_X12_readSum_5  hL0 hrc_X12_readExpression a0 a1  n8 st_2 h)
/-! X12_readNot -/
def P_X12_readNot_96 (rc_X12_readExpression : Nat → Int32 → St → (St → Prop) → Prop) (a0 : Nat) (a1 : Int32)  (post : St → Prop) : Nat → Int32 → Int32 → St → Prop
  | 0, _, _, _ => False
  | n9 + 1, x2, x3, st => ((x2 ≤ x3 → post st) ∧ (¬ x2 ≤ x3 → oC a0 12 ∧ P_X12_lay  a0 (-28) st (fun st_2 => P_X12_readNot_96 rc_X12_readExpression a0 a1  post n9 x2 (x3 + 1) st_2)))
def P_X12_readNot_94 (rc_X12_readExpression : Nat → Int32 → St → (St → Prop) → Prop) (a0 : Nat) (a1 : Int32)  (post : St → Prop) (x2 : Int32) (st : St) : Prop := ∃ n8, P_X12_readNot_96 rc_X12_readExpression a0 a1  post n8 x2 0 st
def P_X12_readNot_79 (rc_X12_readExpression : Nat → Int32 → St → (St → Prop) → Prop) (a0 : Nat) (a1 : Int32)  (post : St → Prop) (x2 : Int32) (s0 : Int32) (st : St) : Prop := oC a0 12 ∧ P_X12_stepOn  a0 st (fun st_2 => oC a0 12 ∧ P_X12_readSum rc_X12_readExpression a0 a1 st_2 (fun st_4 => oC a0 12 ∧ P_X12_lay  a0 s0 st_4 (fun st_6 => P_X12_readNot_94 rc_X12_readExpression a0 a1  post x2 st_6)))
def P_X12_readNot_63 (rc_X12_readExpression : Nat → Int32 → St → (St → Prop) → Prop) (a0 : Nat) (a1 : Int32)  (post : St → Prop) (x2 : Int32) (st : St) : Prop := oC a0 12 ∧ P_X12_isMarked  a0 60 st (fun z_1 st_2 => ((z_1 = 0 → P_X12_readNot_79 rc_X12_readExpression a0 a1  post x2 (-25) st_2) ∧ (¬ z_1 = 0 → P_X12_readNot_79 rc_X12_readExpression a0 a1  post x2 (-24) st_2)))
def P_X12_readNot_23 (rc_X12_readExpression : Nat → Int32 → St → (St → Prop) → Prop) (a0 : Nat) (a1 : Int32) (k2 : Int32 → St → Prop) (post : St → Prop) (x2 : Int32) (st : St) : Prop := fk a0 12 23 = some 0 ∧ ((¬ (gI st a0 23) = 0 → k2 (x2 + 1) st) ∧ ((gI st a0 23) = 0 → oC a0 12 ∧ P_X12_stepOn  a0 st (fun st_2 => k2 (x2 + 1) st_2)))
def P_X12_readNot_2 (rc_X12_readExpression : Nat → Int32 → St → (St → Prop) → Prop) (a0 : Nat) (a1 : Int32)  (post : St → Prop) : Nat → Int32 → St → Prop
  | 0, _, _ => False
  | n9 + 1, x2, st => oC a0 12 ∧ P_X12_is  a0 2010 st (fun z_1 st_2 => ((z_1 = 0 → oC a0 12 ∧ P_X12_readSum rc_X12_readExpression a0 a1 st_2 (fun st_4 => oC a0 12 ∧ P_X12_isMarked  a0 60 st_4 (fun z_5 st_6 => ((¬ z_5 = 0 → P_X12_readNot_63 rc_X12_readExpression a0 a1  post x2 st_6) ∧ (z_5 = 0 → oC a0 12 ∧ P_X12_isMarked  a0 61 st_6 (fun z_7 st_8 => ((z_7 = 0 → P_X12_readNot_94 rc_X12_readExpression a0 a1  post x2 st_8) ∧ (¬ z_7 = 0 → P_X12_readNot_63 rc_X12_readExpression a0 a1  post x2 st_8)))))))) ∧ (¬ z_1 = 0 → ((¬ x2 = 6 → P_X12_readNot_23 rc_X12_readExpression a0 a1 (fun x2 st => P_X12_readNot_2 rc_X12_readExpression a0 a1  post n9 x2 st) post x2 st_2) ∧ (x2 = 6 → oC a0 12 ∧ P_X12_wrong  a0 2 st_2 (fun st_10 => P_X12_readNot_23 rc_X12_readExpression a0 a1 (fun x2 st => P_X12_readNot_2 rc_X12_readExpression a0 a1  post n9 x2 st) post x2 st_10))))))
def P_X12_readNot (rc_X12_readExpression : Nat → Int32 → St → (St → Prop) → Prop) (a0 : Nat) (a1 : Int32) (st : St) (post : St → Prop) : Prop := ∃ n8, P_X12_readNot_2 rc_X12_readExpression a0 a1  post n8 0 st
set_option maxRecDepth 100000 in
set_option maxHeartbeats 4000000 in
theorem K_X12_readNot_96 {l : Launch} {E : En}  {L0 : Nat} (hL0 : 16 ≤ L0) {rc_X12_readExpression : Nat → Int32 → St → (St → Prop) → Prop} (hrc_X12_readExpression : ∀ {b0 : Nat} {b1 : Int32} {st : St} {post : St → Prop}, rc_X12_readExpression b0 b1 st post → CtV l E (CFc E) L0 0 0 yX12_readExpression cX12_readExpression 3 none [.ref b0, .int b1] st post) (a0 : Nat) (a1 : Int32)  {post : St → Prop}   : ∀ (n9 : Nat) (x2 : Int32) (x3 : Int32) (st : St), P_X12_readNot_96 rc_X12_readExpression a0 a1  post n9 x2 x3 st → Jg l E (CFc E) (Rm (L0 + 4) 0 0) cX12_readNot 4 RX12 none (fun _ => True) (QV E post 0 0) 0 0 96 [(0, .ref a0), (1, .int a1), (2, .int x2), (3, .int x3)] [] st := by
  intro n9
  induction n9 with
  | zero => intro x2 x3 st h; exact h.elim
  | succ n9 ih =>
    intro x2 x3 st h
    unfold P_X12_readNot_96 at h
    refine J_iload_n 3 dX12_readNot_96 rfl rfl ?_
    refine J_iload_n 2 dX12_readNot_97 rfl rfl ?_
    refine J_icmp_ge 113 dX12_readNot_98 (by decide) (fun hc => ?_) (fun hc => ?_)
    · have h := h.1 hc
      exact J_retv rfl dX12_readNot_113 h
    · have h := h.2 hc
      refine J_aload_n 0 dX12_readNot_101 rfl rfl ?_
      refine J_bipush (-28) dX12_readNot_102 (by decide) ?_
      obtain ⟨ho, h⟩ := h
      refine J_cvv (As := [_]) md_X12_lay k_1031 (rc_obj cl_12 ho) rfl rfl ⟨(by simp only [Rm]; omega), (by simp only [Rm]; omega)⟩ ⟨Nat.le_refl _, Nat.le_refl _⟩ (Nat.le_of_ble_eq_true rfl) dX12_readNot_104 (ct_X12_lay  h) (fun st_2 h => ?_)
      refine J_iinc 3 (x3 + 1) _ dX12_readNot_107 rfl (by rfl) (by decide) rfl ?_
      refine J_goto 96 dX12_readNot_110 (by decide) ?_
      exact J_lv [1, 2, 3, 0] rfl (ih x2 (x3 + 1) st_2 h)
set_option maxRecDepth 100000 in
set_option maxHeartbeats 4000000 in
theorem K_X12_readNot_94 {l : Launch} {E : En}  {L0 : Nat} (hL0 : 16 ≤ L0) {rc_X12_readExpression : Nat → Int32 → St → (St → Prop) → Prop} (hrc_X12_readExpression : ∀ {b0 : Nat} {b1 : Int32} {st : St} {post : St → Prop}, rc_X12_readExpression b0 b1 st post → CtV l E (CFc E) L0 0 0 yX12_readExpression cX12_readExpression 3 none [.ref b0, .int b1] st post) (a0 : Nat) (a1 : Int32)  {post : St → Prop}   (x2 : Int32) (st : St) (h : P_X12_readNot_94 rc_X12_readExpression a0 a1  post x2 st) : Jg l E (CFc E) (Rm (L0 + 4) 0 0) cX12_readNot 4 RX12 none (fun _ => True) (QV E post 0 0) 0 0 94 [(0, .ref a0), (1, .int a1), (2, .int x2)] [] st := by
  unfold P_X12_readNot_94 at h
  refine J_iconst 0 dX12_readNot_94 (by decide) ?_
  refine J_istore_n _ dX12_readNot_95 rfl (by decide) rfl ?_
  obtain ⟨n8, h⟩ := h
  exact J_lv [1, 2, 3, 0] rfl (K_X12_readNot_96  hL0 hrc_X12_readExpression a0 a1  n8 x2 0 st h)
set_option maxRecDepth 100000 in
set_option maxHeartbeats 4000000 in
theorem K_X12_readNot_79 {l : Launch} {E : En}  {L0 : Nat} (hL0 : 16 ≤ L0) {rc_X12_readExpression : Nat → Int32 → St → (St → Prop) → Prop} (hrc_X12_readExpression : ∀ {b0 : Nat} {b1 : Int32} {st : St} {post : St → Prop}, rc_X12_readExpression b0 b1 st post → CtV l E (CFc E) L0 0 0 yX12_readExpression cX12_readExpression 3 none [.ref b0, .int b1] st post) (a0 : Nat) (a1 : Int32)  {post : St → Prop}   (x2 : Int32) (s0 : Int32) (st : St) (h : P_X12_readNot_79 rc_X12_readExpression a0 a1  post x2 s0 st) : Jg l E (CFc E) (Rm (L0 + 4) 0 0) cX12_readNot 4 RX12 none (fun _ => True) (QV E post 0 0) 0 0 79 [(0, .ref a0), (1, .int a1), (2, .int x2)] [.int s0] st := by
  unfold P_X12_readNot_79 at h
  refine J_istore_n _ dX12_readNot_79 rfl (by decide) rfl ?_
  refine J_aload_n 1 dX12_readNot_80 rfl rfl ?_
  obtain ⟨ho, h⟩ := h
  refine J_cvv (As := []) md_X12_stepOn k_1016 (rc_obj cl_12 ho) rfl rfl ⟨(by simp only [Rm]; omega), (by simp only [Rm]; omega)⟩ ⟨Nat.le_refl _, Nat.le_refl _⟩ (Nat.le_of_ble_eq_true rfl) dX12_readNot_81 (ct_X12_stepOn  h) (fun st_2 h => ?_)
  refine J_aload_n 1 dX12_readNot_84 rfl rfl ?_
  refine J_iload_n 2 dX12_readNot_85 rfl rfl ?_
  obtain ⟨ho, h⟩ := h
  refine J_cvv (As := [_]) md_X12_readSum k_1039 (rc_obj cl_12 ho) rfl rfl ⟨(by simp only [Rm]; omega), (by simp only [Rm]; omega)⟩ ⟨Nat.le_refl _, Nat.le_refl _⟩ (Nat.le_of_ble_eq_true rfl) dX12_readNot_86 (ct_X12_readSum hL0 hrc_X12_readExpression h) (fun st_4 h => ?_)
  refine J_aload_n 1 dX12_readNot_89 rfl rfl ?_
  refine J_iload_n 0 dX12_readNot_90 rfl rfl ?_
  obtain ⟨ho, h⟩ := h
  refine J_cvv (As := [_]) md_X12_lay k_1031 (rc_obj cl_12 ho) rfl rfl ⟨(by simp only [Rm]; omega), (by simp only [Rm]; omega)⟩ ⟨Nat.le_refl _, Nat.le_refl _⟩ (Nat.le_of_ble_eq_true rfl) dX12_readNot_91 (ct_X12_lay  h) (fun st_6 h => ?_)
  exact J_lv [1, 2, 3] rfl (K_X12_readNot_94  hL0 hrc_X12_readExpression a0 a1  x2 st_6 h)
set_option maxRecDepth 100000 in
set_option maxHeartbeats 4000000 in
theorem K_X12_readNot_63 {l : Launch} {E : En}  {L0 : Nat} (hL0 : 16 ≤ L0) {rc_X12_readExpression : Nat → Int32 → St → (St → Prop) → Prop} (hrc_X12_readExpression : ∀ {b0 : Nat} {b1 : Int32} {st : St} {post : St → Prop}, rc_X12_readExpression b0 b1 st post → CtV l E (CFc E) L0 0 0 yX12_readExpression cX12_readExpression 3 none [.ref b0, .int b1] st post) (a0 : Nat) (a1 : Int32)  {post : St → Prop}   (x2 : Int32) (st : St) (h : P_X12_readNot_63 rc_X12_readExpression a0 a1  post x2 st) : Jg l E (CFc E) (Rm (L0 + 4) 0 0) cX12_readNot 4 RX12 none (fun _ => True) (QV E post 0 0) 0 0 63 [(0, .ref a0), (1, .int a1), (2, .int x2)] [] st := by
  unfold P_X12_readNot_63 at h
  refine J_aload_n 0 dX12_readNot_63 rfl rfl ?_
  refine J_bipush 60 dX12_readNot_64 (by decide) ?_
  obtain ⟨ho, h⟩ := h
  refine J_cvi (As := [_]) md_X12_isMarked k_1010 (rc_obj cl_12 ho) rfl rfl ⟨(by simp only [Rm]; omega), (by simp only [Rm]; omega)⟩ ⟨Nat.le_refl _, Nat.le_refl _⟩ (Nat.le_of_ble_eq_true rfl) dX12_readNot_66 (ct_X12_isMarked  h) (fun z_1 st_2 h => ?_)
  refine J_if_eq 77 dX12_readNot_69 (by decide) (fun hc => ?_) (fun hc => ?_)
  · have h := h.1 hc
    refine J_bipush (-25) dX12_readNot_77 (by decide) ?_
    exact J_lv [0, 1, 2] rfl (K_X12_readNot_79  hL0 hrc_X12_readExpression a0 a1  x2 (-25) st_2 h)
  · have h := h.2 hc
    refine J_bipush (-24) dX12_readNot_72 (by decide) ?_
    refine J_goto 79 dX12_readNot_74 (by decide) ?_
    exact J_lv [0, 1, 2] rfl (K_X12_readNot_79  hL0 hrc_X12_readExpression a0 a1  x2 (-24) st_2 h)
set_option maxRecDepth 100000 in
set_option maxHeartbeats 4000000 in
theorem K_X12_readNot_23 {l : Launch} {E : En}  {L0 : Nat} (hL0 : 16 ≤ L0) {rc_X12_readExpression : Nat → Int32 → St → (St → Prop) → Prop} (hrc_X12_readExpression : ∀ {b0 : Nat} {b1 : Int32} {st : St} {post : St → Prop}, rc_X12_readExpression b0 b1 st post → CtV l E (CFc E) L0 0 0 yX12_readExpression cX12_readExpression 3 none [.ref b0, .int b1] st post) (a0 : Nat) (a1 : Int32) {k2 : Int32 → St → Prop} {post : St → Prop}  (hk2 : ∀ (x2 : Int32) (st : St), k2 x2 st → Jg l E (CFc E) (Rm (L0 + 4) 0 0) cX12_readNot 4 RX12 none (fun _ => True) (QV E post 0 0) 0 0 2 [(0, .ref a0), (1, .int a1), (2, .int x2)] [] st) (x2 : Int32) (st : St) (h : P_X12_readNot_23 rc_X12_readExpression a0 a1 k2 post x2 st) : Jg l E (CFc E) (Rm (L0 + 4) 0 0) cX12_readNot 4 RX12 none (fun _ => True) (QV E post 0 0) 0 0 23 [(0, .ref a0), (1, .int a1), (2, .int x2)] [] st := by
  unfold P_X12_readNot_23 at h
  refine J_iinc 2 (x2 + 1) _ dX12_readNot_23 rfl (by rfl) (by decide) rfl ?_
  refine J_aload_n 1 dX12_readNot_26 rfl rfl ?_
  obtain ⟨hf, h⟩ := h
  refine J_getI fl_RX12_233 dX12_readNot_27 hf ?_
  refine J_if_ne 2 dX12_readNot_30 (by decide) (fun hc => ?_) (fun hc => ?_)
  · have h := h.1 hc
    exact J_lv [1, 2, 0] rfl (hk2 (x2 + 1) st h)
  · have h := h.2 hc
    refine J_aload_n 1 dX12_readNot_33 rfl rfl ?_
    obtain ⟨ho, h⟩ := h
    refine J_cvv (As := []) md_X12_stepOn k_1016 (rc_obj cl_12 ho) rfl rfl ⟨(by simp only [Rm]; omega), (by simp only [Rm]; omega)⟩ ⟨Nat.le_refl _, Nat.le_refl _⟩ (Nat.le_of_ble_eq_true rfl) dX12_readNot_34 (ct_X12_stepOn  h) (fun st_2 h => ?_)
    refine J_goto 2 dX12_readNot_37 (by decide) ?_
    exact J_lv [1, 2, 0] rfl (hk2 (x2 + 1) st_2 h)
set_option maxRecDepth 100000 in
set_option maxHeartbeats 4000000 in
theorem K_X12_readNot_2 {l : Launch} {E : En}  {L0 : Nat} (hL0 : 16 ≤ L0) {rc_X12_readExpression : Nat → Int32 → St → (St → Prop) → Prop} (hrc_X12_readExpression : ∀ {b0 : Nat} {b1 : Int32} {st : St} {post : St → Prop}, rc_X12_readExpression b0 b1 st post → CtV l E (CFc E) L0 0 0 yX12_readExpression cX12_readExpression 3 none [.ref b0, .int b1] st post) (a0 : Nat) (a1 : Int32)  {post : St → Prop}   : ∀ (n9 : Nat) (x2 : Int32) (st : St), P_X12_readNot_2 rc_X12_readExpression a0 a1  post n9 x2 st → Jg l E (CFc E) (Rm (L0 + 4) 0 0) cX12_readNot 4 RX12 none (fun _ => True) (QV E post 0 0) 0 0 2 [(0, .ref a0), (1, .int a1), (2, .int x2)] [] st := by
  intro n9
  induction n9 with
  | zero => intro x2 st h; exact h.elim
  | succ n9 ih =>
    intro x2 st h
    unfold P_X12_readNot_2 at h
    refine J_aload_n 0 dX12_readNot_2 rfl rfl ?_
    refine J_ldSw ld_RX12_290 dX12_readNot_3 ?_
    obtain ⟨ho, h⟩ := h
    refine J_cvi (As := [_]) md_X12_is k_1005 (rc_obj cl_12 ho) rfl rfl ⟨(by simp only [Rm]; omega), (by simp only [Rm]; omega)⟩ ⟨Nat.le_refl _, Nat.le_refl _⟩ (Nat.le_of_ble_eq_true rfl) dX12_readNot_6 (ct_X12_is  h) (fun z_1 st_2 h => ?_)
    refine J_if_eq 40 dX12_readNot_9 (by decide) (fun hc => ?_) (fun hc => ?_)
    · have h := h.1 hc
      refine J_aload_n 0 dX12_readNot_40 rfl rfl ?_
      refine J_iload_n 1 dX12_readNot_41 rfl rfl ?_
      obtain ⟨ho, h⟩ := h
      refine J_cvv (As := [_]) md_X12_readSum k_1039 (rc_obj cl_12 ho) rfl rfl ⟨(by simp only [Rm]; omega), (by simp only [Rm]; omega)⟩ ⟨Nat.le_refl _, Nat.le_refl _⟩ (Nat.le_of_ble_eq_true rfl) dX12_readNot_42 (ct_X12_readSum hL0 hrc_X12_readExpression h) (fun st_4 h => ?_)
      refine J_aload_n 0 dX12_readNot_45 rfl rfl ?_
      refine J_bipush 60 dX12_readNot_46 (by decide) ?_
      obtain ⟨ho, h⟩ := h
      refine J_cvi (As := [_]) md_X12_isMarked k_1010 (rc_obj cl_12 ho) rfl rfl ⟨(by simp only [Rm]; omega), (by simp only [Rm]; omega)⟩ ⟨Nat.le_refl _, Nat.le_refl _⟩ (Nat.le_of_ble_eq_true rfl) dX12_readNot_48 (ct_X12_isMarked  h) (fun z_5 st_6 h => ?_)
      refine J_if_ne 63 dX12_readNot_51 (by decide) (fun hc => ?_) (fun hc => ?_)
      · have h := h.1 hc
        exact J_lv [0, 1, 2] rfl (K_X12_readNot_63  hL0 hrc_X12_readExpression a0 a1  x2 st_6 h)
      · have h := h.2 hc
        refine J_aload_n 0 dX12_readNot_54 rfl rfl ?_
        refine J_bipush 61 dX12_readNot_55 (by decide) ?_
        obtain ⟨ho, h⟩ := h
        refine J_cvi (As := [_]) md_X12_isMarked k_1010 (rc_obj cl_12 ho) rfl rfl ⟨(by simp only [Rm]; omega), (by simp only [Rm]; omega)⟩ ⟨Nat.le_refl _, Nat.le_refl _⟩ (Nat.le_of_ble_eq_true rfl) dX12_readNot_57 (ct_X12_isMarked  h) (fun z_7 st_8 h => ?_)
        refine J_if_eq 94 dX12_readNot_60 (by decide) (fun hc => ?_) (fun hc => ?_)
        · have h := h.1 hc
          exact J_lv [0, 1, 2] rfl (K_X12_readNot_94  hL0 hrc_X12_readExpression a0 a1  x2 st_8 h)
        · have h := h.2 hc
          exact J_lv [0, 1, 2] rfl (K_X12_readNot_63  hL0 hrc_X12_readExpression a0 a1  x2 st_8 h)
    · have h := h.2 hc
      refine J_iload_n 2 dX12_readNot_12 rfl rfl ?_
      refine J_bipush 6 dX12_readNot_13 (by decide) ?_
      refine J_icmp_ne 23 dX12_readNot_15 (by decide) (fun hc => ?_) (fun hc => ?_)
      · have h := h.1 hc
        exact J_lv [0, 1, 2] rfl (K_X12_readNot_23  hL0 hrc_X12_readExpression a0 a1 (fun x2 st h => ih x2 st h) x2 st_2 h)
      · have h := h.2 hc
        refine J_aload_n 0 dX12_readNot_18 rfl rfl ?_
        refine J_iconst 2 dX12_readNot_19 (by decide) ?_
        obtain ⟨ho, h⟩ := h
        refine J_cvv (As := [_]) md_X12_wrong k_1013 (rc_obj cl_12 ho) rfl rfl ⟨(by simp only [Rm]; omega), (by simp only [Rm]; omega)⟩ ⟨Nat.le_refl _, Nat.le_refl _⟩ (Nat.le_of_ble_eq_true rfl) dX12_readNot_20 (ct_X12_wrong  h) (fun st_10 h => ?_)
        exact J_lv [0, 1, 2] rfl (K_X12_readNot_23  hL0 hrc_X12_readExpression a0 a1 (fun x2 st h => ih x2 st h) x2 st_10 h)
set_option maxRecDepth 100000 in
set_option maxHeartbeats 4000000 in
theorem ct_X12_readNot {l : Launch} {E : En} {L0 : Nat} (hL0 : 16 ≤ L0) {rc_X12_readExpression : Nat → Int32 → St → (St → Prop) → Prop} (hrc_X12_readExpression : ∀ {b0 : Nat} {b1 : Int32} {st : St} {post : St → Prop}, rc_X12_readExpression b0 b1 st post → CtV l E (CFc E) L0 0 0 yX12_readExpression cX12_readExpression 3 none [.ref b0, .int b1] st post) {a0 : Nat} {a1 : Int32} {st : St} {post : St → Prop} (h : P_X12_readNot rc_X12_readExpression a0 a1 st post) : CtV l E (CFc E) (L0 + 4) 0 0 yX12_readNot cX12_readNot 4 none [.ref a0, .int a1] st post := by
  refine ctV_of (by decide) (Nat.le_of_ble_eq_true rfl) ?_
  show Jg l E (CFc E) (Rm (L0 + 4) 0 0) cX12_readNot 4 RX12 none (fun _ => True) (QV E post 0 0) 0 0 0 [(0, .ref a0), (1, .int a1)] [] st
  unfold P_X12_readNot at h
  refine J_iconst 0 dX12_readNot_0 (by decide) ?_
  refine J_istore_n _ dX12_readNot_1 rfl (by decide) rfl ?_
  obtain ⟨n8, h⟩ := h
  exact J_lv [1, 2, 0] rfl (K_X12_readNot_2  hL0 hrc_X12_readExpression a0 a1  n8 0 st h)
/-! X12_readAnd -/
def P_X12_readAnd_5 (rc_X12_readExpression : Nat → Int32 → St → (St → Prop) → Prop) (a0 : Nat) (a1 : Int32)  (post : St → Prop) : Nat → St → Prop
  | 0, _ => False
  | n9 + 1, st => oC a0 12 ∧ P_X12_is  a0 2009 st (fun z_1 st_2 => ((z_1 = 0 → post st_2) ∧ (¬ z_1 = 0 → oC a0 12 ∧ P_X12_stepOn  a0 st_2 (fun st_4 => oC a0 12 ∧ P_X12_readNot rc_X12_readExpression a0 a1 st_4 (fun st_6 => oC a0 12 ∧ P_X12_lay  a0 (-26) st_6 (fun st_8 => P_X12_readAnd_5 rc_X12_readExpression a0 a1  post n9 st_8))))))
def P_X12_readAnd (rc_X12_readExpression : Nat → Int32 → St → (St → Prop) → Prop) (a0 : Nat) (a1 : Int32) (st : St) (post : St → Prop) : Prop := oC a0 12 ∧ P_X12_readNot rc_X12_readExpression a0 a1 st (fun st_2 => ∃ n8, P_X12_readAnd_5 rc_X12_readExpression a0 a1  post n8 st_2)
set_option maxRecDepth 100000 in
set_option maxHeartbeats 4000000 in
theorem K_X12_readAnd_5 {l : Launch} {E : En}  {L0 : Nat} (hL0 : 16 ≤ L0) {rc_X12_readExpression : Nat → Int32 → St → (St → Prop) → Prop} (hrc_X12_readExpression : ∀ {b0 : Nat} {b1 : Int32} {st : St} {post : St → Prop}, rc_X12_readExpression b0 b1 st post → CtV l E (CFc E) L0 0 0 yX12_readExpression cX12_readExpression 3 none [.ref b0, .int b1] st post) (a0 : Nat) (a1 : Int32)  {post : St → Prop}   : ∀ (n9 : Nat)  (st : St), P_X12_readAnd_5 rc_X12_readExpression a0 a1  post n9  st → Jg l E (CFc E) (Rm (L0 + 5) 0 0) cX12_readAnd 2 RX12 none (fun _ => True) (QV E post 0 0) 0 0 5 [(0, .ref a0), (1, .int a1)] [] st := by
  intro n9
  induction n9 with
  | zero => intro  st h; exact h.elim
  | succ n9 ih =>
    intro  st h
    unfold P_X12_readAnd_5 at h
    refine J_aload_n 0 dX12_readAnd_5 rfl rfl ?_
    refine J_ldSw ld_RX12_298 dX12_readAnd_6 ?_
    obtain ⟨ho, h⟩ := h
    refine J_cvi (As := [_]) md_X12_is k_1005 (rc_obj cl_12 ho) rfl rfl ⟨(by simp only [Rm]; omega), (by simp only [Rm]; omega)⟩ ⟨Nat.le_refl _, Nat.le_refl _⟩ (Nat.le_of_ble_eq_true rfl) dX12_readAnd_9 (ct_X12_is  h) (fun z_1 st_2 h => ?_)
    refine J_if_eq 33 dX12_readAnd_12 (by decide) (fun hc => ?_) (fun hc => ?_)
    · have h := h.1 hc
      exact J_retv rfl dX12_readAnd_33 h
    · have h := h.2 hc
      refine J_aload_n 0 dX12_readAnd_15 rfl rfl ?_
      obtain ⟨ho, h⟩ := h
      refine J_cvv (As := []) md_X12_stepOn k_1016 (rc_obj cl_12 ho) rfl rfl ⟨(by simp only [Rm]; omega), (by simp only [Rm]; omega)⟩ ⟨Nat.le_refl _, Nat.le_refl _⟩ (Nat.le_of_ble_eq_true rfl) dX12_readAnd_16 (ct_X12_stepOn  h) (fun st_4 h => ?_)
      refine J_aload_n 0 dX12_readAnd_19 rfl rfl ?_
      refine J_iload_n 1 dX12_readAnd_20 rfl rfl ?_
      obtain ⟨ho, h⟩ := h
      refine J_cvv (As := [_]) md_X12_readNot k_1028 (rc_obj cl_12 ho) rfl rfl ⟨(by simp only [Rm]; omega), (by simp only [Rm]; omega)⟩ ⟨Nat.le_refl _, Nat.le_refl _⟩ (Nat.le_of_ble_eq_true rfl) dX12_readAnd_21 (ct_X12_readNot hL0 hrc_X12_readExpression h) (fun st_6 h => ?_)
      refine J_aload_n 0 dX12_readAnd_24 rfl rfl ?_
      refine J_bipush (-26) dX12_readAnd_25 (by decide) ?_
      obtain ⟨ho, h⟩ := h
      refine J_cvv (As := [_]) md_X12_lay k_1031 (rc_obj cl_12 ho) rfl rfl ⟨(by simp only [Rm]; omega), (by simp only [Rm]; omega)⟩ ⟨Nat.le_refl _, Nat.le_refl _⟩ (Nat.le_of_ble_eq_true rfl) dX12_readAnd_27 (ct_X12_lay  h) (fun st_8 h => ?_)
      refine J_goto 5 dX12_readAnd_30 (by decide) ?_
      exact J_lv [0, 1] rfl (ih st_8 h)
set_option maxRecDepth 100000 in
set_option maxHeartbeats 4000000 in
theorem ct_X12_readAnd {l : Launch} {E : En} {L0 : Nat} (hL0 : 16 ≤ L0) {rc_X12_readExpression : Nat → Int32 → St → (St → Prop) → Prop} (hrc_X12_readExpression : ∀ {b0 : Nat} {b1 : Int32} {st : St} {post : St → Prop}, rc_X12_readExpression b0 b1 st post → CtV l E (CFc E) L0 0 0 yX12_readExpression cX12_readExpression 3 none [.ref b0, .int b1] st post) {a0 : Nat} {a1 : Int32} {st : St} {post : St → Prop} (h : P_X12_readAnd rc_X12_readExpression a0 a1 st post) : CtV l E (CFc E) (L0 + 5) 0 0 yX12_readAnd cX12_readAnd 2 none [.ref a0, .int a1] st post := by
  refine ctV_of (by decide) (Nat.le_of_ble_eq_true rfl) ?_
  show Jg l E (CFc E) (Rm (L0 + 5) 0 0) cX12_readAnd 2 RX12 none (fun _ => True) (QV E post 0 0) 0 0 0 [(0, .ref a0), (1, .int a1)] [] st
  unfold P_X12_readAnd at h
  refine J_aload_n 0 dX12_readAnd_0 rfl rfl ?_
  refine J_iload_n 1 dX12_readAnd_1 rfl rfl ?_
  obtain ⟨ho, h⟩ := h
  refine J_cvv (As := [_]) md_X12_readNot k_1028 (rc_obj cl_12 ho) rfl rfl ⟨(by simp only [Rm]; omega), (by simp only [Rm]; omega)⟩ ⟨Nat.le_refl _, Nat.le_refl _⟩ (Nat.le_of_ble_eq_true rfl) dX12_readAnd_2 (ct_X12_readNot hL0 hrc_X12_readExpression h) (fun st_2 h => ?_)
  obtain ⟨n8, h⟩ := h
  exact J_lv [0, 1] rfl (K_X12_readAnd_5  hL0 hrc_X12_readExpression a0 a1  n8 st_2 h)
/-! X12_readExpression -/
def P_X12_readExpression_67 (rc_X12_readExpression : Nat → Int32 → St → (St → Prop) → Prop) (a0 : Nat) (a1 : Int32)  (post : St → Prop) : Nat → St → Prop
  | 0, _ => False
  | n9 + 1, st => oC a0 12 ∧ P_X12_is  a0 2008 st (fun z_1 st_2 => ((z_1 = 0 → post st_2) ∧ (¬ z_1 = 0 → oC a0 12 ∧ P_X12_stepOn  a0 st_2 (fun st_4 => oC a0 12 ∧ P_X12_readAnd rc_X12_readExpression a0 a1 st_4 (fun st_6 => oC a0 12 ∧ P_X12_lay  a0 (-27) st_6 (fun st_8 => P_X12_readExpression_67 rc_X12_readExpression a0 a1  post n9 st_8))))))
def P_X12_readExpression_62 (rc_X12_readExpression : Nat → Int32 → St → (St → Prop) → Prop) (a0 : Nat) (a1 : Int32)  (post : St → Prop)  (st : St) : Prop := oC a0 12 ∧ P_X12_readAnd rc_X12_readExpression a0 a1 st (fun st_2 => ∃ n8, P_X12_readExpression_67 rc_X12_readExpression a0 a1  post n8 st_2)
def P_X12_readExpression_38 (rc_X12_readExpression : Nat → Int32 → St → (St → Prop) → Prop) (a0 : Nat) (a1 : Int32)  (post : St → Prop) (s0 : Int32) (st : St) : Prop := ((¬ s0 = 0 → ((¬ a1 = 6 → P_X12_readExpression_62 rc_X12_readExpression a0 a1  post st) ∧ (a1 = 6 → oC a0 12 ∧ P_X12_wrong  a0 2 st (fun st_2 => P_X12_readExpression_62 rc_X12_readExpression a0 a1  post st_2)))) ∧ (s0 = 0 → oC a0 12 ∧ P_X12_wrong  a0 1 st (fun st_4 => P_X12_readExpression_62 rc_X12_readExpression a0 a1  post st_4)))
def P_X12_readExpression_33 (rc_X12_readExpression : Nat → Int32 → St → (St → Prop) → Prop) (a0 : Nat) (a1 : Int32)  (post : St → Prop)  (st : St) : Prop := P_X12_readExpression_38 rc_X12_readExpression a0 a1  post 1 st
def P_X12_readExpression (rc_X12_readExpression : Nat → Int32 → St → (St → Prop) → Prop) (a0 : Nat) (a1 : Int32) (st : St) (post : St → Prop) : Prop := fk a0 12 23 = some 0 ∧ (((gI st a0 23) = 0 → fk a0 12 19 = some 0 ∧ (((gI st a0 19) = 2 → P_X12_readExpression_33 rc_X12_readExpression a0 a1  post st) ∧ (¬ (gI st a0 19) = 2 → fk a0 12 19 = some 0 ∧ (((gI st a0 19) = 1 → P_X12_readExpression_33 rc_X12_readExpression a0 a1  post st) ∧ (¬ (gI st a0 19) = 1 → oC a0 12 ∧ P_X12_isMarked  a0 40 st (fun z_1 st_2 => ((z_1 = 0 → P_X12_readExpression_38 rc_X12_readExpression a0 a1  post 0 st_2) ∧ (¬ z_1 = 0 → P_X12_readExpression_33 rc_X12_readExpression a0 a1  post st_2)))))))) ∧ (¬ (gI st a0 23) = 0 → post st))
set_option maxRecDepth 100000 in
set_option maxHeartbeats 4000000 in
theorem K_X12_readExpression_67 {l : Launch} {E : En}  {L0 : Nat} (hL0 : 16 ≤ L0) {rc_X12_readExpression : Nat → Int32 → St → (St → Prop) → Prop} (hrc_X12_readExpression : ∀ {b0 : Nat} {b1 : Int32} {st : St} {post : St → Prop}, rc_X12_readExpression b0 b1 st post → CtV l E (CFc E) L0 0 0 yX12_readExpression cX12_readExpression 3 none [.ref b0, .int b1] st post) (a0 : Nat) (a1 : Int32)  {post : St → Prop}   : ∀ (n9 : Nat)  (st : St), P_X12_readExpression_67 rc_X12_readExpression a0 a1  post n9  st → Jg l E (CFc E) (Rm (L0 + 6) 0 0) cX12_readExpression 3 RX12 none (fun _ => True) (QV E post 0 0) 0 0 67 [(0, .ref a0), (1, .int a1)] [] st := by
  intro n9
  induction n9 with
  | zero => intro  st h; exact h.elim
  | succ n9 ih =>
    intro  st h
    unfold P_X12_readExpression_67 at h
    refine J_aload_n 0 dX12_readExpression_67 rfl rfl ?_
    refine J_ldSw ld_RX12_303 dX12_readExpression_68 ?_
    obtain ⟨ho, h⟩ := h
    refine J_cvi (As := [_]) md_X12_is k_1005 (rc_obj cl_12 ho) rfl rfl ⟨(by simp only [Rm]; omega), (by simp only [Rm]; omega)⟩ ⟨Nat.le_refl _, Nat.le_refl _⟩ (Nat.le_of_ble_eq_true rfl) dX12_readExpression_71 (ct_X12_is  h) (fun z_1 st_2 h => ?_)
    refine J_if_eq 95 dX12_readExpression_74 (by decide) (fun hc => ?_) (fun hc => ?_)
    · have h := h.1 hc
      exact J_retv rfl dX12_readExpression_95 h
    · have h := h.2 hc
      refine J_aload_n 0 dX12_readExpression_77 rfl rfl ?_
      obtain ⟨ho, h⟩ := h
      refine J_cvv (As := []) md_X12_stepOn k_1016 (rc_obj cl_12 ho) rfl rfl ⟨(by simp only [Rm]; omega), (by simp only [Rm]; omega)⟩ ⟨Nat.le_refl _, Nat.le_refl _⟩ (Nat.le_of_ble_eq_true rfl) dX12_readExpression_78 (ct_X12_stepOn  h) (fun st_4 h => ?_)
      refine J_aload_n 0 dX12_readExpression_81 rfl rfl ?_
      refine J_iload_n 1 dX12_readExpression_82 rfl rfl ?_
      obtain ⟨ho, h⟩ := h
      refine J_cvv (As := [_]) md_X12_readAnd k_1035 (rc_obj cl_12 ho) rfl rfl ⟨(by simp only [Rm]; omega), (by simp only [Rm]; omega)⟩ ⟨Nat.le_refl _, Nat.le_refl _⟩ (Nat.le_of_ble_eq_true rfl) dX12_readExpression_83 (ct_X12_readAnd hL0 hrc_X12_readExpression h) (fun st_6 h => ?_)
      refine J_aload_n 0 dX12_readExpression_86 rfl rfl ?_
      refine J_bipush (-27) dX12_readExpression_87 (by decide) ?_
      obtain ⟨ho, h⟩ := h
      refine J_cvv (As := [_]) md_X12_lay k_1031 (rc_obj cl_12 ho) rfl rfl ⟨(by simp only [Rm]; omega), (by simp only [Rm]; omega)⟩ ⟨Nat.le_refl _, Nat.le_refl _⟩ (Nat.le_of_ble_eq_true rfl) dX12_readExpression_89 (ct_X12_lay  h) (fun st_8 h => ?_)
      refine J_goto 67 dX12_readExpression_92 (by decide) ?_
      exact J_lv [0, 1] rfl (ih st_8 h)
set_option maxRecDepth 100000 in
set_option maxHeartbeats 4000000 in
theorem K_X12_readExpression_62 {l : Launch} {E : En}  {L0 : Nat} (hL0 : 16 ≤ L0) {rc_X12_readExpression : Nat → Int32 → St → (St → Prop) → Prop} (hrc_X12_readExpression : ∀ {b0 : Nat} {b1 : Int32} {st : St} {post : St → Prop}, rc_X12_readExpression b0 b1 st post → CtV l E (CFc E) L0 0 0 yX12_readExpression cX12_readExpression 3 none [.ref b0, .int b1] st post) (a0 : Nat) (a1 : Int32)  {post : St → Prop}    (st : St) (h : P_X12_readExpression_62 rc_X12_readExpression a0 a1  post  st) : Jg l E (CFc E) (Rm (L0 + 6) 0 0) cX12_readExpression 3 RX12 none (fun _ => True) (QV E post 0 0) 0 0 62 [(0, .ref a0), (1, .int a1)] [] st := by
  unfold P_X12_readExpression_62 at h
  refine J_aload_n 0 dX12_readExpression_62 rfl rfl ?_
  refine J_iload_n 1 dX12_readExpression_63 rfl rfl ?_
  obtain ⟨ho, h⟩ := h
  refine J_cvv (As := [_]) md_X12_readAnd k_1035 (rc_obj cl_12 ho) rfl rfl ⟨(by simp only [Rm]; omega), (by simp only [Rm]; omega)⟩ ⟨Nat.le_refl _, Nat.le_refl _⟩ (Nat.le_of_ble_eq_true rfl) dX12_readExpression_64 (ct_X12_readAnd hL0 hrc_X12_readExpression h) (fun st_2 h => ?_)
  obtain ⟨n8, h⟩ := h
  exact J_lv [0, 1] rfl (K_X12_readExpression_67  hL0 hrc_X12_readExpression a0 a1  n8 st_2 h)
set_option maxRecDepth 100000 in
set_option maxHeartbeats 4000000 in
theorem K_X12_readExpression_38 {l : Launch} {E : En}  {L0 : Nat} (hL0 : 16 ≤ L0) {rc_X12_readExpression : Nat → Int32 → St → (St → Prop) → Prop} (hrc_X12_readExpression : ∀ {b0 : Nat} {b1 : Int32} {st : St} {post : St → Prop}, rc_X12_readExpression b0 b1 st post → CtV l E (CFc E) L0 0 0 yX12_readExpression cX12_readExpression 3 none [.ref b0, .int b1] st post) (a0 : Nat) (a1 : Int32)  {post : St → Prop}   (s0 : Int32) (st : St) (h : P_X12_readExpression_38 rc_X12_readExpression a0 a1  post s0 st) : Jg l E (CFc E) (Rm (L0 + 6) 0 0) cX12_readExpression 3 RX12 none (fun _ => True) (QV E post 0 0) 0 0 38 [(0, .ref a0), (1, .int a1)] [.int s0] st := by
  unfold P_X12_readExpression_38 at h
  refine J_istore_n _ dX12_readExpression_38 rfl (by decide) rfl ?_
  refine J_iload_n 0 dX12_readExpression_39 rfl rfl ?_
  refine J_if_ne 51 dX12_readExpression_40 (by decide) (fun hc => ?_) (fun hc => ?_)
  · have h := h.1 hc
    refine J_iload_n 2 dX12_readExpression_51 rfl rfl ?_
    refine J_bipush 6 dX12_readExpression_52 (by decide) ?_
    refine J_icmp_ne 62 dX12_readExpression_54 (by decide) (fun hc => ?_) (fun hc => ?_)
    · have h := h.1 hc
      exact J_lv [1, 2] rfl (K_X12_readExpression_62  hL0 hrc_X12_readExpression a0 a1  st h)
    · have h := h.2 hc
      refine J_aload_n 1 dX12_readExpression_57 rfl rfl ?_
      refine J_iconst 2 dX12_readExpression_58 (by decide) ?_
      obtain ⟨ho, h⟩ := h
      refine J_cvv (As := [_]) md_X12_wrong k_1013 (rc_obj cl_12 ho) rfl rfl ⟨(by simp only [Rm]; omega), (by simp only [Rm]; omega)⟩ ⟨Nat.le_refl _, Nat.le_refl _⟩ (Nat.le_of_ble_eq_true rfl) dX12_readExpression_59 (ct_X12_wrong  h) (fun st_2 h => ?_)
      exact J_lv [1, 2] rfl (K_X12_readExpression_62  hL0 hrc_X12_readExpression a0 a1  st_2 h)
  · have h := h.2 hc
    refine J_aload_n 1 dX12_readExpression_43 rfl rfl ?_
    refine J_iconst 1 dX12_readExpression_44 (by decide) ?_
    obtain ⟨ho, h⟩ := h
    refine J_cvv (As := [_]) md_X12_wrong k_1013 (rc_obj cl_12 ho) rfl rfl ⟨(by simp only [Rm]; omega), (by simp only [Rm]; omega)⟩ ⟨Nat.le_refl _, Nat.le_refl _⟩ (Nat.le_of_ble_eq_true rfl) dX12_readExpression_45 (ct_X12_wrong  h) (fun st_4 h => ?_)
    refine J_goto 62 dX12_readExpression_48 (by decide) ?_
    exact J_lv [1, 2] rfl (K_X12_readExpression_62  hL0 hrc_X12_readExpression a0 a1  st_4 h)
set_option maxRecDepth 100000 in
set_option maxHeartbeats 4000000 in
theorem K_X12_readExpression_33 {l : Launch} {E : En}  {L0 : Nat} (hL0 : 16 ≤ L0) {rc_X12_readExpression : Nat → Int32 → St → (St → Prop) → Prop} (hrc_X12_readExpression : ∀ {b0 : Nat} {b1 : Int32} {st : St} {post : St → Prop}, rc_X12_readExpression b0 b1 st post → CtV l E (CFc E) L0 0 0 yX12_readExpression cX12_readExpression 3 none [.ref b0, .int b1] st post) (a0 : Nat) (a1 : Int32)  {post : St → Prop}    (st : St) (h : P_X12_readExpression_33 rc_X12_readExpression a0 a1  post  st) : Jg l E (CFc E) (Rm (L0 + 6) 0 0) cX12_readExpression 3 RX12 none (fun _ => True) (QV E post 0 0) 0 0 33 [(0, .ref a0), (1, .int a1)] [] st := by
  unfold P_X12_readExpression_33 at h
  refine J_iconst 1 dX12_readExpression_33 (by decide) ?_
  refine J_goto 38 dX12_readExpression_34 (by decide) ?_
  exact J_lv [0, 1] rfl (K_X12_readExpression_38  hL0 hrc_X12_readExpression a0 a1  1 st h)
set_option maxRecDepth 100000 in
set_option maxHeartbeats 4000000 in
theorem ct_X12_readExpression {l : Launch} {E : En} {L0 : Nat} (hL0 : 16 ≤ L0) {rc_X12_readExpression : Nat → Int32 → St → (St → Prop) → Prop} (hrc_X12_readExpression : ∀ {b0 : Nat} {b1 : Int32} {st : St} {post : St → Prop}, rc_X12_readExpression b0 b1 st post → CtV l E (CFc E) L0 0 0 yX12_readExpression cX12_readExpression 3 none [.ref b0, .int b1] st post) {a0 : Nat} {a1 : Int32} {st : St} {post : St → Prop} (h : P_X12_readExpression rc_X12_readExpression a0 a1 st post) : CtV l E (CFc E) (L0 + 6) 0 0 yX12_readExpression cX12_readExpression 3 none [.ref a0, .int a1] st post := by
  refine ctV_of (by decide) (Nat.le_of_ble_eq_true rfl) ?_
  show Jg l E (CFc E) (Rm (L0 + 6) 0 0) cX12_readExpression 3 RX12 none (fun _ => True) (QV E post 0 0) 0 0 0 [(0, .ref a0), (1, .int a1)] [] st
  unfold P_X12_readExpression at h
  refine J_aload_n 0 dX12_readExpression_0 rfl rfl ?_
  obtain ⟨hf, h⟩ := h
  refine J_getI fl_RX12_233 dX12_readExpression_1 hf ?_
  refine J_if_eq 8 dX12_readExpression_4 (by decide) (fun hc => ?_) (fun hc => ?_)
  · have h := h.1 hc
    refine J_aload_n 0 dX12_readExpression_8 rfl rfl ?_
    obtain ⟨hf, h⟩ := h
    refine J_getI fl_RX12_207 dX12_readExpression_9 hf ?_
    refine J_iconst 2 dX12_readExpression_12 (by decide) ?_
    refine J_icmp_eq 33 dX12_readExpression_13 (by decide) (fun hc => ?_) (fun hc => ?_)
    · have h := h.1 hc
      exact J_lv [0, 1] rfl (K_X12_readExpression_33  hL0 hrc_X12_readExpression a0 a1  st h)
    · have h := h.2 hc
      refine J_aload_n 0 dX12_readExpression_16 rfl rfl ?_
      obtain ⟨hf, h⟩ := h
      refine J_getI fl_RX12_207 dX12_readExpression_17 hf ?_
      refine J_iconst 1 dX12_readExpression_20 (by decide) ?_
      refine J_icmp_eq 33 dX12_readExpression_21 (by decide) (fun hc => ?_) (fun hc => ?_)
      · have h := h.1 hc
        exact J_lv [0, 1] rfl (K_X12_readExpression_33  hL0 hrc_X12_readExpression a0 a1  st h)
      · have h := h.2 hc
        refine J_aload_n 0 dX12_readExpression_24 rfl rfl ?_
        refine J_bipush 40 dX12_readExpression_25 (by decide) ?_
        obtain ⟨ho, h⟩ := h
        refine J_cvi (As := [_]) md_X12_isMarked k_1010 (rc_obj cl_12 ho) rfl rfl ⟨(by simp only [Rm]; omega), (by simp only [Rm]; omega)⟩ ⟨Nat.le_refl _, Nat.le_refl _⟩ (Nat.le_of_ble_eq_true rfl) dX12_readExpression_27 (ct_X12_isMarked  h) (fun z_1 st_2 h => ?_)
        refine J_if_eq 37 dX12_readExpression_30 (by decide) (fun hc => ?_) (fun hc => ?_)
        · have h := h.1 hc
          refine J_iconst 0 dX12_readExpression_37 (by decide) ?_
          exact J_lv [0, 1] rfl (K_X12_readExpression_38  hL0 hrc_X12_readExpression a0 a1  0 st_2 h)
        · have h := h.2 hc
          exact J_lv [0, 1] rfl (K_X12_readExpression_33  hL0 hrc_X12_readExpression a0 a1  st_2 h)
  · have h := h.2 hc
    exact J_retv rfl dX12_readExpression_7 h
def PE_X12_readExpression : Nat → Nat → Int32 → St → (St → Prop) → Prop
  | 0 => fun _ _ _ _ => False
  | g + 1 => fun a0 a1 st post => P_X12_readExpression (PE_X12_readExpression g) a0 a1 st post
theorem ctE_X12_readExpression {l : Launch} {E : En} : ∀ (g : Nat) {a0 : Nat} {a1 : Int32} {st : St} {post : St → Prop}, PE_X12_readExpression g a0 a1 st post → CtV l E (CFc E) (16 + 6 * g) 0 0 yX12_readExpression cX12_readExpression 3 none [.ref a0, .int a1] st post := by
  intro g
  induction g with
  | zero => intro a0 a1 st post h; exact h.elim
  | succ g ih =>
    intro a0 a1 st post h
    exact ct_X12_readExpression (L0 := 16 + 6 * g) (by omega) (fun h => ih h) h
/-! X12_readLine -/
def P_X12_readLine_161  (a0 : Nat) (a1 : Int32)  (post : Int32 → St → Prop) (x3 : Int32) (st : St) : Prop := oC a0 12 ∧ P_X12_mark  a0 59 st (fun st_2 => post (a1 ||| x3) st_2)
def P_X12_readLine_98  (a0 : Nat) (a1 : Int32)  (post : Int32 → St → Prop) (x3 : Int32) (s0 : Nat) (s1 : Nat) (st : St) : Prop := fk s1 12 3 = some 1 ∧ oC a0 12 ∧ PE_X12_readExpression 8 a0 0 (sR st s1 3 (some s0)) (fun st_2 => P_X12_readLine_161  a0 a1  post x3 st_2)
def P_X12_readLine_76  (a0 : Nat) (a1 : Int32)  (post : Int32 → St → Prop) (x3 : Int32) (s0 : Int32) (s1 : Nat) (st : St) : Prop := (s0 = 0 ∨ s0 = 1) ∧ fk s1 12 26 = some 0 ∧ fk a0 12 26 = some 0 ∧ (((gI (sI st s1 26 s0) a0 26) = 0 → ∃ r_1, rv (sI st s1 26 s0) a0 12 1 = some r_1 ∧ P_X12_readLine_98  a0 a1  post x3 r_1 a0 (sI st s1 26 s0)) ∧ (¬ (gI (sI st s1 26 s0) a0 26) = 0 → ∃ r_2, rv (sI st s1 26 s0) a0 12 2 = some r_2 ∧ P_X12_readLine_98  a0 a1  post x3 r_2 a0 (sI st s1 26 s0)))
def P_X12_readLine_65  (a0 : Nat) (a1 : Int32)  (post : Int32 → St → Prop) (x3 : Int32) (st : St) : Prop := ((¬ x3 = 2 → P_X12_readLine_76  a0 a1  post x3 0 a0 st) ∧ (x3 = 2 → P_X12_readLine_76  a0 a1  post x3 1 a0 st))
def P_X12_readLine_50  (a0 : Nat) (a1 : Int32)  (post : Int32 → St → Prop) (x2 : Int32) (x3 : Int32) (st : St) : Prop := ((x3 ≤ 0 → ((x2 = (-1) → oC a0 12 ∧ P_X12_is  a0 2004 st (fun z_1 st_2 => ((z_1 = 0 → oC a0 12 ∧ P_X12_is  a0 2005 st_2 (fun z_3 st_4 => ((z_3 = 0 → oC a0 12 ∧ P_X12_wrong  a0 1 st_4 (fun st_6 => P_X12_readLine_161  a0 a1  post x3 st_6)) ∧ (¬ z_3 = 0 → oC a0 12 ∧ P_X12_sayTie  a0 st_4 (fun st_8 => P_X12_readLine_161  a0 a1  post x3 st_8))))) ∧ (¬ z_1 = 0 → oC a0 12 ∧ P_X12_sayBride  a0 st_2 (fun st_10 => P_X12_readLine_161  a0 a1  post x3 st_10))))) ∧ (¬ x2 = (-1) → oC a0 12 ∧ P_X12_sayPerson  a0 x2 st (fun st_12 => P_X12_readLine_161  a0 a1  post x3 st_12)))) ∧ (¬ x3 ≤ 0 → fk a0 12 23 = some 0 ∧ ((¬ (gI st a0 23) = 0 → P_X12_readLine_65  a0 a1  post x3 st) ∧ ((gI st a0 23) = 0 → oC a0 12 ∧ P_X12_stepOn  a0 st (fun st_14 => P_X12_readLine_65  a0 a1  post x3 st_14)))))
def P_X12_readLine_38  (a0 : Nat) (a1 : Int32)  (post : Int32 → St → Prop) (x2 : Int32) (s0 : Int32) (st : St) : Prop := (((s0 &&& a1) = 0 → P_X12_readLine_50  a0 a1  post x2 s0 st) ∧ (¬ (s0 &&& a1) = 0 → oC a0 12 ∧ P_X12_wrong  a0 5 st (fun st_2 => P_X12_readLine_50  a0 a1  post x2 s0 st_2)))
def P_X12_readLine  (a0 : Nat) (a1 : Int32) (st : St) (post : Int32 → St → Prop) : Prop := ∃ r_1, rv st a0 12 0 = some r_1 ∧ oC a0 12 ∧ P_X12_which  a0 r_1 st (fun z_2 st_3 => oC a0 12 ∧ P_X12_is  a0 2006 st_3 (fun z_4 st_5 => ((z_4 = 0 → oC a0 12 ∧ P_X12_is  a0 2007 st_5 (fun z_6 st_7 => ((z_6 = 0 → P_X12_readLine_38  a0 a1  post z_2 0 st_7) ∧ (¬ z_6 = 0 → P_X12_readLine_38  a0 a1  post z_2 2 st_7)))) ∧ (¬ z_4 = 0 → P_X12_readLine_38  a0 a1  post z_2 1 st_5))))
set_option maxRecDepth 100000 in
set_option maxHeartbeats 4000000 in
theorem K_X12_readLine_161 {l : Launch} {E : En}   (a0 : Nat) (a1 : Int32)  {post : Int32 → St → Prop}   (x3 : Int32) (st : St) (h : P_X12_readLine_161  a0 a1  post x3 st) : Jg l E (CFc E) (Rm 81 0 0) cX12_readLine 4 RX12 (some .int) (fun _ => True) (QI E post 0 0) 0 0 161 [(0, .ref a0), (1, .int a1), (3, .int x3)] [] st := by
  unfold P_X12_readLine_161 at h
  refine J_aload_n 0 dX12_readLine_161 rfl rfl ?_
  refine J_bipush 59 dX12_readLine_162 (by decide) ?_
  obtain ⟨ho, h⟩ := h
  refine J_cvv (As := [_]) md_X12_mark k_1049 (rc_obj cl_12 ho) rfl rfl ⟨Nat.le_of_ble_eq_true rfl, Nat.le_of_ble_eq_true rfl⟩ ⟨Nat.le_of_ble_eq_true rfl, Nat.le_of_ble_eq_true rfl⟩ (Nat.le_of_ble_eq_true rfl) dX12_readLine_164 (ct_X12_mark  h) (fun st_2 h => ?_)
  refine J_iload_n 1 dX12_readLine_167 rfl rfl ?_
  refine J_iload_n 2 dX12_readLine_168 rfl rfl ?_
  refine J_ior dX12_readLine_169 ?_
  exact J_reti rfl dX12_readLine_170 h
set_option maxRecDepth 100000 in
set_option maxHeartbeats 4000000 in
theorem K_X12_readLine_98 {l : Launch} {E : En}   (a0 : Nat) (a1 : Int32)  {post : Int32 → St → Prop}   (x3 : Int32) (s0 : Nat) (s1 : Nat) (st : St) (h : P_X12_readLine_98  a0 a1  post x3 s0 s1 st) : Jg l E (CFc E) (Rm 81 0 0) cX12_readLine 4 RX12 (some .int) (fun _ => True) (QI E post 0 0) 0 0 98 [(0, .ref a0), (1, .int a1), (3, .int x3)] [.ref s0, .ref s1] st := by
  unfold P_X12_readLine_98 at h
  obtain ⟨hf, h⟩ := h
  refine J_putQ (v := (some s0)) fp_RX12_45 dX12_readLine_98 (Or.inr ⟨_, rfl⟩) hf ?_
  refine J_aload_n 0 dX12_readLine_101 rfl rfl ?_
  refine J_iconst 0 dX12_readLine_102 (by decide) ?_
  obtain ⟨ho, h⟩ := h
  refine J_cvv (As := [_]) md_X12_readExpression k_1052 (rc_obj cl_12 ho) rfl rfl ⟨Nat.le_of_ble_eq_true rfl, Nat.le_of_ble_eq_true rfl⟩ ⟨Nat.le_of_ble_eq_true rfl, Nat.le_of_ble_eq_true rfl⟩ (Nat.le_of_ble_eq_true rfl) dX12_readLine_103 (ctE_X12_readExpression 8 h) (fun st_2 h => ?_)
  refine J_goto 161 dX12_readLine_106 (by decide) ?_
  exact J_lv [0, 1, 2] rfl (K_X12_readLine_161   a0 a1  x3 st_2 h)
set_option maxRecDepth 100000 in
set_option maxHeartbeats 4000000 in
theorem K_X12_readLine_76 {l : Launch} {E : En}   (a0 : Nat) (a1 : Int32)  {post : Int32 → St → Prop}   (x3 : Int32) (s0 : Int32) (s1 : Nat) (st : St) (h : P_X12_readLine_76  a0 a1  post x3 s0 s1 st) : Jg l E (CFc E) (Rm 81 0 0) cX12_readLine 4 RX12 (some .int) (fun _ => True) (QI E post 0 0) 0 0 76 [(0, .ref a0), (1, .int a1), (3, .int x3)] [.int s0, .ref s1] st := by
  unfold P_X12_readLine_76 at h
  obtain ⟨hb, hf, h⟩ := h
  refine J_putZ fp_RX12_264 dX12_readLine_76 rfl hb hf ?_
  refine J_aload_n 0 dX12_readLine_79 rfl rfl ?_
  refine J_aload_n 0 dX12_readLine_80 rfl rfl ?_
  obtain ⟨hf, h⟩ := h
  refine J_getI fl_RX12_264 dX12_readLine_81 hf ?_
  refine J_if_eq 94 dX12_readLine_84 (by decide) (fun hc => ?_) (fun hc => ?_)
  · have h := h.1 hc
    refine J_aload_n 0 dX12_readLine_94 rfl rfl ?_
    obtain ⟨r_1, hf, h⟩ := h
    refine J_getR fl_RX12_39 dX12_readLine_95 hf ?_
    exact J_lv [0, 1, 2] rfl (K_X12_readLine_98   a0 a1  x3 r_1 a0 (sI st s1 26 s0) h)
  · have h := h.2 hc
    refine J_aload_n 0 dX12_readLine_87 rfl rfl ?_
    obtain ⟨r_2, hf, h⟩ := h
    refine J_getR fl_RX12_42 dX12_readLine_88 hf ?_
    refine J_goto 98 dX12_readLine_91 (by decide) ?_
    exact J_lv [0, 1, 2] rfl (K_X12_readLine_98   a0 a1  x3 r_2 a0 (sI st s1 26 s0) h)
set_option maxRecDepth 100000 in
set_option maxHeartbeats 4000000 in
theorem K_X12_readLine_65 {l : Launch} {E : En}   (a0 : Nat) (a1 : Int32)  {post : Int32 → St → Prop}   (x3 : Int32) (st : St) (h : P_X12_readLine_65  a0 a1  post x3 st) : Jg l E (CFc E) (Rm 81 0 0) cX12_readLine 4 RX12 (some .int) (fun _ => True) (QI E post 0 0) 0 0 65 [(0, .ref a0), (1, .int a1), (3, .int x3)] [] st := by
  unfold P_X12_readLine_65 at h
  refine J_aload_n 0 dX12_readLine_65 rfl rfl ?_
  refine J_iload_n 2 dX12_readLine_66 rfl rfl ?_
  refine J_iconst 2 dX12_readLine_67 (by decide) ?_
  refine J_icmp_ne 75 dX12_readLine_68 (by decide) (fun hc => ?_) (fun hc => ?_)
  · have h := h.1 hc
    refine J_iconst 0 dX12_readLine_75 (by decide) ?_
    exact J_lv [0, 1, 2] rfl (K_X12_readLine_76   a0 a1  x3 0 a0 st h)
  · have h := h.2 hc
    refine J_iconst 1 dX12_readLine_71 (by decide) ?_
    refine J_goto 76 dX12_readLine_72 (by decide) ?_
    exact J_lv [0, 1, 2] rfl (K_X12_readLine_76   a0 a1  x3 1 a0 st h)
set_option maxRecDepth 100000 in
set_option maxHeartbeats 4000000 in
theorem K_X12_readLine_50 {l : Launch} {E : En}   (a0 : Nat) (a1 : Int32)  {post : Int32 → St → Prop}   (x2 : Int32) (x3 : Int32) (st : St) (h : P_X12_readLine_50  a0 a1  post x2 x3 st) : Jg l E (CFc E) (Rm 81 0 0) cX12_readLine 4 RX12 (some .int) (fun _ => True) (QI E post 0 0) 0 0 50 [(0, .ref a0), (1, .int a1), (2, .int x2), (3, .int x3)] [] st := by
  unfold P_X12_readLine_50 at h
  refine J_iload_n 3 dX12_readLine_50 rfl rfl ?_
  refine J_if_le 109 dX12_readLine_51 (by decide) (fun hc => ?_) (fun hc => ?_)
  · have h := h.1 hc
    refine J_iload_n 2 dX12_readLine_109 rfl rfl ?_
    refine J_iconst (-1) dX12_readLine_110 (by decide) ?_
    refine J_icmp_eq 122 dX12_readLine_111 (by decide) (fun hc => ?_) (fun hc => ?_)
    · have h := h.1 hc
      refine J_aload_n 0 dX12_readLine_122 rfl rfl ?_
      refine J_ldSw ld_RX12_319 dX12_readLine_123 ?_
      obtain ⟨ho, h⟩ := h
      refine J_cvi (As := [_]) md_X12_is k_1005 (rc_obj cl_12 ho) rfl rfl ⟨Nat.le_of_ble_eq_true rfl, Nat.le_of_ble_eq_true rfl⟩ ⟨Nat.le_of_ble_eq_true rfl, Nat.le_of_ble_eq_true rfl⟩ (Nat.le_of_ble_eq_true rfl) dX12_readLine_126 (ct_X12_is  h) (fun z_1 st_2 h => ?_)
      refine J_if_eq 139 dX12_readLine_129 (by decide) (fun hc => ?_) (fun hc => ?_)
      · have h := h.1 hc
        refine J_aload_n 0 dX12_readLine_139 rfl rfl ?_
        refine J_ldSw ld_RX12_324 dX12_readLine_140 ?_
        obtain ⟨ho, h⟩ := h
        refine J_cvi (As := [_]) md_X12_is k_1005 (rc_obj cl_12 ho) rfl rfl ⟨Nat.le_of_ble_eq_true rfl, Nat.le_of_ble_eq_true rfl⟩ ⟨Nat.le_of_ble_eq_true rfl, Nat.le_of_ble_eq_true rfl⟩ (Nat.le_of_ble_eq_true rfl) dX12_readLine_143 (ct_X12_is  h) (fun z_3 st_4 h => ?_)
        refine J_if_eq 156 dX12_readLine_146 (by decide) (fun hc => ?_) (fun hc => ?_)
        · have h := h.1 hc
          refine J_aload_n 0 dX12_readLine_156 rfl rfl ?_
          refine J_iconst 1 dX12_readLine_157 (by decide) ?_
          obtain ⟨ho, h⟩ := h
          refine J_cvv (As := [_]) md_X12_wrong k_1013 (rc_obj cl_12 ho) rfl rfl ⟨Nat.le_of_ble_eq_true rfl, Nat.le_of_ble_eq_true rfl⟩ ⟨Nat.le_of_ble_eq_true rfl, Nat.le_of_ble_eq_true rfl⟩ (Nat.le_of_ble_eq_true rfl) dX12_readLine_158 (ct_X12_wrong  h) (fun st_6 h => ?_)
          exact J_lv [0, 1, 3] rfl (K_X12_readLine_161   a0 a1  x3 st_6 h)
        · have h := h.2 hc
          refine J_aload_n 0 dX12_readLine_149 rfl rfl ?_
          obtain ⟨ho, h⟩ := h
          refine J_cvv (As := []) md_X12_sayTie k_1080 (rc_obj cl_12 ho) rfl rfl ⟨Nat.le_of_ble_eq_true rfl, Nat.le_of_ble_eq_true rfl⟩ ⟨Nat.le_of_ble_eq_true rfl, Nat.le_of_ble_eq_true rfl⟩ (Nat.le_of_ble_eq_true rfl) dX12_readLine_150 (ct_X12_sayTie  h) (fun st_8 h => ?_)
          refine J_goto 161 dX12_readLine_153 (by decide) ?_
          exact J_lv [0, 1, 3] rfl (K_X12_readLine_161   a0 a1  x3 st_8 h)
      · have h := h.2 hc
        refine J_aload_n 0 dX12_readLine_132 rfl rfl ?_
        obtain ⟨ho, h⟩ := h
        refine J_cvv (As := []) md_X12_sayBride k_1077 (rc_obj cl_12 ho) rfl rfl ⟨Nat.le_of_ble_eq_true rfl, Nat.le_of_ble_eq_true rfl⟩ ⟨Nat.le_of_ble_eq_true rfl, Nat.le_of_ble_eq_true rfl⟩ (Nat.le_of_ble_eq_true rfl) dX12_readLine_133 (ct_X12_sayBride  h) (fun st_10 h => ?_)
        refine J_goto 161 dX12_readLine_136 (by decide) ?_
        exact J_lv [0, 1, 3] rfl (K_X12_readLine_161   a0 a1  x3 st_10 h)
    · have h := h.2 hc
      refine J_aload_n 0 dX12_readLine_114 rfl rfl ?_
      refine J_iload_n 2 dX12_readLine_115 rfl rfl ?_
      obtain ⟨ho, h⟩ := h
      refine J_cvv (As := [_]) md_X12_sayPerson k_1074 (rc_obj cl_12 ho) rfl rfl ⟨Nat.le_of_ble_eq_true rfl, Nat.le_of_ble_eq_true rfl⟩ ⟨Nat.le_of_ble_eq_true rfl, Nat.le_of_ble_eq_true rfl⟩ (Nat.le_of_ble_eq_true rfl) dX12_readLine_116 (ct_X12_sayPerson  h) (fun st_12 h => ?_)
      refine J_goto 161 dX12_readLine_119 (by decide) ?_
      exact J_lv [0, 1, 3] rfl (K_X12_readLine_161   a0 a1  x3 st_12 h)
  · have h := h.2 hc
    refine J_aload_n 0 dX12_readLine_54 rfl rfl ?_
    obtain ⟨hf, h⟩ := h
    refine J_getI fl_RX12_233 dX12_readLine_55 hf ?_
    refine J_if_ne 65 dX12_readLine_58 (by decide) (fun hc => ?_) (fun hc => ?_)
    · have h := h.1 hc
      exact J_lv [0, 1, 3] rfl (K_X12_readLine_65   a0 a1  x3 st h)
    · have h := h.2 hc
      refine J_aload_n 0 dX12_readLine_61 rfl rfl ?_
      obtain ⟨ho, h⟩ := h
      refine J_cvv (As := []) md_X12_stepOn k_1016 (rc_obj cl_12 ho) rfl rfl ⟨Nat.le_of_ble_eq_true rfl, Nat.le_of_ble_eq_true rfl⟩ ⟨Nat.le_of_ble_eq_true rfl, Nat.le_of_ble_eq_true rfl⟩ (Nat.le_of_ble_eq_true rfl) dX12_readLine_62 (ct_X12_stepOn  h) (fun st_14 h => ?_)
      exact J_lv [0, 1, 3] rfl (K_X12_readLine_65   a0 a1  x3 st_14 h)
set_option maxRecDepth 100000 in
set_option maxHeartbeats 4000000 in
theorem K_X12_readLine_38 {l : Launch} {E : En}   (a0 : Nat) (a1 : Int32)  {post : Int32 → St → Prop}   (x2 : Int32) (s0 : Int32) (st : St) (h : P_X12_readLine_38  a0 a1  post x2 s0 st) : Jg l E (CFc E) (Rm 81 0 0) cX12_readLine 4 RX12 (some .int) (fun _ => True) (QI E post 0 0) 0 0 38 [(0, .ref a0), (1, .int a1), (2, .int x2)] [.int s0] st := by
  unfold P_X12_readLine_38 at h
  refine J_istore_n _ dX12_readLine_38 rfl (by decide) rfl ?_
  refine J_iload_n 0 dX12_readLine_39 rfl rfl ?_
  refine J_iload_n 2 dX12_readLine_40 rfl rfl ?_
  refine J_iand dX12_readLine_41 ?_
  refine J_if_eq 50 dX12_readLine_42 (by decide) (fun hc => ?_) (fun hc => ?_)
  · have h := h.1 hc
    exact J_lv [1, 2, 3, 0] rfl (K_X12_readLine_50   a0 a1  x2 s0 st h)
  · have h := h.2 hc
    refine J_aload_n 1 dX12_readLine_45 rfl rfl ?_
    refine J_iconst 5 dX12_readLine_46 (by decide) ?_
    obtain ⟨ho, h⟩ := h
    refine J_cvv (As := [_]) md_X12_wrong k_1013 (rc_obj cl_12 ho) rfl rfl ⟨Nat.le_of_ble_eq_true rfl, Nat.le_of_ble_eq_true rfl⟩ ⟨Nat.le_of_ble_eq_true rfl, Nat.le_of_ble_eq_true rfl⟩ (Nat.le_of_ble_eq_true rfl) dX12_readLine_47 (ct_X12_wrong  h) (fun st_2 h => ?_)
    exact J_lv [1, 2, 3, 0] rfl (K_X12_readLine_50   a0 a1  x2 s0 st_2 h)
set_option maxRecDepth 100000 in
set_option maxHeartbeats 4000000 in
theorem ct_X12_readLine {l : Launch} {E : En}  {a0 : Nat} {a1 : Int32} {st : St} {post : Int32 → St → Prop} (h : P_X12_readLine  a0 a1 st post) : CtI l E (CFc E) 81 0 0 yX12_readLine cX12_readLine 4 (some .int) [.ref a0, .int a1] st post := by
  refine ctI_of (by decide) (Nat.le_of_ble_eq_true rfl) ?_
  show Jg l E (CFc E) (Rm 81 0 0) cX12_readLine 4 RX12 (some .int) (fun _ => True) (QI E post 0 0) 0 0 0 [(0, .ref a0), (1, .int a1)] [] st
  unfold P_X12_readLine at h
  refine J_aload_n 0 dX12_readLine_0 rfl rfl ?_
  refine J_aload_n 0 dX12_readLine_1 rfl rfl ?_
  obtain ⟨r_1, hf, h⟩ := h
  refine J_getR fl_RX12_19 dX12_readLine_2 hf ?_
  obtain ⟨ho, h⟩ := h
  refine J_cvi (As := [_]) md_X12_which k_1046 (rc_obj cl_12 ho) rfl rfl ⟨Nat.le_of_ble_eq_true rfl, Nat.le_of_ble_eq_true rfl⟩ ⟨Nat.le_of_ble_eq_true rfl, Nat.le_of_ble_eq_true rfl⟩ (Nat.le_of_ble_eq_true rfl) dX12_readLine_5 (ct_X12_which  h) (fun z_2 st_3 h => ?_)
  refine J_istore_n _ dX12_readLine_8 rfl (by decide) rfl ?_
  refine J_aload_n 1 dX12_readLine_9 rfl rfl ?_
  refine J_ldSw ld_RX12_312 dX12_readLine_10 ?_
  obtain ⟨ho, h⟩ := h
  refine J_cvi (As := [_]) md_X12_is k_1005 (rc_obj cl_12 ho) rfl rfl ⟨Nat.le_of_ble_eq_true rfl, Nat.le_of_ble_eq_true rfl⟩ ⟨Nat.le_of_ble_eq_true rfl, Nat.le_of_ble_eq_true rfl⟩ (Nat.le_of_ble_eq_true rfl) dX12_readLine_13 (ct_X12_is  h) (fun z_4 st_5 h => ?_)
  refine J_if_eq 23 dX12_readLine_16 (by decide) (fun hc => ?_) (fun hc => ?_)
  · have h := h.1 hc
    refine J_aload_n 1 dX12_readLine_23 rfl rfl ?_
    refine J_ldSw ld_RX12_314 dX12_readLine_24 ?_
    obtain ⟨ho, h⟩ := h
    refine J_cvi (As := [_]) md_X12_is k_1005 (rc_obj cl_12 ho) rfl rfl ⟨Nat.le_of_ble_eq_true rfl, Nat.le_of_ble_eq_true rfl⟩ ⟨Nat.le_of_ble_eq_true rfl, Nat.le_of_ble_eq_true rfl⟩ (Nat.le_of_ble_eq_true rfl) dX12_readLine_27 (ct_X12_is  h) (fun z_6 st_7 h => ?_)
    refine J_if_eq 37 dX12_readLine_30 (by decide) (fun hc => ?_) (fun hc => ?_)
    · have h := h.1 hc
      refine J_iconst 0 dX12_readLine_37 (by decide) ?_
      exact J_lv [1, 2, 0] rfl (K_X12_readLine_38   a0 a1  z_2 0 st_7 h)
    · have h := h.2 hc
      refine J_iconst 2 dX12_readLine_33 (by decide) ?_
      refine J_goto 38 dX12_readLine_34 (by decide) ?_
      exact J_lv [1, 2, 0] rfl (K_X12_readLine_38   a0 a1  z_2 2 st_7 h)
  · have h := h.2 hc
    refine J_iconst 1 dX12_readLine_19 (by decide) ?_
    refine J_goto 38 dX12_readLine_20 (by decide) ?_
    exact J_lv [1, 2, 0] rfl (K_X12_readLine_38   a0 a1  z_2 1 st_5 h)
/-! X12_dale -/
def P_X12_dale_123  (a0 : Nat) (a1 : Int32)  (post : Int32 → St → Prop)  (st : St) : Prop := fk a0 12 23 = some 0 ∧ (((gI st a0 23) = 0 → oC a0 12 ∧ P_X12_takeOver  a0 st (fun st_2 => post 0 st_2)) ∧ (¬ (gI st a0 23) = 0 → fk a0 12 24 = some 0 ∧ fk a0 12 25 = some 0 ∧ ∃ r_3, rv (sI st a0 25 (gI st a0 24)) a0 12 14 = some r_3 ∧ vp_in 0 (al 0 r_3) ∧ vp_in 0 (al 0 r_3) ∧ fk a0 12 23 = some 0 ∧ post (gI (sA (sI st a0 25 (gI st a0 24)) r_3 (0 : Int32).toNatClampNeg ((gA (sI st a0 25 (gI st a0 24)) r_3 (0 : Int32).toNatClampNeg) + 1)) a0 23) (sA (sI st a0 25 (gI st a0 24)) r_3 (0 : Int32).toNatClampNeg ((gA (sI st a0 25 (gI st a0 24)) r_3 (0 : Int32).toNatClampNeg) + 1))))
def P_X12_dale_100  (a0 : Nat) (a1 : Int32)  (post : Int32 → St → Prop) : Nat → Int32 → St → Prop
  | 0, _, _ => False
  | n9 + 1, x2, st => fk a0 12 23 = some 0 ∧ ((¬ (gI st a0 23) = 0 → P_X12_dale_123  a0 a1  post st) ∧ ((gI st a0 23) = 0 → fk a0 12 19 = some 0 ∧ (((gI st a0 19) = 0 → P_X12_dale_123  a0 a1  post st) ∧ (¬ (gI st a0 19) = 0 → oC a0 12 ∧ P_X12_readLine  a0 x2 st (fun z_1 st_2 => P_X12_dale_100  a0 a1  post n9 z_1 st_2)))))
def P_X12_dale_72  (a0 : Nat) (a1 : Int32)  (post : Int32 → St → Prop) : Nat → Int32 → St → Prop
  | 0, _, _ => False
  | n9 + 1, x2, st => ((54 ≤ x2 → oC a0 12 ∧ P_X12_stepOn  a0 st (fun st_2 => ∃ n8, P_X12_dale_100  a0 a1  post n8 0 st_2)) ∧ (¬ 54 ≤ x2 → ∃ r_3, rv st a0 12 11 = some r_3 ∧ vp_in (54 + x2) (al 0 r_3) ∧ P_X12_dale_72  a0 a1  post n9 (x2 + 1) (sA st r_3 (54 + x2 : Int32).toNatClampNeg 0)))
def P_X12_dale_50  (a0 : Nat) (a1 : Int32)  (post : Int32 → St → Prop) : Nat → Int32 → St → Prop
  | 0, _, _ => False
  | n9 + 1, x2, st => ((5 ≤ x2 → ∃ n8, P_X12_dale_72  a0 a1  post n8 0 st) ∧ (¬ 5 ≤ x2 → ∃ r_1, rv st a0 12 5 = some r_1 ∧ vp_in (5 + x2) (al 0 r_1) ∧ P_X12_dale_50  a0 a1  post n9 (x2 + 1) (sA st r_1 (5 + x2 : Int32).toNatClampNeg 0)))
def P_X12_dale_17  (a0 : Nat) (a1 : Int32)  (post : Int32 → St → Prop)  (st : St) : Prop := oC a0 12 ∧ P_X12_fail  a0 1 st (fun z_1 st_2 => post z_1 st_2)
def P_X12_dale  (a0 : Nat) (a1 : Int32) (st : St) (post : Int32 → St → Prop) : Prop := fk a0 12 4 = some 0 ∧ ((a1 < 0 → P_X12_dale_17  a0 a1  post (sI st a0 4 0)) ∧ (¬ a1 < 0 → fk a0 12 16 = some 0 ∧ ((a1 ≤ (gI (sI st a0 4 0) a0 16) → fk a0 12 16 = some 0 ∧ fk a0 12 18 = some 0 ∧ fk a0 12 17 = some 0 ∧ fk a0 12 23 = some 0 ∧ fk a0 12 25 = some 0 ∧ ∃ n8, P_X12_dale_50  a0 a1  post n8 0 (sI (sI (sI (sI (sI (sI st a0 4 0) a0 16 0) a0 18 a1) a0 17 0) a0 23 0) a0 25 (-1))) ∧ (¬ a1 ≤ (gI (sI st a0 4 0) a0 16) → P_X12_dale_17  a0 a1  post (sI st a0 4 0)))))
set_option maxRecDepth 100000 in
set_option maxHeartbeats 4000000 in
theorem K_X12_dale_123 {l : Launch} {E : En}   (a0 : Nat) (a1 : Int32)  {post : Int32 → St → Prop}    (st : St) (h : P_X12_dale_123  a0 a1  post  st) : Jg l E (CFc E) (Rm 82 0 0) cX12_dale 3 RX12 (some .int) (fun _ => True) (QI E post 0 0) 0 0 123 [(0, .ref a0), (1, .int a1)] [] st := by
  unfold P_X12_dale_123 at h
  refine J_aload_n 0 dX12_dale_123 rfl rfl ?_
  obtain ⟨hf, h⟩ := h
  refine J_getI fl_RX12_233 dX12_dale_124 hf ?_
  refine J_if_eq 153 dX12_dale_127 (by decide) (fun hc => ?_) (fun hc => ?_)
  · have h := h.1 hc
    refine J_aload_n 0 dX12_dale_153 rfl rfl ?_
    obtain ⟨ho, h⟩ := h
    refine J_cvv (As := []) md_X12_takeOver k_1099 (rc_obj cl_12 ho) rfl rfl ⟨Nat.le_of_ble_eq_true rfl, Nat.le_of_ble_eq_true rfl⟩ ⟨Nat.le_of_ble_eq_true rfl, Nat.le_of_ble_eq_true rfl⟩ (Nat.le_of_ble_eq_true rfl) dX12_dale_154 (ct_X12_takeOver  h) (fun st_2 h => ?_)
    refine J_iconst 0 dX12_dale_157 (by decide) ?_
    exact J_reti rfl dX12_dale_158 h
  · have h := h.2 hc
    refine J_aload_n 0 dX12_dale_130 rfl rfl ?_
    refine J_aload_n 0 dX12_dale_131 rfl rfl ?_
    obtain ⟨hf, h⟩ := h
    refine J_getI fl_RX12_236 dX12_dale_132 hf ?_
    obtain ⟨hf, h⟩ := h
    refine J_putI fp_RX12_81 dX12_dale_135 rfl hf ?_
    refine J_aload_n 0 dX12_dale_138 rfl rfl ?_
    obtain ⟨r_3, hf, h⟩ := h
    refine J_getR fl_RX12_75 dX12_dale_139 hf ?_
    refine J_iconst 0 dX12_dale_142 (by decide) ?_
    refine J_dup2 dX12_dale_143 rfl rfl ?_
    obtain ⟨hi, h⟩ := h
    refine J_iald dX12_dale_144 hi ?_
    refine J_iconst 1 dX12_dale_145 (by decide) ?_
    refine J_iadd dX12_dale_146 ?_
    obtain ⟨hi, h⟩ := h
    refine J_iast dX12_dale_147 hi ?_
    refine J_aload_n 0 dX12_dale_148 rfl rfl ?_
    obtain ⟨hf, h⟩ := h
    refine J_getI fl_RX12_233 dX12_dale_149 hf ?_
    exact J_reti rfl dX12_dale_152 h
set_option maxRecDepth 100000 in
set_option maxHeartbeats 4000000 in
theorem K_X12_dale_100 {l : Launch} {E : En}   (a0 : Nat) (a1 : Int32)  {post : Int32 → St → Prop}   : ∀ (n9 : Nat) (x2 : Int32) (st : St), P_X12_dale_100  a0 a1  post n9 x2 st → Jg l E (CFc E) (Rm 82 0 0) cX12_dale 3 RX12 (some .int) (fun _ => True) (QI E post 0 0) 0 0 100 [(0, .ref a0), (1, .int a1), (2, .int x2)] [] st := by
  intro n9
  induction n9 with
  | zero => intro x2 st h; exact h.elim
  | succ n9 ih =>
    intro x2 st h
    unfold P_X12_dale_100 at h
    refine J_aload_n 0 dX12_dale_100 rfl rfl ?_
    obtain ⟨hf, h⟩ := h
    refine J_getI fl_RX12_233 dX12_dale_101 hf ?_
    refine J_if_ne 123 dX12_dale_104 (by decide) (fun hc => ?_) (fun hc => ?_)
    · have h := h.1 hc
      exact J_lv [0, 1] rfl (K_X12_dale_123   a0 a1  st h)
    · have h := h.2 hc
      refine J_aload_n 0 dX12_dale_107 rfl rfl ?_
      obtain ⟨hf, h⟩ := h
      refine J_getI fl_RX12_207 dX12_dale_108 hf ?_
      refine J_if_eq 123 dX12_dale_111 (by decide) (fun hc => ?_) (fun hc => ?_)
      · have h := h.1 hc
        exact J_lv [0, 1] rfl (K_X12_dale_123   a0 a1  st h)
      · have h := h.2 hc
        refine J_aload_n 0 dX12_dale_114 rfl rfl ?_
        refine J_iload_n 2 dX12_dale_115 rfl rfl ?_
        obtain ⟨ho, h⟩ := h
        refine J_cvi (As := [_]) md_X12_readLine k_1096 (rc_obj cl_12 ho) rfl rfl ⟨Nat.le_of_ble_eq_true rfl, Nat.le_of_ble_eq_true rfl⟩ ⟨Nat.le_of_ble_eq_true rfl, Nat.le_of_ble_eq_true rfl⟩ (Nat.le_of_ble_eq_true rfl) dX12_dale_116 (ct_X12_readLine  h) (fun z_1 st_2 h => ?_)
        refine J_istore_n _ dX12_dale_119 rfl (by decide) rfl ?_
        refine J_goto 100 dX12_dale_120 (by decide) ?_
        exact J_lv [1, 2, 0] rfl (ih z_1 st_2 h)
set_option maxRecDepth 100000 in
set_option maxHeartbeats 4000000 in
theorem K_X12_dale_72 {l : Launch} {E : En}   (a0 : Nat) (a1 : Int32)  {post : Int32 → St → Prop}   : ∀ (n9 : Nat) (x2 : Int32) (st : St), P_X12_dale_72  a0 a1  post n9 x2 st → Jg l E (CFc E) (Rm 82 0 0) cX12_dale 3 RX12 (some .int) (fun _ => True) (QI E post 0 0) 0 0 72 [(0, .ref a0), (1, .int a1), (2, .int x2)] [] st := by
  intro n9
  induction n9 with
  | zero => intro x2 st h; exact h.elim
  | succ n9 ih =>
    intro x2 st h
    unfold P_X12_dale_72 at h
    refine J_iload_n 2 dX12_dale_72 rfl rfl ?_
    refine J_bipush 54 dX12_dale_73 (by decide) ?_
    refine J_icmp_ge 94 dX12_dale_75 (by decide) (fun hc => ?_) (fun hc => ?_)
    · have h := h.1 hc
      refine J_aload_n 0 dX12_dale_94 rfl rfl ?_
      obtain ⟨ho, h⟩ := h
      refine J_cvv (As := []) md_X12_stepOn k_1016 (rc_obj cl_12 ho) rfl rfl ⟨Nat.le_of_ble_eq_true rfl, Nat.le_of_ble_eq_true rfl⟩ ⟨Nat.le_of_ble_eq_true rfl, Nat.le_of_ble_eq_true rfl⟩ (Nat.le_of_ble_eq_true rfl) dX12_dale_95 (ct_X12_stepOn  h) (fun st_2 h => ?_)
      refine J_iconst 0 dX12_dale_98 (by decide) ?_
      refine J_istore_n _ dX12_dale_99 rfl (by decide) rfl ?_
      obtain ⟨n8, h⟩ := h
      exact J_lv [1, 2, 0] rfl (K_X12_dale_100   a0 a1  n8 0 st_2 h)
    · have h := h.2 hc
      refine J_aload_n 0 dX12_dale_78 rfl rfl ?_
      obtain ⟨r_3, hf, h⟩ := h
      refine J_getR fl_RX12_66 dX12_dale_79 hf ?_
      refine J_bipush 54 dX12_dale_82 (by decide) ?_
      refine J_iload_n 2 dX12_dale_84 rfl rfl ?_
      refine J_iadd dX12_dale_85 ?_
      refine J_iconst 0 dX12_dale_86 (by decide) ?_
      obtain ⟨hi, h⟩ := h
      refine J_iast dX12_dale_87 hi ?_
      refine J_iinc 2 (x2 + 1) _ dX12_dale_88 rfl (by rfl) (by decide) rfl ?_
      refine J_goto 72 dX12_dale_91 (by decide) ?_
      exact J_lv [1, 2, 0] rfl (ih (x2 + 1) (sA st r_3 (54 + x2 : Int32).toNatClampNeg 0) h)
set_option maxRecDepth 100000 in
set_option maxHeartbeats 4000000 in
theorem K_X12_dale_50 {l : Launch} {E : En}   (a0 : Nat) (a1 : Int32)  {post : Int32 → St → Prop}   : ∀ (n9 : Nat) (x2 : Int32) (st : St), P_X12_dale_50  a0 a1  post n9 x2 st → Jg l E (CFc E) (Rm 82 0 0) cX12_dale 3 RX12 (some .int) (fun _ => True) (QI E post 0 0) 0 0 50 [(0, .ref a0), (1, .int a1), (2, .int x2)] [] st := by
  intro n9
  induction n9 with
  | zero => intro x2 st h; exact h.elim
  | succ n9 ih =>
    intro x2 st h
    unfold P_X12_dale_50 at h
    refine J_iload_n 2 dX12_dale_50 rfl rfl ?_
    refine J_iconst 5 dX12_dale_51 (by decide) ?_
    refine J_icmp_ge 70 dX12_dale_52 (by decide) (fun hc => ?_) (fun hc => ?_)
    · have h := h.1 hc
      refine J_iconst 0 dX12_dale_70 (by decide) ?_
      refine J_istore_n _ dX12_dale_71 rfl (by decide) rfl ?_
      obtain ⟨n8, h⟩ := h
      exact J_lv [1, 2, 0] rfl (K_X12_dale_72   a0 a1  n8 0 st h)
    · have h := h.2 hc
      refine J_aload_n 0 dX12_dale_55 rfl rfl ?_
      obtain ⟨r_1, hf, h⟩ := h
      refine J_getR fl_RX12_48 dX12_dale_56 hf ?_
      refine J_iconst 5 dX12_dale_59 (by decide) ?_
      refine J_iload_n 2 dX12_dale_60 rfl rfl ?_
      refine J_iadd dX12_dale_61 ?_
      refine J_iconst 0 dX12_dale_62 (by decide) ?_
      obtain ⟨hi, h⟩ := h
      refine J_iast dX12_dale_63 hi ?_
      refine J_iinc 2 (x2 + 1) _ dX12_dale_64 rfl (by rfl) (by decide) rfl ?_
      refine J_goto 50 dX12_dale_67 (by decide) ?_
      exact J_lv [1, 2, 0] rfl (ih (x2 + 1) (sA st r_1 (5 + x2 : Int32).toNatClampNeg 0) h)
set_option maxRecDepth 100000 in
set_option maxHeartbeats 4000000 in
theorem K_X12_dale_17 {l : Launch} {E : En}   (a0 : Nat) (a1 : Int32)  {post : Int32 → St → Prop}    (st : St) (h : P_X12_dale_17  a0 a1  post  st) : Jg l E (CFc E) (Rm 82 0 0) cX12_dale 3 RX12 (some .int) (fun _ => True) (QI E post 0 0) 0 0 17 [(0, .ref a0), (1, .int a1)] [] st := by
  unfold P_X12_dale_17 at h
  refine J_aload_n 0 dX12_dale_17 rfl rfl ?_
  refine J_iconst 1 dX12_dale_18 (by decide) ?_
  obtain ⟨ho, h⟩ := h
  refine J_cvi (As := [_]) md_X12_fail k_1093 (rc_obj cl_12 ho) rfl rfl ⟨Nat.le_of_ble_eq_true rfl, Nat.le_of_ble_eq_true rfl⟩ ⟨Nat.le_of_ble_eq_true rfl, Nat.le_of_ble_eq_true rfl⟩ (Nat.le_of_ble_eq_true rfl) dX12_dale_19 (ct_X12_fail  h) (fun z_1 st_2 h => ?_)
  exact J_reti rfl dX12_dale_22 h
set_option maxRecDepth 100000 in
set_option maxHeartbeats 4000000 in
theorem ct_X12_dale {l : Launch} {E : En}  {a0 : Nat} {a1 : Int32} {st : St} {post : Int32 → St → Prop} (h : P_X12_dale  a0 a1 st post) : CtI l E (CFc E) 82 0 0 yX12_dale cX12_dale 3 (some .int) [.ref a0, .int a1] st post := by
  refine ctI_of (by decide) (Nat.le_of_ble_eq_true rfl) ?_
  show Jg l E (CFc E) (Rm 82 0 0) cX12_dale 3 RX12 (some .int) (fun _ => True) (QI E post 0 0) 0 0 0 [(0, .ref a0), (1, .int a1)] [] st
  unfold P_X12_dale at h
  refine J_aload_n 0 dX12_dale_0 rfl rfl ?_
  refine J_iconst 0 dX12_dale_1 (by decide) ?_
  obtain ⟨hf, h⟩ := h
  refine J_putI fp_RX12_184 dX12_dale_2 rfl hf ?_
  refine J_iload_n 1 dX12_dale_5 rfl rfl ?_
  refine J_if_lt 17 dX12_dale_6 (by decide) (fun hc => ?_) (fun hc => ?_)
  · have h := h.1 hc
    exact J_lv [0, 1] rfl (K_X12_dale_17   a0 a1  (sI st a0 4 0) h)
  · have h := h.2 hc
    refine J_iload_n 1 dX12_dale_9 rfl rfl ?_
    refine J_aload_n 0 dX12_dale_10 rfl rfl ?_
    obtain ⟨hf, h⟩ := h
    refine J_getI fl_RX12_191 dX12_dale_11 hf ?_
    refine J_icmp_le 23 dX12_dale_14 (by decide) (fun hc => ?_) (fun hc => ?_)
    · have h := h.1 hc
      refine J_aload_n 0 dX12_dale_23 rfl rfl ?_
      refine J_iconst 0 dX12_dale_24 (by decide) ?_
      obtain ⟨hf, h⟩ := h
      refine J_putI fp_RX12_191 dX12_dale_25 rfl hf ?_
      refine J_aload_n 0 dX12_dale_28 rfl rfl ?_
      refine J_iload_n 1 dX12_dale_29 rfl rfl ?_
      obtain ⟨hf, h⟩ := h
      refine J_putI fp_RX12_194 dX12_dale_30 rfl hf ?_
      refine J_aload_n 0 dX12_dale_33 rfl rfl ?_
      refine J_iconst 0 dX12_dale_34 (by decide) ?_
      obtain ⟨hf, h⟩ := h
      refine J_putI fp_RX12_197 dX12_dale_35 rfl hf ?_
      refine J_aload_n 0 dX12_dale_38 rfl rfl ?_
      refine J_iconst 0 dX12_dale_39 (by decide) ?_
      obtain ⟨hf, h⟩ := h
      refine J_putI fp_RX12_233 dX12_dale_40 rfl hf ?_
      refine J_aload_n 0 dX12_dale_43 rfl rfl ?_
      refine J_iconst (-1) dX12_dale_44 (by decide) ?_
      obtain ⟨hf, h⟩ := h
      refine J_putI fp_RX12_81 dX12_dale_45 rfl hf ?_
      refine J_iconst 0 dX12_dale_48 (by decide) ?_
      refine J_istore_n _ dX12_dale_49 rfl (by decide) rfl ?_
      obtain ⟨n8, h⟩ := h
      exact J_lv [1, 2, 0] rfl (K_X12_dale_50   a0 a1  n8 0 (sI (sI (sI (sI (sI (sI st a0 4 0) a0 16 0) a0 18 a1) a0 17 0) a0 23 0) a0 25 (-1)) h)
    · have h := h.2 hc
      exact J_lv [0, 1] rfl (K_X12_dale_17   a0 a1  (sI st a0 4 0) h)
