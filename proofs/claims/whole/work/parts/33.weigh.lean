/-! PURE: the class's weights, and a day of a dale -/
def bc (a0 : Int32) : Int32 := (((((((a0 - ((((a0 : Int32).toUInt32 >>> ((1 : Int32).toUInt32 &&& Int32.toUInt32 31)).toInt32) &&& 1431655765)) &&& 858993459) + ((((a0 - ((((a0 : Int32).toUInt32 >>> ((1 : Int32).toUInt32 &&& Int32.toUInt32 31)).toInt32) &&& 1431655765) : Int32).toUInt32 >>> ((2 : Int32).toUInt32 &&& Int32.toUInt32 31)).toInt32) &&& 858993459)) + (((((a0 - ((((a0 : Int32).toUInt32 >>> ((1 : Int32).toUInt32 &&& Int32.toUInt32 31)).toInt32) &&& 1431655765)) &&& 858993459) + ((((a0 - ((((a0 : Int32).toUInt32 >>> ((1 : Int32).toUInt32 &&& Int32.toUInt32 31)).toInt32) &&& 1431655765) : Int32).toUInt32 >>> ((2 : Int32).toUInt32 &&& Int32.toUInt32 31)).toInt32) &&& 858993459) : Int32).toUInt32 >>> ((4 : Int32).toUInt32 &&& Int32.toUInt32 31)).toInt32)) &&& 252645135) + (((((((a0 - ((((a0 : Int32).toUInt32 >>> ((1 : Int32).toUInt32 &&& Int32.toUInt32 31)).toInt32) &&& 1431655765)) &&& 858993459) + ((((a0 - ((((a0 : Int32).toUInt32 >>> ((1 : Int32).toUInt32 &&& Int32.toUInt32 31)).toInt32) &&& 1431655765) : Int32).toUInt32 >>> ((2 : Int32).toUInt32 &&& Int32.toUInt32 31)).toInt32) &&& 858993459)) + (((((a0 - ((((a0 : Int32).toUInt32 >>> ((1 : Int32).toUInt32 &&& Int32.toUInt32 31)).toInt32) &&& 1431655765)) &&& 858993459) + ((((a0 - ((((a0 : Int32).toUInt32 >>> ((1 : Int32).toUInt32 &&& Int32.toUInt32 31)).toInt32) &&& 1431655765) : Int32).toUInt32 >>> ((2 : Int32).toUInt32 &&& Int32.toUInt32 31)).toInt32) &&& 858993459) : Int32).toUInt32 >>> ((4 : Int32).toUInt32 &&& Int32.toUInt32 31)).toInt32)) &&& 252645135 : Int32).toUInt32 >>> ((8 : Int32).toUInt32 &&& Int32.toUInt32 31)).toInt32)) + ((((((((a0 - ((((a0 : Int32).toUInt32 >>> ((1 : Int32).toUInt32 &&& Int32.toUInt32 31)).toInt32) &&& 1431655765)) &&& 858993459) + ((((a0 - ((((a0 : Int32).toUInt32 >>> ((1 : Int32).toUInt32 &&& Int32.toUInt32 31)).toInt32) &&& 1431655765) : Int32).toUInt32 >>> ((2 : Int32).toUInt32 &&& Int32.toUInt32 31)).toInt32) &&& 858993459)) + (((((a0 - ((((a0 : Int32).toUInt32 >>> ((1 : Int32).toUInt32 &&& Int32.toUInt32 31)).toInt32) &&& 1431655765)) &&& 858993459) + ((((a0 - ((((a0 : Int32).toUInt32 >>> ((1 : Int32).toUInt32 &&& Int32.toUInt32 31)).toInt32) &&& 1431655765) : Int32).toUInt32 >>> ((2 : Int32).toUInt32 &&& Int32.toUInt32 31)).toInt32) &&& 858993459) : Int32).toUInt32 >>> ((4 : Int32).toUInt32 &&& Int32.toUInt32 31)).toInt32)) &&& 252645135) + (((((((a0 - ((((a0 : Int32).toUInt32 >>> ((1 : Int32).toUInt32 &&& Int32.toUInt32 31)).toInt32) &&& 1431655765)) &&& 858993459) + ((((a0 - ((((a0 : Int32).toUInt32 >>> ((1 : Int32).toUInt32 &&& Int32.toUInt32 31)).toInt32) &&& 1431655765) : Int32).toUInt32 >>> ((2 : Int32).toUInt32 &&& Int32.toUInt32 31)).toInt32) &&& 858993459)) + (((((a0 - ((((a0 : Int32).toUInt32 >>> ((1 : Int32).toUInt32 &&& Int32.toUInt32 31)).toInt32) &&& 1431655765)) &&& 858993459) + ((((a0 - ((((a0 : Int32).toUInt32 >>> ((1 : Int32).toUInt32 &&& Int32.toUInt32 31)).toInt32) &&& 1431655765) : Int32).toUInt32 >>> ((2 : Int32).toUInt32 &&& Int32.toUInt32 31)).toInt32) &&& 858993459) : Int32).toUInt32 >>> ((4 : Int32).toUInt32 &&& Int32.toUInt32 31)).toInt32)) &&& 252645135 : Int32).toUInt32 >>> ((8 : Int32).toUInt32 &&& Int32.toUInt32 31)).toInt32) : Int32).toUInt32 >>> ((16 : Int32).toUInt32 &&& Int32.toUInt32 31)).toInt32)) &&& 63
theorem s_bitCount {x : Int32} {st : St} {post : Int32 → St → Prop} (h : post (bc x) st) : P_J6_bitCount_0f7a4 x st post := h
def kp (v m : Int32) : Int32 := if (0 : Int32) < (if m < v then m else v) then (if m < v then m else v) else 0
theorem s_kept {v m : Int32} {st : St} {post : Int32 → St → Prop} (h : post (kp v m) st) : P_X2_kept v m st post := h
def mx0 (x : Int32) : Int32 := if (0 : Int32) < x then x else 0
def riv (np : Nat) (c : Nat → Int32) (b : Nat) : Int32 := mx0 (bc (tiedS np c b) - 1)
theorem s_rivalsFor {st : St} {d p b : Nat} {q : PD} (D : DSt st d p q) (hb : b < 6) {post : Int32 → St → Prop} (h : post (riv q.1 (gA st (ch d 1)) b) st) : P_X2_rivalsFor d (iN b) st post :=
  ⟨da_o D.hd, s_peopleTiedTo D hb (s_bitCount h)⟩
/-- what a rule may ask -/
def vM (q : PD) (c : Nat → Int32) (p j : Nat) : Int32 := if j = 0 then c (2 + 4 * p) else if j = 1 then c (2 + 4 * p + 2) else if j = 2 then q.2.2.1 p else if j = 3 then bc (c (2 + 4 * p + 3)) else if j = 4 then c 0 else 0
def vW (q : PD) (c : Nat → Int32) (p b j : Nat) : Int32 := if j = 5 then c (56 + 6 * p + b) else if j = 6 then mx0 (c (38 + 3 * b) - c 0) else if j = 7 then riv q.1 c b else vM q c p j
theorem work_congr {row va vb : Nat → Int32} (nv : Nat) : ∀ len : Nat, (∀ i, i < len → ¬ row i < -8 → row i < 0 → (-1 - row i).toNatClampNeg < nv) → (∀ j, j < nv → va j = vb j) → wrk row va len = wrk row vb len := by
  intro len
  induction len with
  | zero => intro _ _; rfl
  | succ n ih =>
    intro h1 h2
    show wst va (row n) (wrk row va n) = wst vb (row n) (wrk row vb n)
    rw [ih (fun i hi => h1 i (by omega)) h2]
    unfold wst
    by_cases hc : row n < -8
    · rw [if_pos hc, if_pos hc]
    · rw [if_neg hc, if_neg hc]
      by_cases h0 : row n < 0
      · rw [if_pos h0, if_pos h0, h2 _ (h1 n (by omega) hc h0)]
      · rw [if_neg h0, if_neg h0]
theorem work_w {row va vb : Nat → Int32} {len : Nat} (h : ∀ j, j < 8 → va j = vb j) : work row len va = work row len vb := by
  unfold work
  rw [work_congr 8 len (fun i _ h1 h2 => by
    have h3 := val_in h1 h2
    unfold vp_in at h3
    omega) h]
/-- the rule of mourning asks five values alone -/
def okM (q : Rl) : Prop := q.1 ≠ 0 → ∀ i, i < q.2.1 → ¬ q.2.2 i < -8 → q.2.2 i < 0 → (-1 - q.2.2 i).toNatClampNeg < 5
def weighF (q : PD) (c : Nat → Int32) (p b : Nat) : Int32 :=
  if c (56 + 6 * p + b) = 0 then -1 else if q.2.2.2.1.1 = 0 then kp ((c (2 + 4 * p) + c (56 + 6 * p + b)) - (2 * c (2 + 4 * p + 2))) 999 else kp (work q.2.2.2.1.2.2 q.2.2.2.1.2.1 (vW q c p b)) 999
def mournF (q : PD) (c : Nat → Int32) (p : Nat) : Int32 :=
  if q.2.2.2.2.1 = 0 then (if q.2.2.1 p = 3 then 0 else c (2 + 4 * p + 1)) else kp (work q.2.2.2.2.2.2 q.2.2.2.2.2.1 (vM q c p)) 20
theorem scv_v {d : Nat} : ScV d (ch d 2) := Or.inl rfl
theorem da_vc {d : Nat} (hd : isDa d) : ch d 1 ≠ ch d 2 := by rcases hd with rfl | rfl | rfl <;> decide
theorem da_vk {d p : Nat} (hd : isDa d) (hp : isPl p) : ch p 2 ≠ ch d 2 := by rcases hd with rfl | rfl | rfl <;> rcases hp with rfl | rfl <;> decide
theorem da_v40 {d : Nat} (hd : isDa d) : ¬ al 0 (ch d 2) = 40 := by rw [da_av hd]; decide
theorem s_setValuesOf {st : St} {d p x : Nat} {q : PD} (D : DSt st d p q) (hx : x < 9) {post : St → Prop} (h : ∀ st2, Ex (ScV d) st st2 → (∀ j, j < 5 → gA st2 (ch d 2) j = vM q (gA st (ch d 1)) x j) → post st2) : P_X2_setValuesOf d (iN x) st post := by
  have hd := D.hd
  have hv : ∀ j : Nat, j < 8 → vp_in (iN j) (al 0 (ch d 2)) := fun j hj => by rw [da_av hd]; exact iN_vp hj (by decide)
  refine ⟨_, da_v hd _, da_o hd, s_griefOf hd hx ⟨hv 0 (by decide), _, da_v hd _, da_o hd, s_onionsOf hd hx ⟨hv 1 (by decide), _, da_v hd _, p, ?_, _, pl_k D.hp _, ?_, hv 2 (by decide), _, da_v hd _, da_o hd, s_ledBits hd hx (s_bitCount ⟨hv 3 (by decide), _, da_v hd _, da_o hd, s_today hd ⟨hv 4 (by decide), h _ ?_ ?_⟩⟩)⟩⟩⟩
  · rw [da_p hd]; exact D.2.2.1
  · rw [pl_ak D.hp]; exact iN_vp hx (by decide)
  · exact ((((Ex.sa scv_v _ _).tr (Ex.sa scv_v _ _)).tr (Ex.sa scv_v _ _)).tr (Ex.sa scv_v _ _)).tr (Ex.sa scv_v _ _)
  · intro j hj
    have e0 : (0 : Int32).toNatClampNeg = 0 := rfl
    have e1 : (1 : Int32).toNatClampNeg = 1 := rfl
    have e2 : (2 : Int32).toNatClampNeg = 2 := rfl
    have e3 : (3 : Int32).toNatClampNeg = 3 := rfl
    have e4 : (4 : Int32).toNatClampNeg = 4 := rfl
    rw [e0, e1, e2, e3, e4, iN_cl (by omega)]
    simp only [gA_sA, gA_sA_ne (da_vc hd), gA_sA_ne (da_vk hd D.hp)]
    rw [D.kd]
    have hj5 : j = 0 ∨ j = 1 ∨ j = 2 ∨ j = 3 ∨ j = 4 := by omega
    rcases hj5 with rfl | rfl | rfl | rfl | rfl <;> simp [upd, vM]
set_option maxHeartbeats 1000000 in
theorem s_weigh {st : St} {d p x b : Nat} {q : PD} (D : DSt st d p q) (hx : x < 9) (hb : b < 6) {post : Int32 → St → Prop} (h : ∀ st2, Ex (ScV d) st st2 → post (weighF q (gA st (ch d 1)) x b) st2) : P_X2_weigh d (iN x) (iN b) st post := by
  have hd := D.hd
  have hv : ∀ j : Nat, j < 8 → vp_in (iN j) (al 0 (ch d 2)) := fun j hj => by rw [da_av hd]; exact iN_vp hj (by decide)
  refine ⟨da_o hd, s_yearsOf hd hx hb ⟨fun hy => ⟨_, D.pl, _, pl_w D.hp _, ru_0 (pl_rw D.hp), fun ht => ⟨da_o hd, s_setValuesOf D hx (fun st2 hE hV => ?_)⟩, fun ht => ⟨da_o hd, s_griefOf hd hx ⟨da_o hd, s_onionsOf hd hx (s_kept ?_)⟩⟩⟩, fun hy => ?_⟩⟩
  · rw [D.wt] at ht
    have D2 := D.ex (npl_scv hd) hE
    have ec : gA st2 (ch d 1) = gA st (ch d 1) := hE.eA (scv_c hd hd)
    have E1 : Ex (ScV d) st2 (sA st2 (ch d 2) (5 : Int32).toNatClampNeg (gA st (ch d 1) (56 + 6 * x + b))) := Ex.sa scv_v _ _
    refine ⟨_, da_v hd _, hv 5 (by decide), _, da_v hd _, da_o hd, s_weddingOf hd hb ⟨da_o hd, s_today hd ⟨hv 6 (by decide), _, da_v hd _, da_o hd, ?_⟩⟩⟩
    rw [gA_sA_ne (da_vc hd), ec]
    generalize hst3 : sA (sA st2 (ch d 2) (5 : Int32).toNatClampNeg (gA st (ch d 1) (56 + 6 * x + b))) (ch d 2) (6 : Int32).toNatClampNeg (if (0 : Int32) < gA st (ch d 1) (38 + 3 * b) - gA st (ch d 1) 0 then gA st (ch d 1) (38 + 3 * b) - gA st (ch d 1) 0 else 0) = st3
    have E3 : Ex (ScV d) st st3 := by rw [← hst3]; exact (hE.tr E1).tr (Ex.sa scv_v _ _)
    have D3 := D.ex (npl_scv hd) E3
    have ec3 : gA st3 (ch d 1) = gA st (ch d 1) := E3.eA (scv_c hd hd)
    refine s_rivalsFor D3 hb ?_
    rw [ec3]
    generalize hst4 : sA st3 (ch d 2) (7 : Int32).toNatClampNeg (riv q.1 (gA st (ch d 1)) b) = st4
    have E4 : Ex (ScV d) st st4 := by rw [← hst4]; exact E3.tr (Ex.sa scv_v _ _)
    have D4 := D.ex (npl_scv hd) E4
    refine ⟨hv 7 (by decide), ?_⟩
    refine ⟨_, D4.pl, _, pl_w D.hp _, _, da_v hd _, ru_o (pl_rw D.hp), s_workOut (pl_rw D.hp) D4.wl (by rw [D4.wr]; exact D.ok.2.2.1 ht) (da_av hd) (fun st5 hE5 => s_kept ?_)⟩
    have e9 : weighF q (gA st (ch d 1)) x b = kp (work (gA st4 (ch (ch p 3) 1)) q.2.2.2.1.2.1 (gA st4 (ch d 2))) 999 := by
      have e8 : work q.2.2.2.1.2.2 q.2.2.2.1.2.1 (vW q (gA st (ch d 1)) x b) = work q.2.2.2.1.2.2 q.2.2.2.1.2.1 (gA st4 (ch d 2)) := by
        refine work_w (fun j hj => ?_)
        rw [← hst4, ← hst3]
        have e5 : (5 : Int32).toNatClampNeg = 5 := rfl
        have e6 : (6 : Int32).toNatClampNeg = 6 := rfl
        have e7 : (7 : Int32).toNatClampNeg = 7 := rfl
        rw [e5, e6, e7]
        simp only [gA_sA]
        unfold vW
        by_cases h7 : j = 7
        · subst h7; simp [upd]
        · by_cases h6 : j = 6
          · subst h6; simp [upd, mx0]
          · by_cases h5 : j = 5
            · subst h5; simp [upd]
            · rw [if_neg h5, if_neg h6, if_neg h7, upd_ne h7, upd_ne h6, upd_ne h5]
              exact (hV j (by omega)).symm
      unfold weighF
      rw [if_neg hy, if_neg ht, D4.wr, e8]
    rw [← e9]
    exact h _ (E4.tr (hE5.wk (fun a ha => Or.inr ha)))
  · rw [D.wt] at ht
    have e9 := h st Ex.rf
    unfold weighF at e9
    rw [if_neg hy, if_pos ht] at e9
    exact e9
  · have e9 := h st Ex.rf
    unfold weighF at e9
    rw [if_pos hy] at e9
    exact e9
theorem s_mournedBy {st : St} {d p x : Nat} {q : PD} (D : DSt st d p q) (hM : okM q.2.2.2.2) (hx : x < 9) {post : Int32 → St → Prop} (h : ∀ st2, Ex (ScV d) st st2 → post (mournF q (gA st (ch d 1)) x) st2) : P_X2_mournedBy d (iN x) st post := by
  have hd := D.hd
  refine ⟨_, D.pl, _, pl_m D.hp _, ru_0 (pl_rm D.hp), fun ht => ⟨_, D.pl, _, pl_k D.hp _, ?_, ?_⟩, fun ht => ⟨da_o hd, s_setValuesOf D hx (fun st2 hE hV => ?_)⟩⟩
  · rw [pl_ak D.hp]; exact iN_vp hx (by decide)
  · rw [D.mt] at ht
    rw [iN_cl (by omega), D.kd]
    have e9 := h st Ex.rf
    unfold mournF at e9
    rw [if_pos ht] at e9
    refine ⟨fun hk => ⟨da_o hd, s_trainsOf hd hx ?_⟩, fun hk => ?_⟩
    · rw [if_neg hk] at e9; exact e9
    · rw [if_pos hk] at e9; exact e9
  · rw [D.mt] at ht
    have D2 := D.ex (npl_scv hd) hE
    refine ⟨_, D2.pl, _, pl_m D.hp _, _, da_v hd _, ru_o (pl_rm D.hp), s_workOut (pl_rm D.hp) D2.ml (by rw [D2.mr]; exact D.ok.2.2.2 ht) (da_av hd) (fun st5 hE5 => s_kept ?_)⟩
    have e9 : mournF q (gA st (ch d 1)) x = kp (work (gA st2 (ch (ch p 4) 1)) q.2.2.2.2.2.1 (gA st2 (ch d 2))) 20 := by
      unfold mournF
      have e8 : work q.2.2.2.2.2.2 q.2.2.2.2.2.1 (vM q (gA st (ch d 1)) x) = work q.2.2.2.2.2.2 q.2.2.2.2.2.1 (gA st2 (ch d 2)) := by
        unfold work
        rw [work_congr (vb := gA st2 (ch d 2)) 5 _ (hM ht) (fun j hj => (hV j hj).symm)]
      rw [if_neg ht, D2.mr, e8]
    rw [← e9]
    exact h _ (hE.tr (hE5.wk (fun a ha => Or.inr ha)))
