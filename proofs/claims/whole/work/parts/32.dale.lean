/-! PURE: the class's dale: getters, sets, weights -/
section Get
variable {d : Nat} {st : St}
theorem s_today {d : Nat} (hd : isDa d) {st : St} {post : Int32 → St → Prop} (h : post (gA st (ch d 1) 0) st) : P_X2_today d st post := ⟨_, da_c hd _, by rw [da_ac hd]; exact iN_vp (j := 0) (by decide) (by decide), h⟩
theorem s_dogCount {d : Nat} (hd : isDa d) {st : St} {post : Int32 → St → Prop} (h : post (gA st (ch d 1) 1) st) : P_X2_dogCount d st post := ⟨_, da_c hd _, by rw [da_ac hd]; exact iN_vp (j := 1) (by decide) (by decide), h⟩
theorem s_griefOf {d p : Nat} (hd : isDa d) (hp : p < 9) {st : St} {post : Int32 → St → Prop} (h : post (gA st (ch d 1) (2 + 4 * p)) st) : P_X2_griefOf d (iN p) st post := by
  refine ⟨_, da_c hd _, ?_, ?_⟩
  · rw [show (0 : Int32) = iN 0 from rfl, x_g, da_ac hd]; exact iN_vp (by omega) (by decide)
  · rw [show (0 : Int32) = iN 0 from rfl, x_g, iN_cl (by omega)]; exact h
theorem s_trainsOf {d p : Nat} (hd : isDa d) (hp : p < 9) {st : St} {post : Int32 → St → Prop} (h : post (gA st (ch d 1) (2 + 4 * p + 1)) st) : P_X2_trainsOf d (iN p) st post := by
  refine ⟨_, da_c hd _, ?_, ?_⟩
  · rw [show (1 : Int32) = iN 1 from rfl, x_g, da_ac hd]; exact iN_vp (by omega) (by decide)
  · rw [show (1 : Int32) = iN 1 from rfl, x_g, iN_cl (by omega)]; exact h
theorem s_onionsOf {d p : Nat} (hd : isDa d) (hp : p < 9) {st : St} {post : Int32 → St → Prop} (h : post (gA st (ch d 1) (2 + 4 * p + 2)) st) : P_X2_onionsOf d (iN p) st post := by
  refine ⟨_, da_c hd _, ?_, ?_⟩
  · rw [show (2 + (iN p * 4)) + 2 = iN (2 + 4 * p + 2) from x_g p 2, da_ac hd]; exact iN_vp (by omega) (by decide)
  · rw [show (2 + (iN p * 4)) + 2 = iN (2 + 4 * p + 2) from x_g p 2, iN_cl (by omega)]; exact h
theorem s_ledBits {d p : Nat} (hd : isDa d) (hp : p < 9) {st : St} {post : Int32 → St → Prop} (h : post (gA st (ch d 1) (2 + 4 * p + 3)) st) : P_X2_ledBits d (iN p) st post := by
  refine ⟨_, da_c hd _, ?_, ?_⟩
  · rw [show (3 : Int32) = iN 3 from rfl, x_g, da_ac hd]; exact iN_vp (by omega) (by decide)
  · rw [show (3 : Int32) = iN 3 from rfl, x_g, iN_cl (by omega)]; exact h
theorem s_setGrief {d p : Nat} (hd : isDa d) (hp : p < 9) {x : Int32} {st : St} {post : St → Prop} (h : post (sA st (ch d 1) (2 + 4 * p) x)) : P_X2_setGrief d (iN p) x st post := by
  refine ⟨_, da_c hd _, ?_, ?_⟩
  · rw [show (0 : Int32) = iN 0 from rfl, x_g, da_ac hd]; exact iN_vp (by omega) (by decide)
  · rw [show (0 : Int32) = iN 0 from rfl, x_g, iN_cl (by omega)]; exact h
theorem s_setTrains {d p : Nat} (hd : isDa d) (hp : p < 9) {x : Int32} {st : St} {post : St → Prop} (h : post (sA st (ch d 1) (2 + 4 * p + 1) x)) : P_X2_setTrains d (iN p) x st post := by
  refine ⟨_, da_c hd _, ?_, ?_⟩
  · rw [show (1 : Int32) = iN 1 from rfl, x_g, da_ac hd]; exact iN_vp (by omega) (by decide)
  · rw [show (1 : Int32) = iN 1 from rfl, x_g, iN_cl (by omega)]; exact h
theorem s_setOnions {d p : Nat} (hd : isDa d) (hp : p < 9) {x : Int32} {st : St} {post : St → Prop} (h : post (sA st (ch d 1) (2 + 4 * p + 2) x)) : P_X2_setOnions d (iN p) x st post := by
  refine ⟨_, da_c hd _, ?_, ?_⟩
  · rw [show (2 + (iN p * 4)) + 2 = iN (2 + 4 * p + 2) from x_g p 2, da_ac hd]; exact iN_vp (by omega) (by decide)
  · rw [show (2 + (iN p * 4)) + 2 = iN (2 + 4 * p + 2) from x_g p 2, iN_cl (by omega)]; exact h
theorem s_weddingOf {d b : Nat} (hd : isDa d) (hb : b < 6) {st : St} {post : Int32 → St → Prop} (h : post (gA st (ch d 1) (38 + 3 * b)) st) : P_X2_weddingOf d (iN b) st post := by
  refine ⟨_, da_c hd _, ?_, ?_⟩
  · rw [show (0 : Int32) = iN 0 from rfl, x_b, da_ac hd]; exact iN_vp (by omega) (by decide)
  · rw [show (0 : Int32) = iN 0 from rfl, x_b, iN_cl (by omega)]; exact h
theorem s_setWedding {d b : Nat} (hd : isDa d) (hb : b < 6) {x : Int32} {st : St} {post : St → Prop} (h : post (sA st (ch d 1) (38 + 3 * b) x)) : P_X2_setWedding d (iN b) x st post := by
  refine ⟨_, da_c hd _, ?_, ?_⟩
  · rw [show (0 : Int32) = iN 0 from rfl, x_b, da_ac hd]; exact iN_vp (by omega) (by decide)
  · rw [show (0 : Int32) = iN 0 from rfl, x_b, iN_cl (by omega)]; exact h
theorem s_isHome {d b : Nat} (hd : isDa d) (hb : b < 6) {st : St} {post : Int32 → St → Prop} (h : post (if gA st (ch d 1) (38 + 3 * b + 1) = 1 then 1 else 0) st) : P_X2_isHome d (iN b) st post := by
  refine ⟨_, da_c hd _, ?_, fun hc => ⟨Or.inl rfl, ?_⟩, fun hc => ⟨Or.inr rfl, ?_⟩⟩
  · rw [show (38 + (iN b * 3)) + 1 = iN (38 + 3 * b + 1) from x_b b 1, da_ac hd]; exact iN_vp (by omega) (by decide)
  · rw [show (38 + (iN b * 3)) + 1 = iN (38 + 3 * b + 1) from x_b b 1, iN_cl (by omega)] at hc
    rw [if_neg hc] at h; exact h
  · rw [show (38 + (iN b * 3)) + 1 = iN (38 + 3 * b + 1) from x_b b 1, iN_cl (by omega)] at hc
    rw [if_pos hc] at h; exact h
theorem s_whoLed {d b : Nat} (hd : isDa d) (hb : b < 6) {st : St} {post : Int32 → St → Prop} (h : post (gA st (ch d 1) (38 + 3 * b + 2)) st) : P_X2_whoLed d (iN b) st post := by
  refine ⟨_, da_c hd _, ?_, ?_⟩
  · rw [show (2 : Int32) = iN 2 from rfl, x_b, da_ac hd]; exact iN_vp (by omega) (by decide)
  · rw [show (2 : Int32) = iN 2 from rfl, x_b, iN_cl (by omega)]; exact h
theorem s_leaderWeight {d b : Nat} (hd : isDa d) (hb : b < 6) {st : St} {post : Int32 → St → Prop} (h : post (gA st (ch d 3) b) st) : P_X2_leaderWeight d (iN b) st post := by
  refine ⟨_, da_w hd _, ?_, ?_⟩
  · rw [da_aw hd]; exact iN_vp (by omega) (by decide)
  · rw [iN_cl (by omega)]; exact h
theorem s_yearsOf {d p b : Nat} (hd : isDa d) (hp : p < 9) (hb : b < 6) {st : St} {post : Int32 → St → Prop} (h : post (gA st (ch d 1) (56 + 6 * p + b)) st) : P_X2_yearsOf d (iN p) (iN b) st post := by
  refine ⟨_, da_c hd _, ?_, ?_⟩
  · rw [x_t, da_ac hd]; exact iN_vp (by omega) (by decide)
  · rw [x_t, iN_cl (by omega)]; exact h
theorem s_setYears {d p b : Nat} (hd : isDa d) (hp : p < 9) (hb : b < 6) {x : Int32} {st : St} {post : St → Prop} (h : post (sA st (ch d 1) (56 + 6 * p + b) x)) : P_X2_setYears d (iN p) (iN b) x st post := by
  refine ⟨_, da_c hd _, ?_, ?_⟩
  · rw [x_t, da_ac hd]; exact iN_vp (by omega) (by decide)
  · rw [x_t, iN_cl (by omega)]; exact h
theorem s_welcome {d b : Nat} (hd : isDa d) (hb : b < 6) {x : Int32} {st : St} {post : St → Prop} (h : post (sA (sA (sA st (ch d 1) (38 + 3 * b) x) (ch d 1) (38 + 3 * b + 1) 1) (ch d 1) (38 + 3 * b + 2) (-1))) : P_X2_welcome d (iN b) x st post := by
  have e0 : (38 + (iN b * 3)) + 0 = iN (38 + 3 * b) := x_b b 0
  have e1 : (38 + (iN b * 3)) + 1 = iN (38 + 3 * b + 1) := x_b b 1
  have e2 : (38 + (iN b * 3)) + 2 = iN (38 + 3 * b + 2) := x_b b 2
  unfold P_X2_welcome
  rw [e0, e1, e2, iN_cl (by omega), iN_cl (by omega), iN_cl (by omega)]
  refine ⟨_, da_c hd _, ?_, _, da_c hd _, ?_, _, da_c hd _, ?_, h⟩
  all_goals (rw [da_ac hd]; exact iN_vp (by omega) (by decide))
end Get
/-! a plan as a value: people, brides, kinds, the two rules (told, length, row) -/
abbrev Rl : Type := Int32 × Nat × (Nat → Int32)
abbrev PD : Type := Nat × Nat × (Nat → Int32) × Rl × Rl
def rlOf (st : St) (r : Nat) : Rl := (gI st r 0, (gI st r 2).toNatClampNeg, gA st (ch r 1))
def pdOf (st : St) (p : Nat) : PD := ((gI st p 0).toNatClampNeg, (gI st p 1).toNatClampNeg, gA st (ch p 2), rlOf st (ch p 3), rlOf st (ch p 4))
/-- a rule that may be worked out -/
def RlOk (q : Rl) : Prop := q.1 ≠ 0 → wfR q.2.1 q.2.2
def PDok (q : PD) : Prop := q.1 ≤ 9 ∧ q.2.1 ≤ 6 ∧ RlOk q.2.2.2.1 ∧ RlOk q.2.2.2.2
/-- the dale d stands on the plan p, whose value is q -/
def DSt (st : St) (d p : Nat) (q : PD) : Prop := isDa d ∧ isPl p ∧ gR st d 0 = some p ∧ pdOf st p = q ∧ ¬ gI st p 0 < 0 ∧ ¬ gI st p 1 < 0 ∧ ¬ gI st (ch p 3) 2 < 0 ∧ ¬ gI st (ch p 4) 2 < 0 ∧ PDok q
theorem nclp {x : Int32} {n : Nat} (h : ¬ x < 0) (e : x.toNatClampNeg = n) : x = iN n := by rw [← e]; exact (nn_iN h).1
section Ds
variable {st : St} {d p : Nat} {q : PD} (D : DSt st d p q)
theorem DSt.np {st : St} {d p : Nat} {q : PD} (D : DSt st d p q) : gI st p 0 = iN q.1 := nclp D.2.2.2.2.1 (congrArg (·.1) D.2.2.2.1)
theorem DSt.nb {st : St} {d p : Nat} {q : PD} (D : DSt st d p q) : gI st p 1 = iN q.2.1 := nclp D.2.2.2.2.2.1 (congrArg (·.2.1) D.2.2.2.1)
theorem DSt.kd {st : St} {d p : Nat} {q : PD} (D : DSt st d p q) : gA st (ch p 2) = q.2.2.1 := congrArg (·.2.2.1) D.2.2.2.1
theorem DSt.wt {st : St} {d p : Nat} {q : PD} (D : DSt st d p q) : gI st (ch p 3) 0 = q.2.2.2.1.1 := congrArg (·.2.2.2.1.1) D.2.2.2.1
theorem DSt.wl {st : St} {d p : Nat} {q : PD} (D : DSt st d p q) : gI st (ch p 3) 2 = iN q.2.2.2.1.2.1 := nclp D.2.2.2.2.2.2.1 (congrArg (·.2.2.2.1.2.1) D.2.2.2.1)
theorem DSt.wr {st : St} {d p : Nat} {q : PD} (D : DSt st d p q) : gA st (ch (ch p 3) 1) = q.2.2.2.1.2.2 := congrArg (·.2.2.2.1.2.2) D.2.2.2.1
theorem DSt.mt {st : St} {d p : Nat} {q : PD} (D : DSt st d p q) : gI st (ch p 4) 0 = q.2.2.2.2.1 := congrArg (·.2.2.2.2.1) D.2.2.2.1
theorem DSt.ml {st : St} {d p : Nat} {q : PD} (D : DSt st d p q) : gI st (ch p 4) 2 = iN q.2.2.2.2.2.1 := nclp D.2.2.2.2.2.2.2.1 (congrArg (·.2.2.2.2.2.1) D.2.2.2.1)
theorem DSt.mr {st : St} {d p : Nat} {q : PD} (D : DSt st d p q) : gA st (ch (ch p 4) 1) = q.2.2.2.2.2.2 := congrArg (·.2.2.2.2.2.2) D.2.2.2.1
theorem DSt.hd {st : St} {d p : Nat} {q : PD} (D : DSt st d p q) : isDa d := D.1
theorem DSt.hp {st : St} {d p : Nat} {q : PD} (D : DSt st d p q) : isPl p := D.2.1
theorem DSt.pl {st : St} {d p : Nat} {q : PD} (D : DSt st d p q) : rv st d 2 0 = some p := (da_p D.1 _).trans D.2.2.1
theorem DSt.ok {st : St} {d p : Nat} {q : PD} (D : DSt st d p q) : PDok q := D.2.2.2.2.2.2.2.2
end Ds
/-- arrays that no plan stands on -/
def nPl (S : Nat → Prop) : Prop := (∀ p, isPl p → ¬ S (ch p 2)) ∧ ∀ r, isRu r → ¬ S (ch r 1)
theorem pd_ex {S : Nat → Prop} (hS : nPl S) {a b : St} (h : Ex S a b) {p : Nat} (hp : isPl p) : pdOf b p = pdOf a p := by
  unfold pdOf rlOf
  rw [h.eI, h.eI, h.eI, h.eI, h.eI, h.eI, h.eA (hS.1 p hp), h.eA (hS.2 _ (pl_rw hp)), h.eA (hS.2 _ (pl_rm hp))]
theorem DSt.ex {S : Nat → Prop} (hS : nPl S) {a b : St} (h : Ex S a b) {d p : Nat} {q : PD} (D : DSt a d p q) : DSt b d p q := by
  obtain ⟨h1, h2, h3, h4, h5, h6, h7, h8, h9⟩ := D
  exact ⟨h1, h2, by rw [h.eR]; exact h3, (pd_ex hS h h2).trans h4, by rw [h.eI]; exact h5, by rw [h.eI]; exact h6, by rw [h.eI]; exact h7, by rw [h.eI]; exact h8, h9⟩
theorem npl_scv {d : Nat} (hd : isDa d) : nPl (ScV d) := ⟨fun _ hp => scv_k hd hp, fun _ hr => scv_r hd hr⟩
/-! the people who are tied to a bride -/
def bit (k : Nat) : Int32 := (1 : Int32) <<< ((iN k : Int32) &&& 31)
def tiedS (np : Nat) (c : Nat → Int32) (b : Nat) : Int32 := lp (fun p s => if 0 < c (56 + 6 * p + b) then s ||| bit p else s) 0 np
def tiedB (nb : Nat) (c : Nat → Int32) (p : Nat) : Int32 := lp (fun b s => if 0 < c (56 + 6 * p + b) then s ||| bit b else s) 0 nb
theorem s_peopleTiedTo {st : St} {d p b : Nat} {q : PD} (D : DSt st d p q) (hb : b < 6) {post : Int32 → St → Prop} (h : post (tiedS q.1 (gA st (ch d 1)) b) st) : P_X2_peopleTiedTo d (iN b) st post := by
  have hq := D.ok.1
  refine ⟨q.1 + 1, loop_up (P := fun n i a st => P_X2_peopleTiedTo_4 d (iN b) post n a i st) (N := q.1) (fun i a st' => st' = st ∧ a = tiedS i (gA st (ch d 1)) b) ?_ ?_ q.1 0 0 st (by omega) ⟨rfl, rfl⟩⟩
  · rintro i hi a st' n ⟨rfl, rfl⟩ ih
    show P_X2_peopleTiedTo_4 d (iN b) post (n + 1) _ (iN i) st'
    unfold P_X2_peopleTiedTo_4
    refine ⟨_, D.pl, pl_0 D.hp, fun hc => ?_, fun _ => ⟨_, da_c D.hd _, ?_, ?_⟩⟩
    · rw [D.np, iN_le (by omega) (by omega)] at hc; omega
    · rw [x_t, da_ac D.hd]; exact iN_vp (by omega) (by decide)
    rw [x_t, iN_cl (by omega)]
    refine ⟨fun hc => ?_, fun hc => ?_⟩
    · show P_X2_peopleTiedTo_4 d (iN b) post n _ (iN i + 1) st'
      rw [iN_s]
      refine ih _ _ ⟨rfl, ?_⟩
      show _ = if 0 < _ then _ else _
      rw [if_neg (Int32.not_lt.mpr hc)]; rfl
    · show P_X2_peopleTiedTo_4 d (iN b) post n _ (iN i + 1) st'
      rw [iN_s]
      refine ih _ _ ⟨rfl, ?_⟩
      show _ = if 0 < _ then _ else _
      rw [if_pos (Int32.not_le.mp hc)]; rfl
  · rintro a st' n ⟨rfl, rfl⟩
    show P_X2_peopleTiedTo_4 d (iN b) post (n + 1) _ (iN q.1) st'
    unfold P_X2_peopleTiedTo_4
    refine ⟨_, D.pl, pl_0 D.hp, fun _ => h, fun hc => absurd ?_ hc⟩
    rw [D.np]; exact Int32.le_refl _
theorem s_bridesTiedTo {st : St} {d p x : Nat} {q : PD} (D : DSt st d p q) (hx : x < 9) {post : Int32 → St → Prop} (h : post (tiedB q.2.1 (gA st (ch d 1)) x) st) : P_X2_bridesTiedTo d (iN x) st post := by
  have hq := D.ok.2.1
  refine ⟨q.2.1 + 1, loop_up (P := fun n i a st => P_X2_bridesTiedTo_4 d (iN x) post n a i st) (N := q.2.1) (fun i a st' => st' = st ∧ a = tiedB i (gA st (ch d 1)) x) ?_ ?_ q.2.1 0 0 st (by omega) ⟨rfl, rfl⟩⟩
  · rintro i hi a st' n ⟨rfl, rfl⟩ ih
    show P_X2_bridesTiedTo_4 d (iN x) post (n + 1) _ (iN i) st'
    unfold P_X2_bridesTiedTo_4
    refine ⟨_, D.pl, pl_1 D.hp, fun hc => ?_, fun _ => ⟨da_o D.hd, s_yearsOf D.hd hx (by omega) ⟨fun hc => ?_, fun hc => ?_⟩⟩⟩
    · rw [D.nb, iN_le (by omega) (by omega)] at hc; omega
    · show P_X2_bridesTiedTo_4 d (iN x) post n _ (iN i + 1) st'
      rw [iN_s]
      refine ih _ _ ⟨rfl, ?_⟩
      show _ = if 0 < _ then _ else _
      rw [if_neg (Int32.not_lt.mpr hc)]; rfl
    · show P_X2_bridesTiedTo_4 d (iN x) post n _ (iN i + 1) st'
      rw [iN_s]
      refine ih _ _ ⟨rfl, ?_⟩
      show _ = if 0 < _ then _ else _
      rw [if_pos (Int32.not_le.mp hc)]; rfl
  · rintro a st' n ⟨rfl, rfl⟩
    show P_X2_bridesTiedTo_4 d (iN x) post (n + 1) _ (iN q.2.1) st'
    unfold P_X2_bridesTiedTo_4
    refine ⟨_, D.pl, pl_1 D.hp, fun _ => h, fun hc => absurd ?_ hc⟩
    rw [D.nb]; exact Int32.le_refl _
