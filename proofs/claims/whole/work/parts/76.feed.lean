/-! PURE: feed -/
theorem BkC.cg {a b : St} {o : Nat} (hI : ∀ o2 k, (o2 = 7 + o ∨ o2 = 9 + o) → gI b o2 k = gI a o2 k) (hA : ∀ x, 4 + o ≤ x → x ≤ 15 + o → gA b x = gA a x) {v : Bk} (B : BkC a o v) : BkC b o v := by
  obtain ⟨b1, b2, b3, b4, b5⟩ := B
  exact ⟨by rw [hA _ (by omega) (by omega)]; exact b1, b2.cg (fun k => hI _ _ (Or.inl rfl)) (hA _ (by omega) (by omega)), by rw [hI _ _ (Or.inr rfl)]; exact b3, fun i hi k hk => by rw [hA _ (by omega) (by omega)]; exact b4 i hi k hk, fun k hk => by rw [hA _ (by omega) (by omega)]; exact b5 k hk⟩
def byC (a x : Int32) : Int32 := (((a : Int32).toUInt32 >>> ((x : Int32).toUInt32 &&& Int32.toUInt32 31)).toInt32) &&& 255
theorem by_rng (a x : Int32) : ∃ k, k < 256 ∧ byC a x = iN k := by
  obtain ⟨k, h1, h2⟩ := and_rng (((a : Int32).toUInt32 >>> ((x : Int32).toUInt32 &&& Int32.toUInt32 31)).toInt32) 255
  exact ⟨k, by omega, h2⟩
theorem sh24 (x : Int32) : (x >>> ((iN 24 : Int32) &&& 31)) &&& 255 = byC x (iN 24) := by
  apply Int32.toBitVec_inj.mp
  show (x.toBitVec.sshiftRight' ((24#32 &&& 31#32).smod 32#32)) &&& BitVec.ofNat 32 255 = (x.toBitVec >>> ((24#32 &&& 31#32) % 32#32)) &&& BitVec.ofNat 32 255
  rw [BitVec.ushiftRight_eq', BitVec.sshiftRight_eq', show ((24#32 &&& 31#32) % 32#32).toNat = 24 by decide, show ((24#32 &&& 31#32).smod 32#32).toNat = 24 by decide]
  exact (bv_sh _ 24 255 (by decide)).symm
theorem sh16b (x : Int32) : (x >>> ((iN 16 : Int32) &&& 31)) &&& 255 = byC x (iN 16) := by
  apply Int32.toBitVec_inj.mp
  show (x.toBitVec.sshiftRight' ((16#32 &&& 31#32).smod 32#32)) &&& BitVec.ofNat 32 255 = (x.toBitVec >>> ((16#32 &&& 31#32) % 32#32)) &&& BitVec.ofNat 32 255
  rw [BitVec.ushiftRight_eq', BitVec.sshiftRight_eq', show ((16#32 &&& 31#32) % 32#32).toNat = 16 by decide, show ((16#32 &&& 31#32).smod 32#32).toNat = 16 by decide]
  exact (bv_sh _ 16 255 (by decide)).symm
theorem sh8b (x : Int32) : (x >>> ((iN 8 : Int32) &&& 31)) &&& 255 = byC x (iN 8) := by
  apply Int32.toBitVec_inj.mp
  show (x.toBitVec.sshiftRight' ((8#32 &&& 31#32).smod 32#32)) &&& BitVec.ofNat 32 255 = (x.toBitVec >>> ((8#32 &&& 31#32) % 32#32)) &&& BitVec.ofNat 32 255
  rw [BitVec.ushiftRight_eq', BitVec.sshiftRight_eq', show ((8#32 &&& 31#32) % 32#32).toNat = 8 by decide, show ((8#32 &&& 31#32).smod 32#32).toNat = 8 by decide]
  exact (bv_sh _ 8 255 (by decide)).symm
theorem sh0b (x : Int32) : (x >>> ((iN 0 : Int32) &&& 31)) &&& 255 = byC x (iN 0) := by
  apply Int32.toBitVec_inj.mp
  show (x.toBitVec.sshiftRight' ((0#32 &&& 31#32).smod 32#32)) &&& BitVec.ofNat 32 255 = (x.toBitVec >>> ((0#32 &&& 31#32) % 32#32)) &&& BitVec.ofNat 32 255
  rw [BitVec.ushiftRight_eq', BitVec.sshiftRight_eq', show ((0#32 &&& 31#32) % 32#32).toNat = 0 by decide, show ((0#32 &&& 31#32).smod 32#32).toNat = 0 by decide]
  exact (bv_sh _ 0 255 (by decide)).symm
theorem shN (x : Int32) {i : Nat} (hi : i < 4) : (x >>> ((iN (24 - 8 * i) : Int32) &&& 31)) &&& 255 = byC x (iN (24 - 8 * i)) := by
  have h : i = 0 ∨ i = 1 ∨ i = 2 ∨ i = 3 := by omega
  rcases h with rfl | rfl | rfl | rfl
  · exact sh24 x
  · exact sh16b x
  · exact sh8b x
  · exact sh0b x
theorem shK : ∀ k, k < 20 → (24 : Int32) - 8 * (iN k - iN k / 4 * 4) = iN (24 - 8 * (k % 4)) := by decide
def wd5 (a1 a2 a3 a4 a5 : Int32) (k : Nat) : Int32 := if k < 4 then a1 else if k < 8 then a2 else if k < 12 then a3 else if k < 16 then a4 else a5
def fdG (n : Nat) (T : Nat → Int32) (a1 a2 a3 a4 a5 : Int32) (j : Nat) : Int32 := if j < n then T j else byC (wd5 a1 a2 a3 a4 a5 (j - n)) (iN (24 - 8 * ((j - n) % 4)))
def ITp (o k : Nat) : Prop := o = 0 ∧ k = 1
/-- the class's tape holds so many bytes of G -/
def TpC (s0 st : St) (m : Nat) (G : Nat → Int32) : Prop := Fx ITp (Sa 1) s0 st ∧ gI st 0 1 = iN m ∧ ∀ j, j < m → gA st 1 j = G j
theorem TpC.up {s0 st : St} {m : Nat} {G : Nat → Int32} (J : TpC s0 st m G) : TpC s0 (sI (sA st 1 m (G m)) 0 1 (iN (m + 1))) (m + 1) G := by
  obtain ⟨F, e, r⟩ := J
  refine ⟨(F.tr (Fx.sa (S := Sa 1) (x := 1) rfl _ _)).tr (Fx.si (k := 1) ⟨rfl, rfl⟩ _), gI_sI _ _ _ _, fun j hj => ?_⟩
  rw [gA_sI, gA_sA]
  by_cases e9 : j = m
  · rw [e9, upd_same]
  · rw [upd_ne e9]; exact r j (by omega)
theorem s_fn1 {s0 st : St} {m n8 : Nat} {G : Nat → Int32} {a x : Int32} {post : St → Prop} (J : TpC s0 st m G) (hm : m < 700) (hx : ¬ x < 0) (hG : G m = byC a x) (h : ∀ st1, TpC s0 st1 (m + 1) G → P_X11_feedNumber_3 0 a post n8 (x + (-8)) st1) : P_X11_feedNumber_3 0 a post (n8 + 1) x st := by
  have e := J.2.1
  unfold P_X11_feedNumber_3
  refine ⟨fun hz => absurd hz hx, fun _ => ⟨rfl, fun hz => ?_, fun _ => ⟨1, rfl, rfl, ?_, rfl, rfl, ?_⟩⟩⟩
  · rw [e] at hz; exact absurd hz (nle (a := 700) (by decide) hm)
  · rw [e]; exact iN_vp (n := 700) hm (by decide)
  · rw [gI_sA, e, iN_cl (by omega), iN_s]
    have K := h _ J.up
    rw [hG] at K
    exact K
theorem s_feedN {s0 st : St} {m : Nat} {G : Nat → Int32} {a : Int32} {post : St → Prop} (J : TpC s0 st m G) (hm : m + 4 ≤ 700) (hG : ∀ i, i < 4 → G (m + i) = byC a (iN (24 - 8 * i))) (h : ∀ st1, TpC s0 st1 (m + 4) G → post st1) : P_X11_feedNumber 0 a st post := by
  refine ⟨5, s_fn1 J (by omega) (by decide) (hG 0 (by decide)) (fun s1 J1 => s_fn1 J1 (by omega) (by decide) (hG 1 (by decide)) (fun s2 J2 => s_fn1 J2 (by omega) (by decide) (hG 2 (by decide)) (fun s3 J3 => s_fn1 J3 (by omega) (by decide) (hG 3 (by decide)) (fun s4 J4 => ?_))))⟩
  unfold P_X11_feedNumber_3
  exact ⟨fun _ => h s4 J4, fun hz => absurd (by decide) hz⟩
theorem fdG_w {n : Nat} {T : Nat → Int32} {a1 a2 a3 a4 a5 : Int32} {w : Nat} {a : Int32} (hw : ∀ i, i < 4 → wd5 a1 a2 a3 a4 a5 (4 * w + i) = a) : ∀ i, i < 4 → fdG n T a1 a2 a3 a4 a5 (n + 4 * w + i) = byC a (iN (24 - 8 * i)) := by
  intro i hi
  unfold fdG
  rw [if_neg (by omega), show n + 4 * w + i - n = 4 * w + i by omega, hw i hi, show (4 * w + i) % 4 = i by omega]
theorem npl1 : nPl (Sa 1) := by
  refine ⟨fun p hp => ?_, fun r hr => ?_⟩
  · rcases hp with rfl | rfl <;> unfold Sa <;> decide
  · rcases hr with rfl | rfl | rfl | rfl <;> unfold Sa <;> decide
def sett (v : AV) (n : Nat) (G : Nat → Int32) : AV := (v.1, v.2.1, v.2.2.1, (n, G), v.2.2.2.2)
theorem tpInv {a b : St} {v : AV} {m : Nat} {G : Nat → Int32} (H : InvC a v) (J : TpC a b m G) : CFr a b ∧ InvC b (sett v m G) := by
  obtain ⟨F, e, r⟩ := J
  have gi : ∀ o k, ¬ (o = 0 ∧ k = 1) → gI b o k = gI a o k := fun o k q => F.eI q
  have ga : ∀ x, x ≠ 1 → gA b x = gA a x := fun x q => F.eA q
  refine ⟨⟨fun o k q => gi o k (by omega), fun o k _ => F.eR o k, fun x q => ga x (by omega)⟩, ?_⟩
  obtain ⟨p, p', h1, h2, h3, h4, ⟨pt, h5, h5'⟩, ⟨pp, h6, h6', h6z⟩, h7, h8, h9, h10, h11, h12⟩ := H
  refine ⟨p, p', h1.fx F (fun o k z => Or.inl (by have := z.1; omega)) npl1, h2, h3, by rw [F.eR]; exact h4, ⟨pt, h5, by rw [F.eR]; exact h5'⟩, ⟨pp, h6, by rw [F.eR]; exact h6', fun j hj => by rw [ga _ (by decide)]; exact h6z j hj⟩, h7.cg (fun o k q => gi o k (by omega)) (fun x q1 q2 => ga x (by omega)), fun e => by rw [gi _ _ (by decide)]; exact h8 e, fun w e => ?_, e, r, by rw [gi _ _ (by decide)]; exact h12⟩
  obtain ⟨w1, w2, w3⟩ := h9 w e
  exact ⟨by rw [gi _ _ (by decide)]; exact w1, by rw [F.eR]; exact w2, w3.cg (fun o k q => gi o k (by omega)) (fun x q1 q2 => ga x (by omega))⟩
/-! the reference -/
def ITm (o k : Nat) : Prop := o = 58 ∧ k = 16
def TpM (s0 st : St) (m : Nat) (G : Nat → Int32) : Prop := Fx ITm (Sa 72) s0 st ∧ gI st 58 16 = iN m ∧ ∀ j, j < m → gA st 72 j = G j
theorem TpM.up {s0 st : St} {m : Nat} {G : Nat → Int32} (J : TpM s0 st m G) : TpM s0 (sI (sA st 72 m (G m)) 58 16 (iN (m + 1))) (m + 1) G := by
  obtain ⟨F, e, r⟩ := J
  refine ⟨(F.tr (Fx.sa (S := Sa 72) (x := 72) rfl _ _)).tr (Fx.si (k := 16) ⟨rfl, rfl⟩ _), gI_sI _ _ _ _, fun j hj => ?_⟩
  rw [gA_sI, gA_sA]
  by_cases e9 : j = m
  · rw [e9, upd_same]
  · rw [upd_ne e9]; exact r j (by omega)
theorem s_fm76 {s0 st : St} {m k : Nat} {G : Nat → Int32} {a1 a2 a3 a4 a5 w : Int32} {k23 : Int32 → St → Prop} {post : Int32 → St → Prop} (J : TpM s0 st m G) (hm : m < 700) (hk : k < 20) (hG : G m = byC w (iN (24 - 8 * (k % 4)))) (h : ∀ st1, TpM s0 st1 (m + 1) G → k23 (iN (k + 1)) st1) : P_X12_feed_76 58 a1 a2 a3 a4 a5 k23 post (iN k) w st := by
  have e := J.2.1
  refine ⟨72, rfl, rfl, ?_, rfl, rfl, ?_⟩
  · rw [e]; exact iN_vp (n := 700) hm (by decide)
  · rw [gI_sA, e, iN_cl (by omega), iN_s, iN_s, shK k hk, shN w (Nat.mod_lt _ (by decide))]
    have K := h _ J.up
    rw [hG] at K
    exact K
theorem s_feedM {st : St} {n : Nat} {T : Nat → Int32} {a1 a2 a3 a4 a5 : Int32} (J : TpM st st n (fdG n T a1 a2 a3 a4 a5)) (hn : n + 20 ≤ 700) {post : Int32 → St → Prop} (h : ∀ st1, TpM st st1 (n + 20) (fdG n T a1 a2 a3 a4 a5) → post (iN (n + 20)) st1) : ∃ n8, P_X12_feed_23 58 a1 a2 a3 a4 a5 post n8 0 st := by
  refine ⟨21, loop_up (α := Unit) (P := fun n8 i _ st => P_X12_feed_23 58 a1 a2 a3 a4 a5 post n8 i st) (N := 20) (fun i _ st' => TpM st st' (n + i) (fdG n T a1 a2 a3 a4 a5)) ?_ ?_ 20 0 () st (by omega) J⟩
  · rintro i hi _ st' n8 J2 ih
    have hG : fdG n T a1 a2 a3 a4 a5 (n + i) = byC (wd5 a1 a2 a3 a4 a5 i) (iN (24 - 8 * (i % 4))) := by
      unfold fdG
      rw [if_neg (by omega), show n + i - n = i by omega]
    have K : ∀ w, wd5 a1 a2 a3 a4 a5 i = w → P_X12_feed_76 58 a1 a2 a3 a4 a5 (fun x6 st => P_X12_feed_23 58 a1 a2 a3 a4 a5 post n8 x6 st) post (iN i) w st' := fun w ew => s_fm76 J2 (by omega) hi (by rw [hG, ew]) (fun s1 J1 => ih () s1 J1)
    have le : ∀ c, c < 100 → (iN c ≤ iN i ↔ c ≤ i) := fun c hc => iN_le (by omega) (by omega)
    show P_X12_feed_23 58 a1 a2 a3 a4 a5 post (n8 + 1) (iN i) st'
    unfold P_X12_feed_23
    refine ⟨fun hz => absurd hz (nle (a := 20) (by omega) hi), fun _ => ⟨fun z4 => ⟨fun z8 => ⟨fun z12 => ⟨fun z16 => K _ ?_, fun z16 => K _ ?_⟩, fun z12 => K _ ?_⟩, fun z8 => K _ ?_⟩, fun z4 => K _ ?_⟩⟩
    · have z4 := (le 4 (by decide)).mp z4
      have z8 := (le 8 (by decide)).mp z8
      have z12 := (le 12 (by decide)).mp z12
      have z16 := (le 16 (by decide)).mp z16
      unfold wd5
      rw [if_neg (by omega), if_neg (by omega), if_neg (by omega), if_neg (by omega)]
    · have z12 := (le 12 (by decide)).mp z12
      have z16 : ¬ 16 ≤ i := fun y => z16 ((le 16 (by decide)).mpr y)
      unfold wd5
      rw [if_neg (by omega), if_neg (by omega), if_neg (by omega), if_pos (by omega)]
    · have z8 := (le 8 (by decide)).mp z8
      have z12 : ¬ 12 ≤ i := fun y => z12 ((le 12 (by decide)).mpr y)
      unfold wd5
      rw [if_neg (by omega), if_neg (by omega), if_pos (by omega)]
    · have z4 := (le 4 (by decide)).mp z4
      have z8 : ¬ 8 ≤ i := fun y => z8 ((le 8 (by decide)).mpr y)
      unfold wd5
      rw [if_neg (by omega), if_pos (by omega)]
    · have z4 : ¬ 4 ≤ i := fun y => z4 ((le 4 (by decide)).mpr y)
      unfold wd5
      rw [if_pos (by omega)]
  · rintro _ st' n8 J2
    show P_X12_feed_23 58 a1 a2 a3 a4 a5 post (n8 + 1) (iN 20) st'
    unfold P_X12_feed_23
    refine ⟨fun _ => ⟨rfl, ?_⟩, fun hz => absurd (Int32.le_refl _) hz⟩
    rw [J2.2.1]
    exact h st' J2
theorem tpInvM {a b : St} {v : AV} {m : Nat} {G : Nat → Int32} (H : InvM a v) (J : TpM a b m G) : MFr a b ∧ InvM b (sett v m G) := by
  obtain ⟨F, e, r⟩ := J
  have gi : ∀ k, k ≠ 16 → gI b 58 k = gI a 58 k := fun k q => F.eI (fun z => q z.2)
  have ga : ∀ x, x ≠ 72 → gA b x = gA a x := fun x q => F.eA q
  have mN : ∀ k, k < 5 → mseN k ≠ 72 := by decide
  have mT : ∀ k, k < 5 → mseT k ≠ 72 := by decide
  refine ⟨F.mfr (fun o k z => by rw [z.1]; decide) (fun x z => by rw [z]; decide), ?_⟩
  obtain ⟨h1, ⟨b1, b2, b3, b4, b5, b6⟩, h3, h4, h5, h6, h7, hB⟩ := H
  refine ⟨h1.fx F (by unfold nMP Sa; decide), ⟨(mC_fx F (by unfold ITm; decide) (by unfold ITm; decide) (fun x z y => by rw [z] at y; unfold isM at y; omega) _).trans b1, by rw [gi 38 (by decide)]; exact b2, fun k hk => by rw [ga 81 (by decide)]; exact b3 k hk, by rw [gi 39 (by decide)]; exact b4, fun i hi k hk => by rw [ga _ (mN k hk)]; exact b5 i hi k hk, fun k hk => by rw [ga 71 (by decide)]; exact b6 k hk⟩, fun e => by rw [gi 58 (by decide)]; exact h3 e, fun w e => ?_, e, r, by rw [gi 25 (by decide)]; exact h7, hB.cg (ga 93 (by decide)) (ga 105 (by decide))⟩
  obtain ⟨q1, t1, t2, t3, t4, t5, t6⟩ := h4 w e
  exact ⟨by rw [gi 58 (by decide)]; exact q1, by rw [ga 98 (by decide)]; exact t1, by rw [gi 59 (by decide)]; exact t2, fun k hk => by rw [ga 99 (by decide)]; exact t3 k hk, by rw [gi 60 (by decide)]; exact t4, fun i hi k hk => by rw [ga _ (mT k hk)]; exact t5 i hi k hk, fun k hk => by rw [ga 104 (by decide)]; exact t6 k hk⟩
theorem c_feed {a1 a2 a3 a4 a5 : Int32} {st : St} (hI : Inv st) : P_X11_feed 0 a1 a2 a3 a4 a5 st (fun r1 st1 => P_X12_feed 58 a1 a2 a3 a4 a5 st1 (fun r2 st2 => r1 = r2 ∧ Inv st2)) := by
  obtain ⟨v, H, HM, HO⟩ := hI
  have e1 : gI st 0 1 = iN v.2.2.2.1.1 := by obtain ⟨_, _, _, _, _, _, _, _, _, _, _, h10, _⟩ := H; exact h10
  have t1 : ∀ j, j < v.2.2.2.1.1 → gA st 1 j = v.2.2.2.1.2 j := by obtain ⟨_, _, _, _, _, _, _, _, _, _, _, _, h11, _⟩ := H; exact h11
  have hn := HO.2.2.2.2.1
  have ec : gI st 0 1 + 20 ≤ 700 ↔ v.2.2.2.1.1 + 20 ≤ 700 := by
    rw [e1]
    have e : iN v.2.2.2.1.1 + 20 = iN (v.2.2.2.1.1 + 20) := (iN_add _ 20).symm
    rw [e]
    exact iN_le (b := 700) (by omega) (by decide)
  have old : ∀ j, j < v.2.2.2.1.1 → fdG v.2.2.2.1.1 v.2.2.2.1.2 a1 a2 a3 a4 a5 j = v.2.2.2.1.2 j := fun j hj => by unfold fdG; rw [if_pos hj]
  refine ⟨rfl, fun hz => ?_, fun hz => ?_⟩
  · have hz := ec.mp hz
    have J0 : TpC st st v.2.2.2.1.1 (fdG v.2.2.2.1.1 v.2.2.2.1.2 a1 a2 a3 a4 a5) := ⟨Fx.rf, e1, fun j hj => (t1 j hj).trans (old j hj).symm⟩
    refine ⟨⟨_, rfl⟩, s_feedN J0 (by omega) (fdG_w (w := 0) (fun i hi => by unfold wd5; rw [if_pos (by omega)])) (fun s1 J1 => ⟨⟨_, rfl⟩, s_feedN J1 (by omega) (fdG_w (w := 1) (fun i hi => by unfold wd5; rw [if_neg (by omega), if_pos (by omega)])) (fun s2 J2 => ⟨⟨_, rfl⟩, s_feedN J2 (by omega) (fdG_w (w := 2) (fun i hi => by unfold wd5; rw [if_neg (by omega), if_neg (by omega), if_pos (by omega)])) (fun s3 J3 => ⟨⟨_, rfl⟩, s_feedN J3 (by omega) (fdG_w (w := 3) (fun i hi => by unfold wd5; rw [if_neg (by omega), if_neg (by omega), if_neg (by omega), if_pos (by omega)])) (fun s4 J4 => ⟨⟨_, rfl⟩, s_feedN J4 (by omega) (fdG_w (w := 4) (fun i hi => by unfold wd5; rw [if_neg (by omega), if_neg (by omega), if_neg (by omega), if_neg (by omega)])) (fun s5 J5 => ⟨rfl, ?_⟩)⟩)⟩)⟩)⟩)⟩
    have J5 : TpC st s5 (v.2.2.2.1.1 + 20) (fdG v.2.2.2.1.1 v.2.2.2.1.2 a1 a2 a3 a4 a5) := J5
    obtain ⟨c1, c2⟩ := tpInv H J5
    rw [J5.2.1]
    obtain ⟨I1, G1, k1⟩ := m_beg (HM.cfr c1)
    have e16 : gI (sI s5 58 4 0) 58 16 = iN v.2.2.2.1.1 := I1.2.2.2.2.1
    have t72 : ∀ j, j < v.2.2.2.1.1 → gA (sI s5 58 4 0) 72 j = v.2.2.2.1.2 j := I1.2.2.2.2.2.1
    refine ⟨rfl, rfl, fun _ => s_feedM ⟨Fx.rf, e16, fun j hj => (t72 j hj).trans (old j hj).symm⟩ hz (fun s6 J6 => ?_), fun hn2 => absurd ?_ hn2⟩
    · obtain ⟨d1, d2⟩ := tpInvM I1 J6
      refine ⟨rfl, _, c2.mfr (G1.tr d1), d2, ?_⟩
      obtain ⟨o1, o2, o3, o4, o5, o6⟩ := HO
      refine ⟨o1, o2, o3, o4, ?_, fun j hj => ?_⟩
      · show v.2.2.2.1.1 + 20 ≤ 700
        omega
      · show ∃ k, k < 256 ∧ fdG v.2.2.2.1.1 v.2.2.2.1.2 a1 a2 a3 a4 a5 j = iN k
        by_cases hj2 : j < v.2.2.2.1.1
        · rw [old j hj2]; exact o6 j hj2
        · unfold fdG
          rw [if_neg hj2]
          exact by_rng _ _
    · rw [e16]
      have e : iN v.2.2.2.1.1 + 20 = iN (v.2.2.2.1.1 + 20) := (iN_add _ 20).symm
      rw [e]
      exact (iN_le (b := 700) (by omega) (by decide)).mpr hz
  · obtain ⟨I1, G1, k1⟩ := m_beg HM
    have e16 : gI (sI st 58 4 0) 58 16 = iN v.2.2.2.1.1 := I1.2.2.2.2.1
    refine ⟨rfl, rfl, fun h2 => absurd ?_ hz, fun _ => ⟨rfl, v, H.mfr G1, I1, HO⟩⟩
    rw [e16, ← e1] at h2
    exact h2
