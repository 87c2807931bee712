/-! PURE: texts, tokens -/
def isWs (x : Int32) : Prop := x = 32 ∨ x = 10
def isLt (x : Int32) : Prop := ¬ x < 97 ∧ ¬ 122 < x
def isDg (x : Int32) : Prop := ¬ x < 48 ∧ ¬ 57 < x
def isMk (x : Int32) : Prop := ∃ j, j < 9 ∧ kb 3019 j = x
theorem scan_ex (p : Nat → Prop) (n : Nat) : ∀ r i, i + r = n → ∃ b, i ≤ b ∧ b ≤ n ∧ (∀ j, i ≤ j → j < b → p j) ∧ (b = n ∨ ¬ p b) := by
  intro r
  induction r with
  | zero => intro i hi; exact ⟨i, Nat.le_refl _, by omega, fun j h1 h2 => by omega, Or.inl (by omega)⟩
  | succ r ih =>
    intro i hi
    by_cases h : p i
    · obtain ⟨b, h1, h2, h3, h4⟩ := ih (i + 1) (by omega)
      refine ⟨b, by omega, h2, fun j j1 j2 => ?_, h4⟩
      by_cases e : j = i
      · rw [e]; exact h
      · exact h3 j (by omega) j2
    · exact ⟨i, Nat.le_refl _, by omega, fun j h1 h2 => by omega, Or.inr h⟩
section Chars
variable {st : St} {post : Int32 → St → Prop}
theorem s_ltC {x : Int32} (h1 : isLt x → post 1 st) (h0 : ¬ isLt x → post 0 st) : P_X8_isLetter x st post := ⟨fun z => ⟨Or.inl rfl, h0 (fun e => e.1 z)⟩, fun z1 => ⟨fun z => ⟨Or.inl rfl, h0 (fun e => e.2 z)⟩, fun z2 => ⟨Or.inr rfl, h1 ⟨z1, z2⟩⟩⟩⟩
theorem s_dgC {x : Int32} (h1 : isDg x → post 1 st) (h0 : ¬ isDg x → post 0 st) : P_X8_isDigit x st post := ⟨fun z => ⟨Or.inl rfl, h0 (fun e => e.1 z)⟩, fun z1 => ⟨fun z => ⟨Or.inl rfl, h0 (fun e => e.2 z)⟩, fun z2 => ⟨Or.inr rfl, h1 ⟨z1, z2⟩⟩⟩⟩
theorem s_ltM {x : Int32} (h1 : isLt x → post 1 st) (h0 : ¬ isLt x → post 0 st) : P_X12_isLetter x st post := ⟨fun z => ⟨Or.inl rfl, h0 (fun e => e.1 z)⟩, fun z1 => ⟨fun z => ⟨Or.inl rfl, h0 (fun e => e.2 z)⟩, fun z2 => ⟨Or.inr rfl, h1 ⟨z1, z2⟩⟩⟩⟩
theorem s_dgM {x : Int32} (h1 : isDg x → post 1 st) (h0 : ¬ isDg x → post 0 st) : P_X12_isDigit x st post := ⟨fun z => ⟨Or.inl rfl, h0 (fun e => e.1 z)⟩, fun z1 => ⟨fun z => ⟨Or.inl rfl, h0 (fun e => e.2 z)⟩, fun z2 => ⟨Or.inr rfl, h1 ⟨z1, z2⟩⟩⟩⟩
theorem s_mkM {x : Int32} (h1 : isMk x → post 1 st) (h0 : ¬ isMk x → post 0 st) : P_X12_isMark x st post := by
  have Y : ∀ j, j < 9 → x = kb 3019 j → P_X12_isMark_54 x post st := fun j hj e => ⟨Or.inr rfl, h1 ⟨j, hj, e.symm⟩⟩
  refine ⟨fun z => Y 0 (by decide) z, fun z0 => ⟨fun z => Y 1 (by decide) z, fun z1 => ⟨fun z => Y 2 (by decide) z, fun z2 => ⟨fun z => Y 3 (by decide) z, fun z3 => ⟨fun z => Y 4 (by decide) z, fun z4 => ⟨fun z => Y 5 (by decide) z, fun z5 => ⟨fun z => Y 6 (by decide) z, fun z6 => ⟨fun z => Y 7 (by decide) z, fun z7 => ⟨fun z8 => ⟨Or.inl rfl, h0 ?_⟩, fun z => Y 8 (by decide) z⟩⟩⟩⟩⟩⟩⟩⟩⟩
  rintro ⟨j, hj, e⟩
  have hc : j = 0 ∨ j = 1 ∨ j = 2 ∨ j = 3 ∨ j = 4 ∨ j = 5 ∨ j = 6 ∨ j = 7 ∨ j = 8 := by omega
  rcases hc with rfl | rfl | rfl | rfl | rfl | rfl | rfl | rfl | rfl
  · exact z0 e.symm
  · exact z1 e.symm
  · exact z2 e.symm
  · exact z3 e.symm
  · exact z4 e.symm
  · exact z5 e.symm
  · exact z6 e.symm
  · exact z7 e.symm
  · exact z8 e.symm
end Chars
/-! the JDK's texts -/
theorem kOk2 {w : Nat} (hw : w < 20) : kOk (2000 + w) := ⟨by omega, by omega⟩
theorem vOk3 {w : Nat} (hw : w < 20) : vOk (2000 + w + 1000) := ⟨by omega, by omega⟩
def chW (w k : Nat) : Int32 := (kS.getD w []).getD k 0
theorem kl_lt : ∀ w, w < 20 → kL.getD w 0 < 10 := by decide
theorem sh_0 : ∀ m, m < 10 → (Int32.ofNat m : Int32) >>> ((0 : Int32) &&& 31) = iN m := by decide
theorem ch_1 : ∀ w, w < 20 → ∀ k, k < 9 → ((((chW w k) &&& 255 : Int32).toUInt32 % 65536).toInt32) = chW w k := by decide
theorem ch_2 : ∀ w, w < 20 → ∀ k, k < 9 → (chW w k).toUInt32.toUInt16.toUInt32.toInt32 = chW w k := by decide
theorem s_len {w : Nat} (hw : w < 20) {st : St} {post : Int32 → St → Prop} (h : post (iN (kL.getD w 0)) st) : P_J0_length_8abf5 (2000 + w) st post := by
  refine ⟨kOk2 hw, vOk3 hw, kOk2 hw, fun z => absurd z (by decide), fun _ => ⟨kOk2 hw, rfl, ?_⟩⟩
  have e : kl (2000 + w + 1000) = kL.getD w 0 := by unfold kl; rw [show 2000 + w + 1000 - 3000 = w by omega]
  show post ((Int32.ofNat (kl (2000 + w + 1000)) : Int32) >>> ((0 : Int32) &&& 31)) st
  rw [e, sh_0 _ (kl_lt w hw)]
  exact h
theorem s_chr {w k : Nat} (hw : w < 20) (hk : k < kL.getD w 0) {st : St} {post : Int32 → St → Prop} (h : post (chW w k) st) : P_J0_charAt_5068e (2000 + w) (iN k) st post := by
  have h10 := kl_lt w hw
  have e : kl (2000 + w + 1000) = kL.getD w 0 := by unfold kl; rw [show 2000 + w + 1000 - 3000 = w by omega]
  have e2 : kb (2000 + w + 1000) (iN k).toNatClampNeg = chW w k := by unfold kb chW; rw [show 2000 + w + 1000 - 3000 = w by omega, iN_cl (by omega)]
  refine ⟨kOk2 hw, ⟨fun z => absurd z (by decide), fun _ => ⟨kOk2 hw, fun z => absurd rfl z, fun _ => ⟨Or.inr rfl, fun hz => absurd hz (by decide), fun _ => ⟨kOk2 hw, vOk3 hw, fun q => ⟨fun hz => ?_, fun _ => ⟨fun _ => ⟨vOk3 hw, ?_, ?_, ?_, ?_⟩, fun hz => absurd ?_ hz⟩⟩⟩⟩⟩⟩⟩
  · rw [lt0, iN_toInt (by omega)] at hz; omega
  · rw [e]; exact iN_vp hk (by omega)
  · rw [e2, ch_1 w hw k (by omega)]
    show Value.int _ = Value.int _
    rw [ch_2 w hw k (by omega)]
  · rw [e2, ch_1 w hw k (by omega)]
    show Value.int _ = Value.int _
    rw [ch_2 w hw k (by omega)]
  · rw [e2, ch_1 w hw k (by omega)]
    exact h
  · rw [e]
    exact (iN_lt (by omega) (by omega)).mpr hk
theorem ix_1 : ∀ k, k < 256 → (((iN k : Int32).toUInt32 % 65536).toInt32) = iN k ∧ ¬ (iN k : Int32) < 0 ∧ ¬ 255 < (iN k : Int32) := by decide +kernel
theorem ix_2 : ∀ k, k < 256 → ∀ j, j < 9 → (kb 3019 j = (iN k : Int32).toInt8.toInt32 ↔ kb 3019 j = iN k) := by decide +kernel
theorem s_ix {k : Nat} (hk : k < 256) {st : St} {post : Int32 → St → Prop} (h1 : ∀ j, j < 9 → isMk (iN k) → post (iN j) st) (h0 : ¬ isMk (iN k) → post (-1) st) : P_J0_indexOf_0f7a4 2019 (((iN k : Int32).toUInt32 % 65536).toInt32) st post := by
  obtain ⟨i1, i2, i3⟩ := ix_1 k hk
  rw [i1]
  have kk : kOk 2019 := ⟨by decide, by decide⟩
  have vv : vOk (2019 + 1000) := ⟨by decide, by decide⟩
  refine ⟨kk, kk, ⟨fun z => absurd z (by decide), fun _ => ⟨kk, fun z => absurd rfl z, fun _ => ⟨Or.inr rfl, fun hz => absurd hz (by decide), fun _ => ⟨kk, kk, s_len (w := 19) (by decide) ?_⟩⟩⟩⟩⟩
  refine ⟨fun z => absurd z i2, fun _ => ⟨fun z => absurd z i3, fun _ => ⟨Or.inr rfl, fun _ => ⟨vv, fun _ => ?_, fun z => absurd (by decide) z⟩, fun z => absurd z (by decide)⟩⟩⟩
  refine ⟨10, loop_up (α := Unit) (P := fun n j _ st => P_J1_indexOfChar_4cfef_7 (2019 + 1000) (iN k) _ 9 (fun z_3 st_4 => post z_3 st_4) n ((iN k : Int32).toInt8.toInt32) j st) (N := 9) (fun j _ st' => st' = st ∧ ∀ j', j' < j → kb 3019 j' ≠ iN k) ?_ ?_ 9 0 () st (by omega) ⟨rfl, fun j hj => absurd hj (Nat.not_lt_zero _)⟩⟩
  · rintro j hj _ st' n ⟨rfl, r⟩ ih
    show P_J1_indexOfChar_4cfef_7 (2019 + 1000) (iN k) _ 9 _ (n + 1) _ (iN j) st'
    unfold P_J1_indexOfChar_4cfef_7
    refine ⟨fun hz => absurd hz (nle (a := 9) (by decide) hj), fun _ => ⟨vv, (show vp_in (iN j) 9 from iN_vp hj (by decide)), ?_⟩⟩
    rw [iN_cl (by omega), iN_s]
    refine ⟨fun hz => ih () st' ⟨rfl, fun j' hj' => ?_⟩, fun hz => h1 j hj ⟨j, hj, (ix_2 k hk j hj).mp hz⟩⟩
    by_cases e : j' = j
    · rw [e]; exact fun z => hz ((ix_2 k hk j hj).mpr z)
    · exact r j' (by omega)
  · rintro _ st' n ⟨rfl, r⟩
    show P_J1_indexOfChar_4cfef_7 (2019 + 1000) (iN k) _ 9 _ (n + 1) _ (iN 9) st'
    unfold P_J1_indexOfChar_4cfef_7
    exact ⟨fun _ => h0 (fun ⟨j, hj, e⟩ => r j hj e), fun hz => absurd (Int32.le_refl _) hz⟩
/-! words -/
def Mt (T : Nat → Int32) (w b e : Nat) : Prop := e = b + kL.getD w 0 ∧ ∀ k, k < kL.getD w 0 → T (b + k) = chW w k
def wdf (w w2 : Nat) : Bool := kL.getD w 0 != kL.getD w2 0 || (List.range (kL.getD w 0)).any (fun k => chW w k != chW w2 k)
theorem wdf_all : ∀ w, w < 19 → ∀ w2, w2 < 19 → w ≠ w2 → wdf w w2 = true := by decide +kernel
theorem Mt_uq {T : Nat → Int32} {w w2 b e : Nat} (hw : w < 19) (hw2 : w2 < 19) (h1 : Mt T w b e) (h2 : Mt T w2 b e) : w = w2 := by
  by_cases hne : w = w2
  · exact hne
  · exfalso
    have h := wdf_all w hw w2 hw2 hne
    unfold wdf at h
    have hl : kL.getD w 0 = kL.getD w2 0 := by have := h1.1; have := h2.1; omega
    rw [Bool.or_eq_true] at h
    rcases h with h | h
    · rw [hl] at h; simp at h
    · rw [List.any_eq_true] at h
      obtain ⟨k, hk, hc⟩ := h
      rw [List.mem_range] at hk
      have e1 := h1.2 k hk
      have e2 := h2.2 k (by omega)
      rw [← e1, ← e2] at hc
      simp at hc
theorem s_stands {T : Nat → Int32} {w b e n : Nat} (hw : w < 19) (hb : b ≤ e) (he : e ≤ n) (hn : n ≤ 700) {st : St} (hT : ∀ j, j < n → gA st 1 j = T j) {post : Int32 → St → Prop} (h1 : Mt T w b e → post 1 st) (h0 : ¬ Mt T w b e → post 0 st) : P_X10_stands (1000 + w) 1 (iN b) (iN e) st post := by
  have hk : 1000 + w + 1000 = 2000 + w := by omega
  have en : enOk (1000 + w) := ⟨by omega, by omega⟩
  have h10 := kl_lt w (by omega)
  unfold P_X10_stands
  rw [hk]
  have es : iN e - iN b = iN (e - b) := by
    have : iN e = iN (e - b) + iN b := by rw [← iN_add]; congr 1; omega
    rw [this]; exact Int32.add_sub_cancel _ _
  refine ⟨en, kOk2 (by omega), s_len (by omega) ?_⟩
  rw [es]
  refine ⟨fun hz => ?_, fun hz => h0 (fun m => hz (by rw [show e - b = kL.getD w 0 by have := m.1; omega]))⟩
  have hl : e - b = kL.getD w 0 := (iN_eq (by omega) (by omega)).mp hz
  refine ⟨kL.getD w 0 + 1, loop_up (α := Unit) (P := fun m k _ st => P_X10_stands_18 (1000 + w) 1 (iN b) (iN e) post m k st) (N := kL.getD w 0) (fun k _ st' => st' = st ∧ ∀ k', k' < k → T (b + k') = chW w k') ?_ ?_ (kL.getD w 0) 0 () st (by omega) ⟨rfl, fun k hk => absurd hk (Nat.not_lt_zero _)⟩⟩
  · rintro k hkl _ st' m ⟨rfl, r⟩ ih
    show P_X10_stands_18 (1000 + w) 1 (iN b) (iN e) post (m + 1) (iN k) st'
    unfold P_X10_stands_18
    rw [hk]
    have eb : iN b + iN k = iN (b + k) := (iN_add b k).symm
    refine ⟨en, kOk2 (by omega), s_len (by omega) ⟨fun hz => absurd hz (nle (by omega) hkl), fun _ => ?_⟩⟩
    rw [eb, iN_cl (by omega), iN_s, hT (b + k) (by omega)]
    refine ⟨(show vp_in (iN (b + k)) 700 from iN_vp (by omega) (by decide)), en, kOk2 (by omega), s_chr (by omega) hkl ⟨fun hz => ih () st' ⟨rfl, fun k' hk' => ?_⟩, fun hz => h0 (fun mm => hz (mm.2 k hkl))⟩⟩
    by_cases e9 : k' = k
    · rw [e9]; exact hz
    · exact r k' (by omega)
  · rintro _ st' m ⟨rfl, r⟩
    show P_X10_stands_18 (1000 + w) 1 (iN b) (iN e) post (m + 1) (iN (kL.getD w 0)) st'
    unfold P_X10_stands_18
    rw [hk]
    exact ⟨en, kOk2 (by omega), s_len (by omega) ⟨fun _ => h1 ⟨by omega, r⟩, fun hz => absurd (Int32.le_refl _) hz⟩⟩
theorem s_find {T : Nat → Int32} {b e n : Nat} (hb : b ≤ e) (he : e ≤ n) (hn : n ≤ 700) {st : St} (hT : ∀ j, j < n → gA st 1 j = T j) {post : Option Nat → St → Prop} (h1 : ∀ w, w < 19 → Mt T w b e → post (some (1000 + w)) st) (h0 : (∀ w, w < 19 → ¬ Mt T w b e) → post none st) : P_X10_find 1 (iN b) (iN e) st post := by
  refine ⟨20, loop_up (α := Unit) (P := fun m k _ st => P_X10_find_2 1 (iN b) (iN e) post m k st) (N := 19) (fun k _ st' => st' = st ∧ ∀ k', k' < k → ¬ Mt T k' b e) ?_ ?_ 19 0 () st (by omega) ⟨rfl, fun k hk => absurd hk (Nat.not_lt_zero _)⟩⟩
  · rintro k hk _ st' m ⟨rfl, r⟩ ih
    have v : vp_in (iN k) 19 := iN_vp hk (by decide)
    show P_X10_find_2 1 (iN b) (iN e) post (m + 1) (iN k) st'
    unfold P_X10_find_2
    rw [iN_cl (by omega), iN_s]
    refine ⟨fun hz => absurd hz (nle (a := 19) (by decide) hk), fun _ => ⟨v, ⟨by omega, by omega⟩, s_stands hk hb he hn hT (fun mm => ⟨fun hz => absurd hz (by decide), fun _ => ⟨v, h1 k hk mm⟩⟩) (fun mm => ⟨fun _ => ih () st' ⟨rfl, fun k' hk' => ?_⟩, fun hz => absurd rfl hz⟩)⟩⟩
    by_cases e9 : k' = k
    · rw [e9]; exact mm
    · exact r k' (by omega)
  · rintro _ st' m ⟨rfl, r⟩
    show P_X10_find_2 1 (iN b) (iN e) post (m + 1) (iN 19) st'
    unfold P_X10_find_2
    exact ⟨fun _ => h0 r, fun hz => absurd (Int32.le_refl _) hz⟩
