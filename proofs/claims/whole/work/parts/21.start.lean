/-! the law's start -/
def NF : List Cond := flatC (Jvm.Cond.and given_1 narrow_1)
theorem nf_grp {args : Array Value} {s : State} (hgv : (Jvm.Cond.and given_1 narrow_1).before args s = true) {N : Nat} {f : Nat → Cond} (ix : List Nat) (h : (List.range N).map (fun i => NF[ix.getD i 0]?) = (List.range N).map (fun i => some (f i))) : ∀ i, i < N → (f i).before args s = true := by
  intro i hi
  have h1 := congrArg (fun l => l[i]?) h
  simp only [List.getElem?_map, List.getElem?_range hi, Option.map_some] at h1
  exact flat_of_before _ hgv _ (List.mem_of_getElem? (Option.some.inj h1))
abbrev WD : String := "GivenAway$Word"
abbrev dW : String := "LGivenAway$Word;"
def stW (i : Nat) : Term := .static WD (enN.getD i "") dW
def sOw (i : Nat) : String := if i < 19 then WD else "GivenAway$Tokens"
def sIx : List Nat := [111, 117, 120, 123, 126, 129, 132, 135, 138, 141, 144, 147, 152, 155, 158, 161, 164, 167, 170, 62]
def mIx : List Nat := [11, 13, 15, 17, 319, 324, 312, 314, 303, 298, 290, 23, 25, 27, 29, 31, 33, 35, 37]
def gIx : List Nat := [89, 330, 325, 328, 332, 334]
def tmS (i : Nat) : Term := .string (sOw i) (sIx.getD i 0)
def prN : List (Nat × Nat) := [(0, 1), (0, 2), (0, 3), (0, 11), (0, 12), (0, 13), (0, 14), (0, 15), (0, 16), (0, 17), (0, 18), (1, 2), (1, 3), (1, 11), (1, 12), (1, 13), (1, 14), (1, 15), (1, 16), (1, 17), (1, 18), (2, 3), (2, 11), (2, 12), (2, 13), (2, 14), (2, 15), (2, 16), (2, 17), (2, 18), (3, 11), (3, 12), (3, 13), (3, 14), (3, 15), (3, 16), (3, 17), (3, 18), (4, 0), (4, 1), (4, 2), (4, 3), (4, 5), (4, 6), (4, 7), (4, 8), (4, 9), (4, 10), (4, 11), (4, 12), (4, 13), (4, 14), (4, 15), (4, 16), (4, 17), (4, 18), (5, 0), (5, 1), (5, 2), (5, 3), (5, 6), (5, 7), (5, 8), (5, 9), (5, 10), (5, 11), (5, 12), (5, 13), (5, 14), (5, 15), (5, 16), (5, 17), (5, 18), (6, 0), (6, 1), (6, 2), (6, 3), (6, 7), (6, 8), (6, 9), (6, 10), (6, 11), (6, 12), (6, 13), (6, 14), (6, 15), (6, 16), (6, 17), (6, 18), (7, 0), (7, 1), (7, 2), (7, 3), (7, 11), (7, 12), (7, 13), (7, 14), (7, 15), (7, 16), (7, 17), (7, 18), (8, 0), (8, 1), (8, 2), (8, 3), (8, 7), (8, 11), (8, 12), (8, 13), (8, 14), (8, 15), (8, 16), (8, 17), (8, 18), (9, 0), (9, 1), (9, 2), (9, 3), (9, 7), (9, 8), (9, 11), (9, 12), (9, 13), (9, 14), (9, 15), (9, 16), (9, 17), (9, 18), (10, 0), (10, 1), (10, 2), (10, 3), (10, 7), (10, 8), (10, 9), (10, 11), (10, 12), (10, 13), (10, 14), (10, 15), (10, 16), (10, 17), (10, 18), (11, 12), (11, 13), (11, 14), (11, 15), (11, 16), (11, 17), (11, 18), (12, 13), (12, 14), (12, 15), (12, 16), (12, 17), (12, 18), (13, 14), (13, 15), (13, 16), (13, 17), (13, 18), (14, 15), (14, 16), (14, 17), (14, 18), (15, 16), (15, 17), (15, 18), (16, 17), (16, 18), (17, 18)]
def prS : List (Nat × Nat) := [(0, 0), (0, 1), (0, 2), (0, 3), (0, 4), (0, 5), (1, 0), (1, 1), (1, 2), (1, 3), (1, 4), (1, 5), (2, 0), (2, 1), (2, 2), (2, 3), (2, 4), (2, 5), (3, 0), (3, 1), (3, 2), (3, 3), (3, 4), (4, 0), (4, 1), (4, 2), (4, 3), (4, 4), (5, 0), (5, 1), (5, 2), (6, 0), (6, 1), (6, 2), (6, 3), (6, 4), (6, 5), (7, 0), (7, 1), (7, 2), (7, 3), (7, 4), (7, 5), (8, 0), (8, 1), (9, 0), (9, 1), (9, 2), (10, 0), (10, 1), (10, 2), (11, 0), (11, 1), (11, 2), (11, 3), (11, 4), (12, 0), (12, 1), (12, 2), (12, 3), (12, 4), (12, 5), (13, 0), (13, 1), (13, 2), (13, 3), (14, 0), (14, 1), (14, 2), (15, 0), (15, 1), (15, 2), (16, 0), (16, 1), (16, 2), (16, 3), (16, 4), (17, 0), (17, 1), (17, 2), (17, 3), (18, 0), (18, 1), (18, 2), (18, 3), (18, 4), (18, 5), (19, 0), (19, 1), (19, 2), (19, 3), (19, 4), (19, 5), (19, 6), (19, 7), (19, 8)]
abbrev tmV (i : Nat) : Term := .field (tmS i) "java/lang/String" "value" "[B"
abbrev tmA : Term := .static WD "ALL" "[LGivenAway$Word;"
theorem n_ex {args : Array Value} {s : State} (hgv : (Jvm.Cond.and given_1 narrow_1).before args s = true) : ∀ i, i < 19 → (Cond.exactly (stW i) WD).before args s = true := nf_grp hgv (f := fun i => Cond.exactly (stW i) WD) [91, 103, 116, 130, 35, 40, 46, 80, 70, 61, 53, 145, 161, 178, 196, 215, 235, 256, 278] (by decide +kernel)
theorem n_pk {args : Array Value} {s : State} (hgv : (Jvm.Cond.and given_1 narrow_1).before args s = true) : ∀ i, i < 19 → (Cond.eq (.field (stW i) WD "personKind" "I") (.int (pkL.getD i 0))).before args s = true := nf_grp hgv (f := fun i => Cond.eq (.field (stW i) WD "personKind" "I") (.int (pkL.getD i 0))) [94, 106, 119, 133, 38, 43, 49, 83, 73, 64, 56, 148, 164, 181, 199, 218, 238, 259, 281] (by decide +kernel)
theorem n_va {args : Array Value} {s : State} (hgv : (Jvm.Cond.and given_1 narrow_1).before args s = true) : ∀ i, i < 19 → (Cond.eq (.field (stW i) WD "value" "I") (.int (vaL.getD i 0))).before args s = true := nf_grp hgv (f := fun i => Cond.eq (.field (stW i) WD "value" "I") (.int (vaL.getD i 0))) [95, 107, 120, 134, 39, 44, 50, 84, 74, 65, 57, 149, 165, 182, 200, 219, 239, 260, 282] (by decide +kernel)
theorem n_le {args : Array Value} {s : State} (hgv : (Jvm.Cond.and given_1 narrow_1).before args s = true) : ∀ i, i < 19 → (Cond.eq (.field (stW i) WD "letters" "Ljava/lang/String;") (tmS i)).before args s = true := nf_grp hgv (f := fun i => Cond.eq (.field (stW i) WD "letters" "Ljava/lang/String;") (tmS i)) [93, 105, 118, 132, 37, 42, 48, 82, 72, 63, 55, 147, 163, 180, 198, 217, 237, 258, 280] (by decide +kernel)
theorem n_ne {args : Array Value} {s : State} (hgv : (Jvm.Cond.and given_1 narrow_1).before args s = true) : ∀ i, i < 171 → (Cond.not (.eq (stW (prN.getD i (0, 0)).1) (stW (prN.getD i (0, 0)).2))).before args s = true := nf_grp hgv (f := fun i => Cond.not (.eq (stW (prN.getD i (0, 0)).1) (stW (prN.getD i (0, 0)).2))) [115, 128, 142, 157, 173, 190, 208, 227, 247, 268, 290, 129, 143, 158, 174, 191, 209, 228, 248, 269, 291, 144, 159, 175, 192, 210, 229, 249, 270, 292, 160, 176, 193, 211, 230, 250, 271, 293, 96, 108, 121, 135, 45, 51, 85, 75, 66, 58, 150, 166, 183, 201, 220, 240, 261, 283, 97, 109, 122, 136, 52, 86, 76, 67, 59, 151, 167, 184, 202, 221, 241, 262, 284, 98, 110, 123, 137, 87, 77, 68, 60, 152, 168, 185, 203, 222, 242, 263, 285, 102, 114, 127, 141, 156, 172, 189, 207, 226, 246, 267, 289, 101, 113, 126, 140, 90, 155, 171, 188, 206, 225, 245, 266, 288, 100, 112, 125, 139, 89, 79, 154, 170, 187, 205, 224, 244, 265, 287, 99, 111, 124, 138, 88, 78, 69, 153, 169, 186, 204, 223, 243, 264, 286, 177, 194, 212, 231, 251, 272, 294, 195, 213, 232, 252, 273, 295, 214, 233, 253, 274, 296, 234, 254, 275, 297, 255, 276, 298, 277, 299, 300] (by decide +kernel)
theorem n_sex {args : Array Value} {s : State} (hgv : (Jvm.Cond.and given_1 narrow_1).before args s = true) : ∀ i, i < 20 → (Cond.exactly (tmS i) "java/lang/String").before args s = true := nf_grp hgv (f := fun i => Cond.exactly (tmS i) "java/lang/String") [710, 721, 732, 743, 647, 657, 665, 699, 692, 684, 676, 753, 763, 774, 783, 791, 799, 809, 818, 363] (by decide +kernel)
theorem n_sco {args : Array Value} {s : State} (hgv : (Jvm.Cond.and given_1 narrow_1).before args s = true) : ∀ i, i < 20 → (Cond.eq (.field (tmS i) "java/lang/String" "coder" "B") (.int 0)).before args s = true := nf_grp hgv (f := fun i => Cond.eq (.field (tmS i) "java/lang/String" "coder" "B") (.int 0)) [711, 722, 733, 744, 648, 658, 666, 700, 693, 685, 677, 754, 764, 775, 784, 792, 800, 810, 819, 364] (by decide +kernel)
theorem n_sar {args : Array Value} {s : State} (hgv : (Jvm.Cond.and given_1 narrow_1).before args s = true) : ∀ i, i < 20 → (Cond.arrayOf (tmV i) .byte).before args s = true := nf_grp hgv (f := fun i => Cond.arrayOf (tmV i) .byte) [712, 723, 734, 745, 649, 659, 667, 701, 694, 686, 678, 755, 765, 776, 785, 793, 801, 811, 820, 365] (by decide +kernel)
theorem n_sle {args : Array Value} {s : State} (hgv : (Jvm.Cond.and given_1 narrow_1).before args s = true) : ∀ i, i < 20 → (Cond.eq (.length (tmV i)) (.int (Int32.ofNat (kL.getD i 0)))).before args s = true := nf_grp hgv (f := fun i => Cond.eq (.length (tmV i)) (.int (Int32.ofNat (kL.getD i 0)))) [713, 724, 735, 746, 650, 660, 668, 702, 695, 687, 679, 756, 766, 777, 786, 794, 802, 812, 821, 366] (by decide +kernel)
theorem n_sby {args : Array Value} {s : State} (hgv : (Jvm.Cond.and given_1 narrow_1).before args s = true) : ∀ i, i < 96 → (Cond.eq (.elem (tmV (prS.getD i (0, 0)).1) (.int (Int32.ofNat (prS.getD i (0, 0)).2))) (.int ((kS.getD (prS.getD i (0, 0)).1 []).getD (prS.getD i (0, 0)).2 0))).before args s = true := nf_grp hgv (f := fun i => Cond.eq (.elem (tmV (prS.getD i (0, 0)).1) (.int (Int32.ofNat (prS.getD i (0, 0)).2))) (.int ((kS.getD (prS.getD i (0, 0)).1 []).getD (prS.getD i (0, 0)).2 0))) [714, 715, 716, 717, 718, 719, 725, 726, 727, 728, 729, 730, 736, 737, 738, 739, 740, 741, 747, 748, 749, 750, 751, 651, 652, 653, 654, 655, 661, 662, 663, 669, 670, 671, 672, 673, 674, 703, 704, 705, 706, 707, 708, 696, 697, 688, 689, 690, 680, 681, 682, 757, 758, 759, 760, 761, 767, 768, 769, 770, 771, 772, 778, 779, 780, 781, 787, 788, 789, 795, 796, 797, 803, 804, 805, 806, 807, 813, 814, 815, 816, 822, 823, 824, 825, 826, 827, 367, 368, 369, 370, 371, 372, 373, 374, 375] (by decide +kernel)
theorem n_ael {args : Array Value} {s : State} (hgv : (Jvm.Cond.and given_1 narrow_1).before args s = true) : ∀ i, i < 19 → (Cond.eq (.elem tmA (.int (Int32.ofNat i))) (stW i)).before args s = true := nf_grp hgv (f := fun i => Cond.eq (.elem tmA (.int (Int32.ofNat i))) (stW i)) [11, 12, 13, 14, 15, 16, 17, 18, 19, 20, 21, 22, 23, 24, 25, 26, 27, 28, 29] (by decide +kernel)
theorem n_meq {args : Array Value} {s : State} (hgv : (Jvm.Cond.and given_1 narrow_1).before args s = true) : ∀ i, i < 19 → (Cond.eq (.string "GivenAwayModel" (mIx.getD i 0)) (tmS i)).before args s = true := nf_grp hgv (f := fun i => Cond.eq (.string "GivenAwayModel" (mIx.getD i 0)) (tmS i)) [720, 731, 742, 752, 656, 664, 675, 709, 698, 691, 683, 762, 773, 782, 790, 798, 808, 817, 828] (by decide +kernel)
theorem n_mex {args : Array Value} {s : State} (hgv : (Jvm.Cond.and given_1 narrow_1).before args s = true) : ∀ i, i < 6 → (Cond.exactly (.string "GivenAway" (gIx.getD i 0)) "java/lang/String").before args s = true := nf_grp hgv (f := fun i => Cond.exactly (.string "GivenAway" (gIx.getD i 0)) "java/lang/String") [329, 376, 392, 410, 427, 447] (by decide +kernel)
theorem n_aof {args : Array Value} {s : State} (hgv : (Jvm.Cond.and given_1 narrow_1).before args s = true) : (Cond.arrayOf tmA (.object WD)).before args s = true := nf_grp hgv (N := 1) (f := fun _ => Cond.arrayOf tmA (.object WD)) [8] (by decide +kernel) 0 (by decide)
theorem n_ale {args : Array Value} {s : State} (hgv : (Jvm.Cond.and given_1 narrow_1).before args s = true) : (Cond.eq (.length tmA) (.int (Int32.ofNat 19))).before args s = true := nf_grp hgv (N := 1) (f := fun _ => Cond.eq (.length tmA) (.int (Int32.ofNat 19))) [9] (by decide +kernel) 0 (by decide)
theorem n_cs {args : Array Value} {s : State} (hgv : (Jvm.Cond.and given_1 narrow_1).before args s = true) : (Cond.eq (.static "java/lang/String" "COMPACT_STRINGS" "Z") (.int 1)).before args s = true := nf_grp hgv (N := 1) (f := fun _ => Cond.eq (.static "java/lang/String" "COMPACT_STRINGS" "Z") (.int 1)) [30] (by decide +kernel) 0 (by decide)
theorem n_fo {args : Array Value} {s : State} (hgv : (Jvm.Cond.and given_1 narrow_1).before args s = true) : (Cond.isRef (.static "jdk/internal/util/Preconditions" "SIOOBE_FORMATTER" "Ljava/util/function/BiFunction;")).before args s = true := nf_grp hgv (N := 1) (f := fun _ => Cond.isRef (.static "jdk/internal/util/Preconditions" "SIOOBE_FORMATTER" "Ljava/util/function/BiFunction;")) [31] (by decide +kernel) 0 (by decide)
theorem n_us {args : Array Value} {s : State} (hgv : (Jvm.Cond.and given_1 narrow_1).before args s = true) : (Cond.isRef (.static "java/lang/Throwable" "UNASSIGNED_STACK" "[Ljava/lang/StackTraceElement;")).before args s = true := nf_grp hgv (N := 1) (f := fun _ => Cond.isRef (.static "java/lang/Throwable" "UNASSIGNED_STACK" "[Ljava/lang/StackTraceElement;")) [4] (by decide +kernel) 0 (by decide)
theorem n_su {args : Array Value} {s : State} (hgv : (Jvm.Cond.and given_1 narrow_1).before args s = true) : (Cond.isRef (.static "java/lang/Throwable" "SUPPRESSED_SENTINEL" "Ljava/util/List;")).before args s = true := nf_grp hgv (N := 1) (f := fun _ => Cond.isRef (.static "java/lang/Throwable" "SUPPRESSED_SENTINEL" "Ljava/util/List;")) [5] (by decide +kernel) 0 (by decide)
theorem n_nc {args : Array Value} {s : State} (hgv : (Jvm.Cond.and given_1 narrow_1).before args s = true) : (Cond.not (.castable IAE NSE)).before args s = true := nf_grp hgv (N := 1) (f := fun _ => Cond.not (.castable IAE NSE)) [327] (by decide +kernel) 0 (by decide)
theorem ls_W : ∀ i, i < 19 → Cond.laysStatic WD (enN.getD i "") dW ∈ lw_tbl := by
  intro i hi
  match i with
  | 0 => exact wt_9 (List.mem_of_getElem? (i := 132) rfl)
  | 1 => exact wt_9 (List.mem_of_getElem? (i := 133) rfl)
  | 2 => exact wt_9 (List.mem_of_getElem? (i := 134) rfl)
  | 3 => exact wt_9 (List.mem_of_getElem? (i := 135) rfl)
  | 4 => exact wt_4 (List.mem_of_getElem? (i := 74) rfl)
  | 5 => exact wt_4 (List.mem_of_getElem? (i := 84) rfl)
  | 6 => exact wt_4 (List.mem_of_getElem? (i := 103) rfl)
  | 7 => exact wt_4 (List.mem_of_getElem? (i := 155) rfl)
  | 8 => exact wt_4 (List.mem_of_getElem? (i := 153) rfl)
  | 9 => exact wt_4 (List.mem_of_getElem? (i := 151) rfl)
  | 10 => exact wt_4 (List.mem_of_getElem? (i := 125) rfl)
  | 11 => exact wt_9 (List.mem_of_getElem? (i := 136) rfl)
  | 12 => exact wt_9 (List.mem_of_getElem? (i := 137) rfl)
  | 13 => exact wt_9 (List.mem_of_getElem? (i := 138) rfl)
  | 14 => exact wt_9 (List.mem_of_getElem? (i := 139) rfl)
  | 15 => exact wt_9 (List.mem_of_getElem? (i := 140) rfl)
  | 16 => exact wt_9 (List.mem_of_getElem? (i := 141) rfl)
  | 17 => exact wt_9 (List.mem_of_getElem? (i := 142) rfl)
  | 18 => exact wt_9 (List.mem_of_getElem? (i := 143) rfl)
  | i + 19 => omega
theorem str_apart {Z : Nat → Prop} {U : State} {H : Heap} {a v1 v2 N1 N2 : Nat} {f1 f2 : Nat → Value} (h1 : va_OF "java/lang/String" "value" "[B" (.ref v1) a Z U H) (h2 : va_OF "java/lang/String" "value" "[B" (.ref v2) a Z U H) (t1 : va_T .byte v1 N1 f1 Z U H) (t2 : va_T .byte v2 N2 f2 Z U H) (b1 : N1 < 1000) (b2 : N2 < 1000) : N1 = N2 ∧ ∀ j, j < N1 → f1 j = f2 j := by
  obtain ⟨cf, k, i, f, cell, a1, a2, a3, a4, a5, a6⟩ := h1
  obtain ⟨cf', k', i', f', cell', c1, c2, c3, c4, c5, c6⟩ := h2
  have e1 := a1.symm.trans c1
  injection e1 with e1
  injection e1 with e2 e3
  injection e3 with e4 e5
  injection e5 with e6 e7
  subst e7
  have e8 := a3.symm.trans c3
  injection e8 with e8
  subst e8
  have e9 := a5.symm.trans c5
  injection e9 with e9
  injection e9 with e9
  subst e9
  obtain ⟨c9, q1, q2, q3, q4, q5, q6, q7⟩ := t1
  obtain ⟨c8, r1, r2, r3, r4, r5, r6, r7⟩ := t2
  have e10 := q1.symm.trans r1
  injection e10 with e10
  subst e10
  have e11 := q5.symm.trans r5
  have e12 : N1 = N2 := by
    have h3 := congrArg Int32.toInt e11
    rw [Int32.toInt_ofNat_of_lt (by omega), Int32.toInt_ofNat_of_lt (by omega)] at h3
    omega
  subst e12
  refine ⟨rfl, fun j hj => ?_⟩
  exact Option.some.inj ((q6 j hj).symm.trans (r6 j hj))
theorem txt_apart : ∀ i, i < 20 → ∀ j, j < 20 → kL.getD i 0 = kL.getD j 0 → (∀ m, m < kL.getD i 0 → (kS.getD i []).getD m 0 = (kS.getD j []).getD m 0) → i = j := by decide +kernel
theorem kL_small : ∀ i, i < 20 → kL.getD i 0 < 1000 := by decide +kernel
theorem prN_all : ∀ i, i < 19 → ∀ j, j < 19 → i ≠ j → (∃ k, k < 171 ∧ prN.getD k (0, 0) = (i, j)) ∨ ∃ k, k < 171 ∧ prN.getD k (0, 0) = (j, i) := by decide +kernel
theorem prS_all : ∀ i, i < 20 → ∀ j, j < kL.getD i 0 → ∃ k, k < 96 ∧ prS.getD k (0, 0) = (i, j) := by decide +kernel
section Consts
variable {args : Array Value} {s : State} {Z : Nat → Prop}
theorem str_all (hgv : (Jvm.Cond.and given_1 narrow_1).before args s = true) (hA : ∀ a : Nat, a < s.heap.size → ¬ Z a) : ∃ adK adV : Nat → Nat, vk_S 20 kL kS adK adV Z s s.heap ∧ ∀ i : Nat, i < 20 → (tmS i).eval args s none [] s = some (.ref (adK i)) := by
  have h0 : ∀ i : Nat, ∃ q : Nat × Nat, i < 20 → (tmS i).eval args s none [] s = some (.ref q.1) ∧ va_O "java/lang/String" q.1 Z s s.heap ∧ va_OF "java/lang/String" "coder" "B" (.int 0) q.1 Z s s.heap ∧ va_OF "java/lang/String" "value" "[B" (.ref q.2) q.1 Z s s.heap ∧ va_T .byte q.2 (kL.getD i 0) (fun j => .int ((kS.getD i []).getD j 0)) Z s s.heap := by
    intro i
    by_cases hi : i < 20
    · obtain ⟨a, c, cA, kA, q1, q2, q3, q4, q5, q6, -⟩ := Cond.exactly_spec (args := args) (first := s) (o := none) (s := s) (idx := []) (t := tmS i) (cls := "java/lang/String") (n_sex hgv i hi)
      obtain ⟨t, ht, hT⟩ := va_Tof (f := fun j => .int ((kS.getD i []).getD j 0)) (A := Z) (N := kL.getD i 0) (by have := kL_small i hi; omega) (n_sar hgv i hi) (va_eqt (n_sle hgv i hi)) (fun j hj => va_eqt (by
        obtain ⟨k, hk, e⟩ := prS_all i hi j hj
        have h1 := n_sby hgv k hk
        rw [e] at h1
        exact h1)) hA
      exact ⟨(a, t), fun _ => ⟨q1, ⟨cA, q3, q5, by rw [q6]; exact q2, hA a (Array.getElem?_eq_some_iff.mp q3).1⟩, vk_OFof q1 (va_eqt (n_sco hgv i hi)) hA, vk_OFof q1 ht hA, hT⟩⟩
    · exact ⟨(0, 0), fun h => absurd h hi⟩
  obtain ⟨ad, had⟩ := Classical.axiomOfChoice h0
  refine ⟨fun i => (ad i).1, fun i => (ad i).2, ⟨fun i hi => (had i hi).2, fun i j hi hj e => ?_⟩, fun i hi => (had i hi).1⟩
  have hi2 := (had i hi).2
  have hj2 := (had j hj).2
  have e' : (ad i).1 = (ad j).1 := e
  rw [e'] at hi2
  obtain ⟨h1, h2⟩ := str_apart hi2.2.2.1 hj2.2.2.1 hi2.2.2.2 hj2.2.2.2 (kL_small i hi) (kL_small j hj)
  exact txt_apart i hi j hj h1 (fun m hm => by
    have h3 := h2 m hm
    injection h3)
theorem enum_all (hts : ∀ w ∈ lw_tbl, w.before args s = true) (hgv : (Jvm.Cond.and given_1 narrow_1).before args s = true) (hA : ∀ a : Nat, a < s.heap.size → ¬ Z a) : ∃ ad : Nat → Nat, va_En WD dW enN enF ad Z s s.heap ∧ ∀ i, i < 19 → (stW i).eval args s none [] s = some (.ref (ad i)) := by
  refine va_Enof2 (fun i hi => hts _ (ls_W i hi)) (hts _ (wt_1 (List.mem_of_getElem? (i := 19) rfl))) (fun i hi => n_ex hgv i hi) (fun q hq i hi => ?_) (fun i j hi hj hij => ?_) hA
  · rcases List.mem_cons.mp hq with rfl | hq
    · exact n_pk hgv i hi
    · rcases List.mem_cons.mp hq with rfl | hq
      · exact n_va hgv i hi
      · cases hq
  · rcases prN_all i hi j hj hij with ⟨k, hk, e⟩ | ⟨k, hk, e⟩
    · have h1 := n_ne hgv k hk
      rw [e] at h1
      exact Or.inl h1
    · have h1 := n_ne hgv k hk
      rw [e] at h1
      exact Or.inr h1
end Consts
