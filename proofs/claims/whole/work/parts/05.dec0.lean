theorem dX0_init_0 : decode cX0_init 0 = .ok (.aload_n 0, 1) := by decide +kernel
theorem dX0_init_1 : decode cX0_init 1 = .ok (.invokespecial 3, 3) := by decide +kernel
theorem dX0_init_4 : decode cX0_init 4 = .ok (.aload_n 0, 1) := by decide +kernel
theorem dX0_init_5 : decode cX0_init 5 = .ok (.sipush 4400, 3) := by decide +kernel
theorem dX0_init_8 : decode cX0_init 8 = .ok (.newarray .int, 2) := by decide +kernel
theorem dX0_init_10 : decode cX0_init 10 = .ok (.putfield 11, 3) := by decide +kernel
theorem dX0_init_13 : decode cX0_init 13 = .ok (.return_, 1) := by decide +kernel
theorem dX0_clear_0 : decode cX0_clear 0 = .ok (.aload_n 0, 1) := by decide +kernel
theorem dX0_clear_1 : decode cX0_clear 1 = .ok (.iconst 0, 1) := by decide +kernel
theorem dX0_clear_2 : decode cX0_clear 2 = .ok (.putfield 17, 3) := by decide +kernel
theorem dX0_clear_5 : decode cX0_clear 5 = .ok (.aload_n 0, 1) := by decide +kernel
theorem dX0_clear_6 : decode cX0_clear 6 = .ok (.iconst 0, 1) := by decide +kernel
theorem dX0_clear_7 : decode cX0_clear 7 = .ok (.putfield 21, 3) := by decide +kernel
theorem dX0_clear_10 : decode cX0_clear 10 = .ok (.return_, 1) := by decide +kernel
theorem dX0_push_0 : decode cX0_push 0 = .ok (.aload_n 0, 1) := by decide +kernel
theorem dX0_push_1 : decode cX0_push 1 = .ok (.getfield 21, 3) := by decide +kernel
theorem dX0_push_4 : decode cX0_push 4 = .ok (.bipush 40, 2) := by decide +kernel
theorem dX0_push_6 : decode cX0_push 6 = .ok (.if_icmp .ne 26, 3) := by decide +kernel
theorem dX0_push_9 : decode cX0_push 9 = .ok (.aload_n 0, 1) := by decide +kernel
theorem dX0_push_10 : decode cX0_push 10 = .ok (.aload_n 0, 1) := by decide +kernel
theorem dX0_push_11 : decode cX0_push 11 = .ok (.getfield 17, 3) := by decide +kernel
theorem dX0_push_14 : decode cX0_push 14 = .ok (.iconst 1, 1) := by decide +kernel
theorem dX0_push_15 : decode cX0_push 15 = .ok (.iadd, 1) := by decide +kernel
theorem dX0_push_16 : decode cX0_push 16 = .ok (.bipush 40, 2) := by decide +kernel
theorem dX0_push_18 : decode cX0_push 18 = .ok (.irem, 1) := by decide +kernel
theorem dX0_push_19 : decode cX0_push 19 = .ok (.putfield 17, 3) := by decide +kernel
theorem dX0_push_22 : decode cX0_push 22 = .ok (.aload_n 0, 1) := by decide +kernel
theorem dX0_push_23 : decode cX0_push 23 = .ok (.dup, 1) := by decide +kernel
theorem dX0_push_24 : decode cX0_push 24 = .ok (.getfield 21, 3) := by decide +kernel
theorem dX0_push_27 : decode cX0_push 27 = .ok (.iconst 1, 1) := by decide +kernel
theorem dX0_push_28 : decode cX0_push 28 = .ok (.isub, 1) := by decide +kernel
theorem dX0_push_29 : decode cX0_push 29 = .ok (.putfield 21, 3) := by decide +kernel
theorem dX0_push_32 : decode cX0_push 32 = .ok (.aload_n 1, 1) := by decide +kernel
theorem dX0_push_33 : decode cX0_push 33 = .ok (.iconst 0, 1) := by decide +kernel
theorem dX0_push_34 : decode cX0_push 34 = .ok (.aload_n 0, 1) := by decide +kernel
theorem dX0_push_35 : decode cX0_push 35 = .ok (.getfield 11, 3) := by decide +kernel
theorem dX0_push_38 : decode cX0_push 38 = .ok (.aload_n 0, 1) := by decide +kernel
theorem dX0_push_39 : decode cX0_push 39 = .ok (.aload_n 0, 1) := by decide +kernel
theorem dX0_push_40 : decode cX0_push 40 = .ok (.getfield 21, 3) := by decide +kernel
theorem dX0_push_43 : decode cX0_push 43 = .ok (.invokevirtual 24, 3) := by decide +kernel
theorem dX0_push_46 : decode cX0_push 46 = .ok (.bipush 110, 2) := by decide +kernel
theorem dX0_push_48 : decode cX0_push 48 = .ok (.invokestatic 28, 3) := by decide +kernel
theorem dX0_push_51 : decode cX0_push 51 = .ok (.aload_n 0, 1) := by decide +kernel
theorem dX0_push_52 : decode cX0_push 52 = .ok (.dup, 1) := by decide +kernel
theorem dX0_push_53 : decode cX0_push 53 = .ok (.getfield 21, 3) := by decide +kernel
theorem dX0_push_56 : decode cX0_push 56 = .ok (.iconst 1, 1) := by decide +kernel
theorem dX0_push_57 : decode cX0_push 57 = .ok (.iadd, 1) := by decide +kernel
theorem dX0_push_58 : decode cX0_push 58 = .ok (.putfield 21, 3) := by decide +kernel
theorem dX0_push_61 : decode cX0_push 61 = .ok (.return_, 1) := by decide +kernel
theorem dX0_pop_0 : decode cX0_pop 0 = .ok (.aload_n 0, 1) := by decide +kernel
theorem dX0_pop_1 : decode cX0_pop 1 = .ok (.getfield 21, 3) := by decide +kernel
theorem dX0_pop_4 : decode cX0_pop 4 = .ok (.ifCond .le 32, 3) := by decide +kernel
theorem dX0_pop_7 : decode cX0_pop 7 = .ok (.aload_n 0, 1) := by decide +kernel
theorem dX0_pop_8 : decode cX0_pop 8 = .ok (.dup, 1) := by decide +kernel
theorem dX0_pop_9 : decode cX0_pop 9 = .ok (.getfield 21, 3) := by decide +kernel
theorem dX0_pop_12 : decode cX0_pop 12 = .ok (.iconst 1, 1) := by decide +kernel
theorem dX0_pop_13 : decode cX0_pop 13 = .ok (.isub, 1) := by decide +kernel
theorem dX0_pop_14 : decode cX0_pop 14 = .ok (.putfield 21, 3) := by decide +kernel
theorem dX0_pop_17 : decode cX0_pop 17 = .ok (.aload_n 0, 1) := by decide +kernel
theorem dX0_pop_18 : decode cX0_pop 18 = .ok (.getfield 11, 3) := by decide +kernel
theorem dX0_pop_21 : decode cX0_pop 21 = .ok (.aload_n 0, 1) := by decide +kernel
theorem dX0_pop_22 : decode cX0_pop 22 = .ok (.aload_n 0, 1) := by decide +kernel
theorem dX0_pop_23 : decode cX0_pop 23 = .ok (.getfield 21, 3) := by decide +kernel
theorem dX0_pop_26 : decode cX0_pop 26 = .ok (.invokevirtual 24, 3) := by decide +kernel
theorem dX0_pop_29 : decode cX0_pop 29 = .ok (.aload_n 1, 1) := by decide +kernel
theorem dX0_pop_30 : decode cX0_pop 30 = .ok (.iconst 0, 1) := by decide +kernel
theorem dX0_pop_31 : decode cX0_pop 31 = .ok (.bipush 110, 2) := by decide +kernel
theorem dX0_pop_33 : decode cX0_pop 33 = .ok (.invokestatic 28, 3) := by decide +kernel
theorem dX0_pop_36 : decode cX0_pop 36 = .ok (.return_, 1) := by decide +kernel
theorem dX0_startOf_0 : decode cX0_startOf 0 = .ok (.aload_n 0, 1) := by decide +kernel
theorem dX0_startOf_1 : decode cX0_startOf 1 = .ok (.getfield 17, 3) := by decide +kernel
theorem dX0_startOf_4 : decode cX0_startOf 4 = .ok (.iload_n 1, 1) := by decide +kernel
theorem dX0_startOf_5 : decode cX0_startOf 5 = .ok (.iadd, 1) := by decide +kernel
theorem dX0_startOf_6 : decode cX0_startOf 6 = .ok (.bipush 40, 2) := by decide +kernel
theorem dX0_startOf_8 : decode cX0_startOf 8 = .ok (.irem, 1) := by decide +kernel
theorem dX0_startOf_9 : decode cX0_startOf 9 = .ok (.bipush 110, 2) := by decide +kernel
theorem dX0_startOf_11 : decode cX0_startOf 11 = .ok (.imul, 1) := by decide +kernel
theorem dX0_startOf_12 : decode cX0_startOf 12 = .ok (.ireturn, 1) := by decide +kernel
theorem dX0_copyFrom_0 : decode cX0_copyFrom 0 = .ok (.aload_n 1, 1) := by decide +kernel
theorem dX0_copyFrom_1 : decode cX0_copyFrom 1 = .ok (.getfield 11, 3) := by decide +kernel
theorem dX0_copyFrom_4 : decode cX0_copyFrom 4 = .ok (.iconst 0, 1) := by decide +kernel
theorem dX0_copyFrom_5 : decode cX0_copyFrom 5 = .ok (.aload_n 0, 1) := by decide +kernel
theorem dX0_copyFrom_6 : decode cX0_copyFrom 6 = .ok (.getfield 11, 3) := by decide +kernel
theorem dX0_copyFrom_9 : decode cX0_copyFrom 9 = .ok (.iconst 0, 1) := by decide +kernel
theorem dX0_copyFrom_10 : decode cX0_copyFrom 10 = .ok (.aload_n 0, 1) := by decide +kernel
theorem dX0_copyFrom_11 : decode cX0_copyFrom 11 = .ok (.getfield 11, 3) := by decide +kernel
theorem dX0_copyFrom_14 : decode cX0_copyFrom 14 = .ok (.arraylength, 1) := by decide +kernel
theorem dX0_copyFrom_15 : decode cX0_copyFrom 15 = .ok (.invokestatic 28, 3) := by decide +kernel
theorem dX0_copyFrom_18 : decode cX0_copyFrom 18 = .ok (.aload_n 0, 1) := by decide +kernel
theorem dX0_copyFrom_19 : decode cX0_copyFrom 19 = .ok (.aload_n 1, 1) := by decide +kernel
theorem dX0_copyFrom_20 : decode cX0_copyFrom 20 = .ok (.getfield 17, 3) := by decide +kernel
theorem dX0_copyFrom_23 : decode cX0_copyFrom 23 = .ok (.putfield 17, 3) := by decide +kernel
theorem dX0_copyFrom_26 : decode cX0_copyFrom 26 = .ok (.aload_n 0, 1) := by decide +kernel
theorem dX0_copyFrom_27 : decode cX0_copyFrom 27 = .ok (.aload_n 1, 1) := by decide +kernel
theorem dX0_copyFrom_28 : decode cX0_copyFrom 28 = .ok (.getfield 21, 3) := by decide +kernel
theorem dX0_copyFrom_31 : decode cX0_copyFrom 31 = .ok (.putfield 21, 3) := by decide +kernel
theorem dX0_copyFrom_34 : decode cX0_copyFrom 34 = .ok (.return_, 1) := by decide +kernel
theorem dX1_init_0 : decode cX1_init 0 = .ok (.aload_n 0, 1) := by decide +kernel
theorem dX1_init_1 : decode cX1_init 1 = .ok (.invokespecial 3, 3) := by decide +kernel
theorem dX1_init_4 : decode cX1_init 4 = .ok (.aload_n 0, 1) := by decide +kernel
theorem dX1_init_5 : decode cX1_init 5 = .ok (.new 9, 3) := by decide +kernel
theorem dX1_init_8 : decode cX1_init 8 = .ok (.dup, 1) := by decide +kernel
theorem dX1_init_9 : decode cX1_init 9 = .ok (.invokespecial 11, 3) := by decide +kernel
theorem dX1_init_12 : decode cX1_init 12 = .ok (.putfield 12, 3) := by decide +kernel
theorem dX1_init_15 : decode cX1_init 15 = .ok (.aload_n 0, 1) := by decide +kernel
theorem dX1_init_16 : decode cX1_init 16 = .ok (.new 18, 3) := by decide +kernel
theorem dX1_init_19 : decode cX1_init 19 = .ok (.dup, 1) := by decide +kernel
theorem dX1_init_20 : decode cX1_init 20 = .ok (.invokespecial 20, 3) := by decide +kernel
theorem dX1_init_23 : decode cX1_init 23 = .ok (.putfield 21, 3) := by decide +kernel
theorem dX1_init_26 : decode cX1_init 26 = .ok (.aload_n 0, 1) := by decide +kernel
theorem dX1_init_27 : decode cX1_init 27 = .ok (.iconst 3, 1) := by decide +kernel
theorem dX1_init_28 : decode cX1_init 28 = .ok (.newarray .int, 2) := by decide +kernel
theorem dX1_init_30 : decode cX1_init 30 = .ok (.putfield 25, 3) := by decide +kernel
theorem dX1_init_33 : decode cX1_init 33 = .ok (.aload_n 0, 1) := by decide +kernel
theorem dX1_init_34 : decode cX1_init 34 = .ok (.new 29, 3) := by decide +kernel
theorem dX1_init_37 : decode cX1_init 37 = .ok (.dup, 1) := by decide +kernel
theorem dX1_init_38 : decode cX1_init 38 = .ok (.aload_n 1, 1) := by decide +kernel
theorem dX1_init_39 : decode cX1_init 39 = .ok (.invokespecial 31, 3) := by decide +kernel
theorem dX1_init_42 : decode cX1_init 42 = .ok (.putfield 34, 3) := by decide +kernel
theorem dX1_init_45 : decode cX1_init 45 = .ok (.return_, 1) := by decide +kernel
theorem dX1_keepAct_0 : decode cX1_keepAct 0 = .ok (.aload_n 0, 1) := by decide +kernel
theorem dX1_keepAct_1 : decode cX1_keepAct 1 = .ok (.getfield 12, 3) := by decide +kernel
theorem dX1_keepAct_4 : decode cX1_keepAct 4 = .ok (.aload_n 0, 1) := by decide +kernel
theorem dX1_keepAct_5 : decode cX1_keepAct 5 = .ok (.getfield 34, 3) := by decide +kernel
theorem dX1_keepAct_8 : decode cX1_keepAct 8 = .ok (.getfield 38, 3) := by decide +kernel
theorem dX1_keepAct_11 : decode cX1_keepAct 11 = .ok (.invokevirtual 41, 3) := by decide +kernel
theorem dX1_keepAct_14 : decode cX1_keepAct 14 = .ok (.return_, 1) := by decide +kernel
theorem dX1_undoAct_0 : decode cX1_undoAct 0 = .ok (.aload_n 0, 1) := by decide +kernel
theorem dX1_undoAct_1 : decode cX1_undoAct 1 = .ok (.getfield 12, 3) := by decide +kernel
theorem dX1_undoAct_4 : decode cX1_undoAct 4 = .ok (.getfield 45, 3) := by decide +kernel
theorem dX1_undoAct_7 : decode cX1_undoAct 7 = .ok (.ifCond .ne 5, 3) := by decide +kernel
theorem dX1_undoAct_10 : decode cX1_undoAct 10 = .ok (.iconst (-1), 1) := by decide +kernel
theorem dX1_undoAct_11 : decode cX1_undoAct 11 = .ok (.ireturn, 1) := by decide +kernel
theorem dX1_undoAct_12 : decode cX1_undoAct 12 = .ok (.aload_n 0, 1) := by decide +kernel
theorem dX1_undoAct_13 : decode cX1_undoAct 13 = .ok (.getfield 12, 3) := by decide +kernel
theorem dX1_undoAct_16 : decode cX1_undoAct 16 = .ok (.aload_n 0, 1) := by decide +kernel
theorem dX1_undoAct_17 : decode cX1_undoAct 17 = .ok (.getfield 34, 3) := by decide +kernel
theorem dX1_undoAct_20 : decode cX1_undoAct 20 = .ok (.getfield 38, 3) := by decide +kernel
theorem dX1_undoAct_23 : decode cX1_undoAct 23 = .ok (.invokevirtual 49, 3) := by decide +kernel
theorem dX1_undoAct_26 : decode cX1_undoAct 26 = .ok (.aload_n 0, 1) := by decide +kernel
theorem dX1_undoAct_27 : decode cX1_undoAct 27 = .ok (.getfield 12, 3) := by decide +kernel
theorem dX1_undoAct_30 : decode cX1_undoAct 30 = .ok (.getfield 45, 3) := by decide +kernel
theorem dX1_undoAct_33 : decode cX1_undoAct 33 = .ok (.ireturn, 1) := by decide +kernel
theorem dX1_copyFrom_0 : decode cX1_copyFrom 0 = .ok (.aload_n 0, 1) := by decide +kernel
theorem dX1_copyFrom_1 : decode cX1_copyFrom 1 = .ok (.getfield 34, 3) := by decide +kernel
theorem dX1_copyFrom_4 : decode cX1_copyFrom 4 = .ok (.aload_n 1, 1) := by decide +kernel
theorem dX1_copyFrom_5 : decode cX1_copyFrom 5 = .ok (.getfield 34, 3) := by decide +kernel
theorem dX1_copyFrom_8 : decode cX1_copyFrom 8 = .ok (.invokevirtual 52, 3) := by decide +kernel
theorem dX1_copyFrom_11 : decode cX1_copyFrom 11 = .ok (.aload_n 0, 1) := by decide +kernel
theorem dX1_copyFrom_12 : decode cX1_copyFrom 12 = .ok (.getfield 12, 3) := by decide +kernel
theorem dX1_copyFrom_15 : decode cX1_copyFrom 15 = .ok (.aload_n 1, 1) := by decide +kernel
theorem dX1_copyFrom_16 : decode cX1_copyFrom 16 = .ok (.getfield 12, 3) := by decide +kernel
theorem dX1_copyFrom_19 : decode cX1_copyFrom 19 = .ok (.invokevirtual 56, 3) := by decide +kernel
theorem dX1_copyFrom_22 : decode cX1_copyFrom 22 = .ok (.aload_n 0, 1) := by decide +kernel
theorem dX1_copyFrom_23 : decode cX1_copyFrom 23 = .ok (.getfield 21, 3) := by decide +kernel
theorem dX1_copyFrom_26 : decode cX1_copyFrom 26 = .ok (.aload_n 1, 1) := by decide +kernel
theorem dX1_copyFrom_27 : decode cX1_copyFrom 27 = .ok (.getfield 21, 3) := by decide +kernel
theorem dX1_copyFrom_30 : decode cX1_copyFrom 30 = .ok (.invokevirtual 59, 3) := by decide +kernel
theorem dX1_copyFrom_33 : decode cX1_copyFrom 33 = .ok (.aload_n 1, 1) := by decide +kernel
theorem dX1_copyFrom_34 : decode cX1_copyFrom 34 = .ok (.getfield 25, 3) := by decide +kernel
theorem dX1_copyFrom_37 : decode cX1_copyFrom 37 = .ok (.iconst 0, 1) := by decide +kernel
theorem dX1_copyFrom_38 : decode cX1_copyFrom 38 = .ok (.aload_n 0, 1) := by decide +kernel
theorem dX1_copyFrom_39 : decode cX1_copyFrom 39 = .ok (.getfield 25, 3) := by decide +kernel
theorem dX1_copyFrom_42 : decode cX1_copyFrom 42 = .ok (.iconst 0, 1) := by decide +kernel
theorem dX1_copyFrom_43 : decode cX1_copyFrom 43 = .ok (.iconst 3, 1) := by decide +kernel
theorem dX1_copyFrom_44 : decode cX1_copyFrom 44 = .ok (.invokestatic 62, 3) := by decide +kernel
theorem dX1_copyFrom_47 : decode cX1_copyFrom 47 = .ok (.return_, 1) := by decide +kernel
theorem dX2_init_0 : decode cX2_init 0 = .ok (.aload_n 0, 1) := by decide +kernel
theorem dX2_init_1 : decode cX2_init 1 = .ok (.invokespecial 5, 3) := by decide +kernel
theorem dX2_init_4 : decode cX2_init 4 = .ok (.aload_n 0, 1) := by decide +kernel
theorem dX2_init_5 : decode cX2_init 5 = .ok (.bipush 110, 2) := by decide +kernel
theorem dX2_init_7 : decode cX2_init 7 = .ok (.newarray .int, 2) := by decide +kernel
theorem dX2_init_9 : decode cX2_init 9 = .ok (.putfield 11, 3) := by decide +kernel
theorem dX2_init_12 : decode cX2_init 12 = .ok (.aload_n 0, 1) := by decide +kernel
theorem dX2_init_13 : decode cX2_init 13 = .ok (.bipush 8, 2) := by decide +kernel
theorem dX2_init_15 : decode cX2_init 15 = .ok (.newarray .int, 2) := by decide +kernel
theorem dX2_init_17 : decode cX2_init 17 = .ok (.putfield 17, 3) := by decide +kernel
theorem dX2_init_20 : decode cX2_init 20 = .ok (.aload_n 0, 1) := by decide +kernel
theorem dX2_init_21 : decode cX2_init 21 = .ok (.bipush 6, 2) := by decide +kernel
theorem dX2_init_23 : decode cX2_init 23 = .ok (.newarray .int, 2) := by decide +kernel
theorem dX2_init_25 : decode cX2_init 25 = .ok (.putfield 20, 3) := by decide +kernel
theorem dX2_init_28 : decode cX2_init 28 = .ok (.aload_n 0, 1) := by decide +kernel
theorem dX2_init_29 : decode cX2_init 29 = .ok (.aload_n 1, 1) := by decide +kernel
theorem dX2_init_30 : decode cX2_init 30 = .ok (.putfield 23, 3) := by decide +kernel
theorem dX2_init_33 : decode cX2_init 33 = .ok (.return_, 1) := by decide +kernel
theorem dX2_startAnew_0 : decode cX2_startAnew 0 = .ok (.aload_n 0, 1) := by decide +kernel
theorem dX2_startAnew_1 : decode cX2_startAnew 1 = .ok (.aload_n 1, 1) := by decide +kernel
theorem dX2_startAnew_2 : decode cX2_startAnew 2 = .ok (.putfield 23, 3) := by decide +kernel
theorem dX2_startAnew_5 : decode cX2_startAnew 5 = .ok (.aload_n 0, 1) := by decide +kernel
theorem dX2_startAnew_6 : decode cX2_startAnew 6 = .ok (.getfield 23, 3) := by decide +kernel
theorem dX2_startAnew_9 : decode cX2_startAnew 9 = .ok (.invokevirtual 27, 3) := by decide +kernel
theorem dX2_startAnew_12 : decode cX2_startAnew 12 = .ok (.iconst 0, 1) := by decide +kernel
theorem dX2_startAnew_13 : decode cX2_startAnew 13 = .ok (.istore_n 2, 1) := by decide +kernel
theorem dX2_startAnew_14 : decode cX2_startAnew 14 = .ok (.iload_n 2, 1) := by decide +kernel
theorem dX2_startAnew_15 : decode cX2_startAnew 15 = .ok (.bipush 110, 2) := by decide +kernel
theorem dX2_startAnew_17 : decode cX2_startAnew 17 = .ok (.if_icmp .ge 16, 3) := by decide +kernel
theorem dX2_startAnew_20 : decode cX2_startAnew 20 = .ok (.aload_n 0, 1) := by decide +kernel
theorem dX2_startAnew_21 : decode cX2_startAnew 21 = .ok (.getfield 11, 3) := by decide +kernel
theorem dX2_startAnew_24 : decode cX2_startAnew 24 = .ok (.iload_n 2, 1) := by decide +kernel
theorem dX2_startAnew_25 : decode cX2_startAnew 25 = .ok (.iconst 0, 1) := by decide +kernel
theorem dX2_startAnew_26 : decode cX2_startAnew 26 = .ok (.iastore, 1) := by decide +kernel
theorem dX2_startAnew_27 : decode cX2_startAnew 27 = .ok (.iinc 2 1, 3) := by decide +kernel
theorem dX2_startAnew_30 : decode cX2_startAnew 30 = .ok (.goto (-16), 3) := by decide +kernel
theorem dX2_startAnew_33 : decode cX2_startAnew 33 = .ok (.return_, 1) := by decide +kernel
theorem dX2_copyFrom_0 : decode cX2_copyFrom 0 = .ok (.aload_n 0, 1) := by decide +kernel
theorem dX2_copyFrom_1 : decode cX2_copyFrom 1 = .ok (.aload_n 1, 1) := by decide +kernel
theorem dX2_copyFrom_2 : decode cX2_copyFrom 2 = .ok (.getfield 23, 3) := by decide +kernel
theorem dX2_copyFrom_5 : decode cX2_copyFrom 5 = .ok (.putfield 23, 3) := by decide +kernel
theorem dX2_copyFrom_8 : decode cX2_copyFrom 8 = .ok (.aload_n 1, 1) := by decide +kernel
theorem dX2_copyFrom_9 : decode cX2_copyFrom 9 = .ok (.getfield 11, 3) := by decide +kernel
theorem dX2_copyFrom_12 : decode cX2_copyFrom 12 = .ok (.iconst 0, 1) := by decide +kernel
theorem dX2_copyFrom_13 : decode cX2_copyFrom 13 = .ok (.aload_n 0, 1) := by decide +kernel
theorem dX2_copyFrom_14 : decode cX2_copyFrom 14 = .ok (.getfield 11, 3) := by decide +kernel
theorem dX2_copyFrom_17 : decode cX2_copyFrom 17 = .ok (.iconst 0, 1) := by decide +kernel
theorem dX2_copyFrom_18 : decode cX2_copyFrom 18 = .ok (.bipush 110, 2) := by decide +kernel
theorem dX2_copyFrom_20 : decode cX2_copyFrom 20 = .ok (.invokestatic 32, 3) := by decide +kernel
theorem dX2_copyFrom_23 : decode cX2_copyFrom 23 = .ok (.return_, 1) := by decide +kernel
theorem dX2_today_0 : decode cX2_today 0 = .ok (.aload_n 0, 1) := by decide +kernel
theorem dX2_today_1 : decode cX2_today 1 = .ok (.getfield 11, 3) := by decide +kernel
theorem dX2_today_4 : decode cX2_today 4 = .ok (.iconst 0, 1) := by decide +kernel
theorem dX2_today_5 : decode cX2_today 5 = .ok (.iaload, 1) := by decide +kernel
theorem dX2_today_6 : decode cX2_today 6 = .ok (.ireturn, 1) := by decide +kernel
theorem dX2_dogCount_0 : decode cX2_dogCount 0 = .ok (.aload_n 0, 1) := by decide +kernel
theorem dX2_dogCount_1 : decode cX2_dogCount 1 = .ok (.getfield 11, 3) := by decide +kernel
theorem dX2_dogCount_4 : decode cX2_dogCount 4 = .ok (.iconst 1, 1) := by decide +kernel
theorem dX2_dogCount_5 : decode cX2_dogCount 5 = .ok (.iaload, 1) := by decide +kernel
theorem dX2_dogCount_6 : decode cX2_dogCount 6 = .ok (.ireturn, 1) := by decide +kernel
theorem dX2_griefOf_0 : decode cX2_griefOf 0 = .ok (.aload_n 0, 1) := by decide +kernel
theorem dX2_griefOf_1 : decode cX2_griefOf 1 = .ok (.getfield 11, 3) := by decide +kernel
theorem dX2_griefOf_4 : decode cX2_griefOf 4 = .ok (.iconst 2, 1) := by decide +kernel
theorem dX2_griefOf_5 : decode cX2_griefOf 5 = .ok (.iload_n 1, 1) := by decide +kernel
theorem dX2_griefOf_6 : decode cX2_griefOf 6 = .ok (.iconst 4, 1) := by decide +kernel
theorem dX2_griefOf_7 : decode cX2_griefOf 7 = .ok (.imul, 1) := by decide +kernel
theorem dX2_griefOf_8 : decode cX2_griefOf 8 = .ok (.iadd, 1) := by decide +kernel
theorem dX2_griefOf_9 : decode cX2_griefOf 9 = .ok (.iconst 0, 1) := by decide +kernel
theorem dX2_griefOf_10 : decode cX2_griefOf 10 = .ok (.iadd, 1) := by decide +kernel
theorem dX2_griefOf_11 : decode cX2_griefOf 11 = .ok (.iaload, 1) := by decide +kernel
theorem dX2_griefOf_12 : decode cX2_griefOf 12 = .ok (.ireturn, 1) := by decide +kernel
theorem dX2_setGrief_0 : decode cX2_setGrief 0 = .ok (.aload_n 0, 1) := by decide +kernel
theorem dX2_setGrief_1 : decode cX2_setGrief 1 = .ok (.getfield 11, 3) := by decide +kernel
theorem dX2_setGrief_4 : decode cX2_setGrief 4 = .ok (.iconst 2, 1) := by decide +kernel
theorem dX2_setGrief_5 : decode cX2_setGrief 5 = .ok (.iload_n 1, 1) := by decide +kernel
theorem dX2_setGrief_6 : decode cX2_setGrief 6 = .ok (.iconst 4, 1) := by decide +kernel
theorem dX2_setGrief_7 : decode cX2_setGrief 7 = .ok (.imul, 1) := by decide +kernel
theorem dX2_setGrief_8 : decode cX2_setGrief 8 = .ok (.iadd, 1) := by decide +kernel
theorem dX2_setGrief_9 : decode cX2_setGrief 9 = .ok (.iconst 0, 1) := by decide +kernel
theorem dX2_setGrief_10 : decode cX2_setGrief 10 = .ok (.iadd, 1) := by decide +kernel
theorem dX2_setGrief_11 : decode cX2_setGrief 11 = .ok (.iload_n 2, 1) := by decide +kernel
theorem dX2_setGrief_12 : decode cX2_setGrief 12 = .ok (.iastore, 1) := by decide +kernel
theorem dX2_setGrief_13 : decode cX2_setGrief 13 = .ok (.return_, 1) := by decide +kernel
theorem dX2_trainsOf_0 : decode cX2_trainsOf 0 = .ok (.aload_n 0, 1) := by decide +kernel
theorem dX2_trainsOf_1 : decode cX2_trainsOf 1 = .ok (.getfield 11, 3) := by decide +kernel
theorem dX2_trainsOf_4 : decode cX2_trainsOf 4 = .ok (.iconst 2, 1) := by decide +kernel
theorem dX2_trainsOf_5 : decode cX2_trainsOf 5 = .ok (.iload_n 1, 1) := by decide +kernel
theorem dX2_trainsOf_6 : decode cX2_trainsOf 6 = .ok (.iconst 4, 1) := by decide +kernel
theorem dX2_trainsOf_7 : decode cX2_trainsOf 7 = .ok (.imul, 1) := by decide +kernel
theorem dX2_trainsOf_8 : decode cX2_trainsOf 8 = .ok (.iadd, 1) := by decide +kernel
theorem dX2_trainsOf_9 : decode cX2_trainsOf 9 = .ok (.iconst 1, 1) := by decide +kernel
theorem dX2_trainsOf_10 : decode cX2_trainsOf 10 = .ok (.iadd, 1) := by decide +kernel
theorem dX2_trainsOf_11 : decode cX2_trainsOf 11 = .ok (.iaload, 1) := by decide +kernel
theorem dX2_trainsOf_12 : decode cX2_trainsOf 12 = .ok (.ireturn, 1) := by decide +kernel
theorem dX2_setTrains_0 : decode cX2_setTrains 0 = .ok (.aload_n 0, 1) := by decide +kernel
theorem dX2_setTrains_1 : decode cX2_setTrains 1 = .ok (.getfield 11, 3) := by decide +kernel
theorem dX2_setTrains_4 : decode cX2_setTrains 4 = .ok (.iconst 2, 1) := by decide +kernel
theorem dX2_setTrains_5 : decode cX2_setTrains 5 = .ok (.iload_n 1, 1) := by decide +kernel
theorem dX2_setTrains_6 : decode cX2_setTrains 6 = .ok (.iconst 4, 1) := by decide +kernel
theorem dX2_setTrains_7 : decode cX2_setTrains 7 = .ok (.imul, 1) := by decide +kernel
theorem dX2_setTrains_8 : decode cX2_setTrains 8 = .ok (.iadd, 1) := by decide +kernel
theorem dX2_setTrains_9 : decode cX2_setTrains 9 = .ok (.iconst 1, 1) := by decide +kernel
theorem dX2_setTrains_10 : decode cX2_setTrains 10 = .ok (.iadd, 1) := by decide +kernel
theorem dX2_setTrains_11 : decode cX2_setTrains 11 = .ok (.iload_n 2, 1) := by decide +kernel
theorem dX2_setTrains_12 : decode cX2_setTrains 12 = .ok (.iastore, 1) := by decide +kernel
theorem dX2_setTrains_13 : decode cX2_setTrains 13 = .ok (.return_, 1) := by decide +kernel
theorem dX2_onionsOf_0 : decode cX2_onionsOf 0 = .ok (.aload_n 0, 1) := by decide +kernel
theorem dX2_onionsOf_1 : decode cX2_onionsOf 1 = .ok (.getfield 11, 3) := by decide +kernel
theorem dX2_onionsOf_4 : decode cX2_onionsOf 4 = .ok (.iconst 2, 1) := by decide +kernel
theorem dX2_onionsOf_5 : decode cX2_onionsOf 5 = .ok (.iload_n 1, 1) := by decide +kernel
theorem dX2_onionsOf_6 : decode cX2_onionsOf 6 = .ok (.iconst 4, 1) := by decide +kernel
theorem dX2_onionsOf_7 : decode cX2_onionsOf 7 = .ok (.imul, 1) := by decide +kernel
theorem dX2_onionsOf_8 : decode cX2_onionsOf 8 = .ok (.iadd, 1) := by decide +kernel
theorem dX2_onionsOf_9 : decode cX2_onionsOf 9 = .ok (.iconst 2, 1) := by decide +kernel
theorem dX2_onionsOf_10 : decode cX2_onionsOf 10 = .ok (.iadd, 1) := by decide +kernel
theorem dX2_onionsOf_11 : decode cX2_onionsOf 11 = .ok (.iaload, 1) := by decide +kernel
theorem dX2_onionsOf_12 : decode cX2_onionsOf 12 = .ok (.ireturn, 1) := by decide +kernel
theorem dX2_setOnions_0 : decode cX2_setOnions 0 = .ok (.aload_n 0, 1) := by decide +kernel
theorem dX2_setOnions_1 : decode cX2_setOnions 1 = .ok (.getfield 11, 3) := by decide +kernel
theorem dX2_setOnions_4 : decode cX2_setOnions 4 = .ok (.iconst 2, 1) := by decide +kernel
theorem dX2_setOnions_5 : decode cX2_setOnions 5 = .ok (.iload_n 1, 1) := by decide +kernel
theorem dX2_setOnions_6 : decode cX2_setOnions 6 = .ok (.iconst 4, 1) := by decide +kernel
theorem dX2_setOnions_7 : decode cX2_setOnions 7 = .ok (.imul, 1) := by decide +kernel
theorem dX2_setOnions_8 : decode cX2_setOnions 8 = .ok (.iadd, 1) := by decide +kernel
theorem dX2_setOnions_9 : decode cX2_setOnions 9 = .ok (.iconst 2, 1) := by decide +kernel
theorem dX2_setOnions_10 : decode cX2_setOnions 10 = .ok (.iadd, 1) := by decide +kernel
theorem dX2_setOnions_11 : decode cX2_setOnions 11 = .ok (.iload_n 2, 1) := by decide +kernel
theorem dX2_setOnions_12 : decode cX2_setOnions 12 = .ok (.iastore, 1) := by decide +kernel
theorem dX2_setOnions_13 : decode cX2_setOnions 13 = .ok (.return_, 1) := by decide +kernel
theorem dX2_ledBits_0 : decode cX2_ledBits 0 = .ok (.aload_n 0, 1) := by decide +kernel
theorem dX2_ledBits_1 : decode cX2_ledBits 1 = .ok (.getfield 11, 3) := by decide +kernel
theorem dX2_ledBits_4 : decode cX2_ledBits 4 = .ok (.iconst 2, 1) := by decide +kernel
theorem dX2_ledBits_5 : decode cX2_ledBits 5 = .ok (.iload_n 1, 1) := by decide +kernel
theorem dX2_ledBits_6 : decode cX2_ledBits 6 = .ok (.iconst 4, 1) := by decide +kernel
theorem dX2_ledBits_7 : decode cX2_ledBits 7 = .ok (.imul, 1) := by decide +kernel
theorem dX2_ledBits_8 : decode cX2_ledBits 8 = .ok (.iadd, 1) := by decide +kernel
theorem dX2_ledBits_9 : decode cX2_ledBits 9 = .ok (.iconst 3, 1) := by decide +kernel
theorem dX2_ledBits_10 : decode cX2_ledBits 10 = .ok (.iadd, 1) := by decide +kernel
theorem dX2_ledBits_11 : decode cX2_ledBits 11 = .ok (.iaload, 1) := by decide +kernel
theorem dX2_ledBits_12 : decode cX2_ledBits 12 = .ok (.ireturn, 1) := by decide +kernel
theorem dX2_welcome_0 : decode cX2_welcome 0 = .ok (.aload_n 0, 1) := by decide +kernel
theorem dX2_welcome_1 : decode cX2_welcome 1 = .ok (.getfield 11, 3) := by decide +kernel
theorem dX2_welcome_4 : decode cX2_welcome 4 = .ok (.bipush 38, 2) := by decide +kernel
theorem dX2_welcome_6 : decode cX2_welcome 6 = .ok (.iload_n 1, 1) := by decide +kernel
theorem dX2_welcome_7 : decode cX2_welcome 7 = .ok (.iconst 3, 1) := by decide +kernel
theorem dX2_welcome_8 : decode cX2_welcome 8 = .ok (.imul, 1) := by decide +kernel
theorem dX2_welcome_9 : decode cX2_welcome 9 = .ok (.iadd, 1) := by decide +kernel
theorem dX2_welcome_10 : decode cX2_welcome 10 = .ok (.iconst 0, 1) := by decide +kernel
theorem dX2_welcome_11 : decode cX2_welcome 11 = .ok (.iadd, 1) := by decide +kernel
theorem dX2_welcome_12 : decode cX2_welcome 12 = .ok (.iload_n 2, 1) := by decide +kernel
theorem dX2_welcome_13 : decode cX2_welcome 13 = .ok (.iastore, 1) := by decide +kernel
theorem dX2_welcome_14 : decode cX2_welcome 14 = .ok (.aload_n 0, 1) := by decide +kernel
theorem dX2_welcome_15 : decode cX2_welcome 15 = .ok (.getfield 11, 3) := by decide +kernel
theorem dX2_welcome_18 : decode cX2_welcome 18 = .ok (.bipush 38, 2) := by decide +kernel
theorem dX2_welcome_20 : decode cX2_welcome 20 = .ok (.iload_n 1, 1) := by decide +kernel
theorem dX2_welcome_21 : decode cX2_welcome 21 = .ok (.iconst 3, 1) := by decide +kernel
theorem dX2_welcome_22 : decode cX2_welcome 22 = .ok (.imul, 1) := by decide +kernel
theorem dX2_welcome_23 : decode cX2_welcome 23 = .ok (.iadd, 1) := by decide +kernel
theorem dX2_welcome_24 : decode cX2_welcome 24 = .ok (.iconst 1, 1) := by decide +kernel
theorem dX2_welcome_25 : decode cX2_welcome 25 = .ok (.iadd, 1) := by decide +kernel
theorem dX2_welcome_26 : decode cX2_welcome 26 = .ok (.iconst 1, 1) := by decide +kernel
theorem dX2_welcome_27 : decode cX2_welcome 27 = .ok (.iastore, 1) := by decide +kernel
theorem dX2_welcome_28 : decode cX2_welcome 28 = .ok (.aload_n 0, 1) := by decide +kernel
theorem dX2_welcome_29 : decode cX2_welcome 29 = .ok (.getfield 11, 3) := by decide +kernel
theorem dX2_welcome_32 : decode cX2_welcome 32 = .ok (.bipush 38, 2) := by decide +kernel
theorem dX2_welcome_34 : decode cX2_welcome 34 = .ok (.iload_n 1, 1) := by decide +kernel
theorem dX2_welcome_35 : decode cX2_welcome 35 = .ok (.iconst 3, 1) := by decide +kernel
theorem dX2_welcome_36 : decode cX2_welcome 36 = .ok (.imul, 1) := by decide +kernel
theorem dX2_welcome_37 : decode cX2_welcome 37 = .ok (.iadd, 1) := by decide +kernel
theorem dX2_welcome_38 : decode cX2_welcome 38 = .ok (.iconst 2, 1) := by decide +kernel
theorem dX2_welcome_39 : decode cX2_welcome 39 = .ok (.iadd, 1) := by decide +kernel
theorem dX2_welcome_40 : decode cX2_welcome 40 = .ok (.iconst (-1), 1) := by decide +kernel
theorem dX2_welcome_41 : decode cX2_welcome 41 = .ok (.iastore, 1) := by decide +kernel
theorem dX2_welcome_42 : decode cX2_welcome 42 = .ok (.return_, 1) := by decide +kernel
theorem dX2_weddingOf_0 : decode cX2_weddingOf 0 = .ok (.aload_n 0, 1) := by decide +kernel
theorem dX2_weddingOf_1 : decode cX2_weddingOf 1 = .ok (.getfield 11, 3) := by decide +kernel
theorem dX2_weddingOf_4 : decode cX2_weddingOf 4 = .ok (.bipush 38, 2) := by decide +kernel
theorem dX2_weddingOf_6 : decode cX2_weddingOf 6 = .ok (.iload_n 1, 1) := by decide +kernel
theorem dX2_weddingOf_7 : decode cX2_weddingOf 7 = .ok (.iconst 3, 1) := by decide +kernel
theorem dX2_weddingOf_8 : decode cX2_weddingOf 8 = .ok (.imul, 1) := by decide +kernel
theorem dX2_weddingOf_9 : decode cX2_weddingOf 9 = .ok (.iadd, 1) := by decide +kernel
theorem dX2_weddingOf_10 : decode cX2_weddingOf 10 = .ok (.iconst 0, 1) := by decide +kernel
theorem dX2_weddingOf_11 : decode cX2_weddingOf 11 = .ok (.iadd, 1) := by decide +kernel
theorem dX2_weddingOf_12 : decode cX2_weddingOf 12 = .ok (.iaload, 1) := by decide +kernel
theorem dX2_weddingOf_13 : decode cX2_weddingOf 13 = .ok (.ireturn, 1) := by decide +kernel
theorem dX2_setWedding_0 : decode cX2_setWedding 0 = .ok (.aload_n 0, 1) := by decide +kernel
theorem dX2_setWedding_1 : decode cX2_setWedding 1 = .ok (.getfield 11, 3) := by decide +kernel
theorem dX2_setWedding_4 : decode cX2_setWedding 4 = .ok (.bipush 38, 2) := by decide +kernel
theorem dX2_setWedding_6 : decode cX2_setWedding 6 = .ok (.iload_n 1, 1) := by decide +kernel
theorem dX2_setWedding_7 : decode cX2_setWedding 7 = .ok (.iconst 3, 1) := by decide +kernel
theorem dX2_setWedding_8 : decode cX2_setWedding 8 = .ok (.imul, 1) := by decide +kernel
theorem dX2_setWedding_9 : decode cX2_setWedding 9 = .ok (.iadd, 1) := by decide +kernel
theorem dX2_setWedding_10 : decode cX2_setWedding 10 = .ok (.iconst 0, 1) := by decide +kernel
theorem dX2_setWedding_11 : decode cX2_setWedding 11 = .ok (.iadd, 1) := by decide +kernel
theorem dX2_setWedding_12 : decode cX2_setWedding 12 = .ok (.iload_n 2, 1) := by decide +kernel
theorem dX2_setWedding_13 : decode cX2_setWedding 13 = .ok (.iastore, 1) := by decide +kernel
theorem dX2_setWedding_14 : decode cX2_setWedding 14 = .ok (.return_, 1) := by decide +kernel
theorem dX2_isHome_0 : decode cX2_isHome 0 = .ok (.aload_n 0, 1) := by decide +kernel
theorem dX2_isHome_1 : decode cX2_isHome 1 = .ok (.getfield 11, 3) := by decide +kernel
theorem dX2_isHome_4 : decode cX2_isHome 4 = .ok (.bipush 38, 2) := by decide +kernel
theorem dX2_isHome_6 : decode cX2_isHome 6 = .ok (.iload_n 1, 1) := by decide +kernel
theorem dX2_isHome_7 : decode cX2_isHome 7 = .ok (.iconst 3, 1) := by decide +kernel
theorem dX2_isHome_8 : decode cX2_isHome 8 = .ok (.imul, 1) := by decide +kernel
theorem dX2_isHome_9 : decode cX2_isHome 9 = .ok (.iadd, 1) := by decide +kernel
theorem dX2_isHome_10 : decode cX2_isHome 10 = .ok (.iconst 1, 1) := by decide +kernel
theorem dX2_isHome_11 : decode cX2_isHome 11 = .ok (.iadd, 1) := by decide +kernel
theorem dX2_isHome_12 : decode cX2_isHome 12 = .ok (.iaload, 1) := by decide +kernel
theorem dX2_isHome_13 : decode cX2_isHome 13 = .ok (.iconst 1, 1) := by decide +kernel
theorem dX2_isHome_14 : decode cX2_isHome 14 = .ok (.if_icmp .ne 7, 3) := by decide +kernel
theorem dX2_isHome_17 : decode cX2_isHome 17 = .ok (.iconst 1, 1) := by decide +kernel
theorem dX2_isHome_18 : decode cX2_isHome 18 = .ok (.goto 4, 3) := by decide +kernel
theorem dX2_isHome_21 : decode cX2_isHome 21 = .ok (.iconst 0, 1) := by decide +kernel
theorem dX2_isHome_22 : decode cX2_isHome 22 = .ok (.ireturn, 1) := by decide +kernel
theorem dX2_whoLed_0 : decode cX2_whoLed 0 = .ok (.aload_n 0, 1) := by decide +kernel
theorem dX2_whoLed_1 : decode cX2_whoLed 1 = .ok (.getfield 11, 3) := by decide +kernel
theorem dX2_whoLed_4 : decode cX2_whoLed 4 = .ok (.bipush 38, 2) := by decide +kernel
theorem dX2_whoLed_6 : decode cX2_whoLed 6 = .ok (.iload_n 1, 1) := by decide +kernel
theorem dX2_whoLed_7 : decode cX2_whoLed 7 = .ok (.iconst 3, 1) := by decide +kernel
theorem dX2_whoLed_8 : decode cX2_whoLed 8 = .ok (.imul, 1) := by decide +kernel
theorem dX2_whoLed_9 : decode cX2_whoLed 9 = .ok (.iadd, 1) := by decide +kernel
theorem dX2_whoLed_10 : decode cX2_whoLed 10 = .ok (.iconst 2, 1) := by decide +kernel
theorem dX2_whoLed_11 : decode cX2_whoLed 11 = .ok (.iadd, 1) := by decide +kernel
theorem dX2_whoLed_12 : decode cX2_whoLed 12 = .ok (.iaload, 1) := by decide +kernel
theorem dX2_whoLed_13 : decode cX2_whoLed 13 = .ok (.ireturn, 1) := by decide +kernel
theorem dX2_leaderWeight_0 : decode cX2_leaderWeight 0 = .ok (.aload_n 0, 1) := by decide +kernel
theorem dX2_leaderWeight_1 : decode cX2_leaderWeight 1 = .ok (.getfield 20, 3) := by decide +kernel
theorem dX2_leaderWeight_4 : decode cX2_leaderWeight 4 = .ok (.iload_n 1, 1) := by decide +kernel
theorem dX2_leaderWeight_5 : decode cX2_leaderWeight 5 = .ok (.iaload, 1) := by decide +kernel
theorem dX2_leaderWeight_6 : decode cX2_leaderWeight 6 = .ok (.ireturn, 1) := by decide +kernel
theorem dX2_yearsOf_0 : decode cX2_yearsOf 0 = .ok (.aload_n 0, 1) := by decide +kernel
theorem dX2_yearsOf_1 : decode cX2_yearsOf 1 = .ok (.getfield 11, 3) := by decide +kernel
theorem dX2_yearsOf_4 : decode cX2_yearsOf 4 = .ok (.bipush 56, 2) := by decide +kernel
theorem dX2_yearsOf_6 : decode cX2_yearsOf 6 = .ok (.iload_n 1, 1) := by decide +kernel
theorem dX2_yearsOf_7 : decode cX2_yearsOf 7 = .ok (.bipush 6, 2) := by decide +kernel
theorem dX2_yearsOf_9 : decode cX2_yearsOf 9 = .ok (.imul, 1) := by decide +kernel
theorem dX2_yearsOf_10 : decode cX2_yearsOf 10 = .ok (.iadd, 1) := by decide +kernel
theorem dX2_yearsOf_11 : decode cX2_yearsOf 11 = .ok (.iload_n 2, 1) := by decide +kernel
theorem dX2_yearsOf_12 : decode cX2_yearsOf 12 = .ok (.iadd, 1) := by decide +kernel
theorem dX2_yearsOf_13 : decode cX2_yearsOf 13 = .ok (.iaload, 1) := by decide +kernel
theorem dX2_yearsOf_14 : decode cX2_yearsOf 14 = .ok (.ireturn, 1) := by decide +kernel
theorem dX2_setYears_0 : decode cX2_setYears 0 = .ok (.aload_n 0, 1) := by decide +kernel
theorem dX2_setYears_1 : decode cX2_setYears 1 = .ok (.getfield 11, 3) := by decide +kernel
theorem dX2_setYears_4 : decode cX2_setYears 4 = .ok (.bipush 56, 2) := by decide +kernel
theorem dX2_setYears_6 : decode cX2_setYears 6 = .ok (.iload_n 1, 1) := by decide +kernel
theorem dX2_setYears_7 : decode cX2_setYears 7 = .ok (.bipush 6, 2) := by decide +kernel
theorem dX2_setYears_9 : decode cX2_setYears 9 = .ok (.imul, 1) := by decide +kernel
theorem dX2_setYears_10 : decode cX2_setYears 10 = .ok (.iadd, 1) := by decide +kernel
theorem dX2_setYears_11 : decode cX2_setYears 11 = .ok (.iload_n 2, 1) := by decide +kernel
theorem dX2_setYears_12 : decode cX2_setYears 12 = .ok (.iadd, 1) := by decide +kernel
theorem dX2_setYears_13 : decode cX2_setYears 13 = .ok (.iload_n 3, 1) := by decide +kernel
theorem dX2_setYears_14 : decode cX2_setYears 14 = .ok (.iastore, 1) := by decide +kernel
theorem dX2_setYears_15 : decode cX2_setYears 15 = .ok (.return_, 1) := by decide +kernel
theorem dX2_bridesTiedTo_0 : decode cX2_bridesTiedTo 0 = .ok (.iconst 0, 1) := by decide +kernel
theorem dX2_bridesTiedTo_1 : decode cX2_bridesTiedTo 1 = .ok (.istore_n 2, 1) := by decide +kernel
theorem dX2_bridesTiedTo_2 : decode cX2_bridesTiedTo 2 = .ok (.iconst 0, 1) := by decide +kernel
theorem dX2_bridesTiedTo_3 : decode cX2_bridesTiedTo 3 = .ok (.istore_n 3, 1) := by decide +kernel
theorem dX2_bridesTiedTo_4 : decode cX2_bridesTiedTo 4 = .ok (.iload_n 3, 1) := by decide +kernel
theorem dX2_bridesTiedTo_5 : decode cX2_bridesTiedTo 5 = .ok (.aload_n 0, 1) := by decide +kernel
theorem dX2_bridesTiedTo_6 : decode cX2_bridesTiedTo 6 = .ok (.getfield 23, 3) := by decide +kernel
theorem dX2_bridesTiedTo_9 : decode cX2_bridesTiedTo 9 = .ok (.getfield 38, 3) := by decide +kernel
theorem dX2_bridesTiedTo_12 : decode cX2_bridesTiedTo 12 = .ok (.if_icmp .ge 24, 3) := by decide +kernel
theorem dX2_bridesTiedTo_15 : decode cX2_bridesTiedTo 15 = .ok (.aload_n 0, 1) := by decide +kernel
theorem dX2_bridesTiedTo_16 : decode cX2_bridesTiedTo 16 = .ok (.iload_n 1, 1) := by decide +kernel
theorem dX2_bridesTiedTo_17 : decode cX2_bridesTiedTo 17 = .ok (.iload_n 3, 1) := by decide +kernel
theorem dX2_bridesTiedTo_18 : decode cX2_bridesTiedTo 18 = .ok (.invokevirtual 42, 3) := by decide +kernel
theorem dX2_bridesTiedTo_21 : decode cX2_bridesTiedTo 21 = .ok (.ifCond .le 9, 3) := by decide +kernel
theorem dX2_bridesTiedTo_24 : decode cX2_bridesTiedTo 24 = .ok (.iload_n 2, 1) := by decide +kernel
theorem dX2_bridesTiedTo_25 : decode cX2_bridesTiedTo 25 = .ok (.iconst 1, 1) := by decide +kernel
theorem dX2_bridesTiedTo_26 : decode cX2_bridesTiedTo 26 = .ok (.iload_n 3, 1) := by decide +kernel
theorem dX2_bridesTiedTo_27 : decode cX2_bridesTiedTo 27 = .ok (.ishl, 1) := by decide +kernel
theorem dX2_bridesTiedTo_28 : decode cX2_bridesTiedTo 28 = .ok (.ior, 1) := by decide +kernel
theorem dX2_bridesTiedTo_29 : decode cX2_bridesTiedTo 29 = .ok (.istore_n 2, 1) := by decide +kernel
theorem dX2_bridesTiedTo_30 : decode cX2_bridesTiedTo 30 = .ok (.iinc 3 1, 3) := by decide +kernel
theorem dX2_bridesTiedTo_33 : decode cX2_bridesTiedTo 33 = .ok (.goto (-29), 3) := by decide +kernel
theorem dX2_bridesTiedTo_36 : decode cX2_bridesTiedTo 36 = .ok (.iload_n 2, 1) := by decide +kernel
theorem dX2_bridesTiedTo_37 : decode cX2_bridesTiedTo 37 = .ok (.ireturn, 1) := by decide +kernel
theorem dX2_peopleTiedTo_0 : decode cX2_peopleTiedTo 0 = .ok (.iconst 0, 1) := by decide +kernel
theorem dX2_peopleTiedTo_1 : decode cX2_peopleTiedTo 1 = .ok (.istore_n 2, 1) := by decide +kernel
theorem dX2_peopleTiedTo_2 : decode cX2_peopleTiedTo 2 = .ok (.iconst 0, 1) := by decide +kernel
theorem dX2_peopleTiedTo_3 : decode cX2_peopleTiedTo 3 = .ok (.istore_n 3, 1) := by decide +kernel
theorem dX2_peopleTiedTo_4 : decode cX2_peopleTiedTo 4 = .ok (.iload_n 3, 1) := by decide +kernel
theorem dX2_peopleTiedTo_5 : decode cX2_peopleTiedTo 5 = .ok (.aload_n 0, 1) := by decide +kernel
theorem dX2_peopleTiedTo_6 : decode cX2_peopleTiedTo 6 = .ok (.getfield 23, 3) := by decide +kernel
theorem dX2_peopleTiedTo_9 : decode cX2_peopleTiedTo 9 = .ok (.getfield 46, 3) := by decide +kernel
theorem dX2_peopleTiedTo_12 : decode cX2_peopleTiedTo 12 = .ok (.if_icmp .ge 32, 3) := by decide +kernel
theorem dX2_peopleTiedTo_15 : decode cX2_peopleTiedTo 15 = .ok (.aload_n 0, 1) := by decide +kernel
theorem dX2_peopleTiedTo_16 : decode cX2_peopleTiedTo 16 = .ok (.getfield 11, 3) := by decide +kernel
theorem dX2_peopleTiedTo_19 : decode cX2_peopleTiedTo 19 = .ok (.bipush 56, 2) := by decide +kernel
theorem dX2_peopleTiedTo_21 : decode cX2_peopleTiedTo 21 = .ok (.iload_n 3, 1) := by decide +kernel
theorem dX2_peopleTiedTo_22 : decode cX2_peopleTiedTo 22 = .ok (.bipush 6, 2) := by decide +kernel
theorem dX2_peopleTiedTo_24 : decode cX2_peopleTiedTo 24 = .ok (.imul, 1) := by decide +kernel
theorem dX2_peopleTiedTo_25 : decode cX2_peopleTiedTo 25 = .ok (.iadd, 1) := by decide +kernel
theorem dX2_peopleTiedTo_26 : decode cX2_peopleTiedTo 26 = .ok (.iload_n 1, 1) := by decide +kernel
theorem dX2_peopleTiedTo_27 : decode cX2_peopleTiedTo 27 = .ok (.iadd, 1) := by decide +kernel
theorem dX2_peopleTiedTo_28 : decode cX2_peopleTiedTo 28 = .ok (.iaload, 1) := by decide +kernel
theorem dX2_peopleTiedTo_29 : decode cX2_peopleTiedTo 29 = .ok (.ifCond .le 9, 3) := by decide +kernel
theorem dX2_peopleTiedTo_32 : decode cX2_peopleTiedTo 32 = .ok (.iload_n 2, 1) := by decide +kernel
theorem dX2_peopleTiedTo_33 : decode cX2_peopleTiedTo 33 = .ok (.iconst 1, 1) := by decide +kernel
theorem dX2_peopleTiedTo_34 : decode cX2_peopleTiedTo 34 = .ok (.iload_n 3, 1) := by decide +kernel
theorem dX2_peopleTiedTo_35 : decode cX2_peopleTiedTo 35 = .ok (.ishl, 1) := by decide +kernel
theorem dX2_peopleTiedTo_36 : decode cX2_peopleTiedTo 36 = .ok (.ior, 1) := by decide +kernel
theorem dX2_peopleTiedTo_37 : decode cX2_peopleTiedTo 37 = .ok (.istore_n 2, 1) := by decide +kernel
theorem dX2_peopleTiedTo_38 : decode cX2_peopleTiedTo 38 = .ok (.iinc 3 1, 3) := by decide +kernel
theorem dX2_peopleTiedTo_41 : decode cX2_peopleTiedTo 41 = .ok (.goto (-37), 3) := by decide +kernel
theorem dX2_peopleTiedTo_44 : decode cX2_peopleTiedTo 44 = .ok (.iload_n 2, 1) := by decide +kernel
theorem dX2_peopleTiedTo_45 : decode cX2_peopleTiedTo 45 = .ok (.ireturn, 1) := by decide +kernel
theorem dX2_peopleBeside_0 : decode cX2_peopleBeside 0 = .ok (.iconst 0, 1) := by decide +kernel
theorem dX2_peopleBeside_1 : decode cX2_peopleBeside 1 = .ok (.istore_n 2, 1) := by decide +kernel
theorem dX2_peopleBeside_2 : decode cX2_peopleBeside 2 = .ok (.iconst 0, 1) := by decide +kernel
theorem dX2_peopleBeside_3 : decode cX2_peopleBeside 3 = .ok (.istore_n 3, 1) := by decide +kernel
theorem dX2_peopleBeside_4 : decode cX2_peopleBeside 4 = .ok (.iload_n 3, 1) := by decide +kernel
theorem dX2_peopleBeside_5 : decode cX2_peopleBeside 5 = .ok (.aload_n 0, 1) := by decide +kernel
theorem dX2_peopleBeside_6 : decode cX2_peopleBeside 6 = .ok (.getfield 23, 3) := by decide +kernel
theorem dX2_peopleBeside_9 : decode cX2_peopleBeside 9 = .ok (.getfield 38, 3) := by decide +kernel
theorem dX2_peopleBeside_12 : decode cX2_peopleBeside 12 = .ok (.if_icmp .ge 28, 3) := by decide +kernel
theorem dX2_peopleBeside_15 : decode cX2_peopleBeside 15 = .ok (.aload_n 0, 1) := by decide +kernel
theorem dX2_peopleBeside_16 : decode cX2_peopleBeside 16 = .ok (.iload_n 3, 1) := by decide +kernel
theorem dX2_peopleBeside_17 : decode cX2_peopleBeside 17 = .ok (.invokevirtual 49, 3) := by decide +kernel
theorem dX2_peopleBeside_20 : decode cX2_peopleBeside 20 = .ok (.istore 4, 2) := by decide +kernel
theorem dX2_peopleBeside_22 : decode cX2_peopleBeside 22 = .ok (.iload 4, 2) := by decide +kernel
theorem dX2_peopleBeside_24 : decode cX2_peopleBeside 24 = .ok (.iload_n 1, 1) := by decide +kernel
theorem dX2_peopleBeside_25 : decode cX2_peopleBeside 25 = .ok (.iand, 1) := by decide +kernel
theorem dX2_peopleBeside_26 : decode cX2_peopleBeside 26 = .ok (.ifCond .eq 8, 3) := by decide +kernel
theorem dX2_peopleBeside_29 : decode cX2_peopleBeside 29 = .ok (.iload_n 2, 1) := by decide +kernel
theorem dX2_peopleBeside_30 : decode cX2_peopleBeside 30 = .ok (.iload 4, 2) := by decide +kernel
theorem dX2_peopleBeside_32 : decode cX2_peopleBeside 32 = .ok (.ior, 1) := by decide +kernel
theorem dX2_peopleBeside_33 : decode cX2_peopleBeside 33 = .ok (.istore_n 2, 1) := by decide +kernel
theorem dX2_peopleBeside_34 : decode cX2_peopleBeside 34 = .ok (.iinc 3 1, 3) := by decide +kernel
theorem dX2_peopleBeside_37 : decode cX2_peopleBeside 37 = .ok (.goto (-33), 3) := by decide +kernel
theorem dX2_peopleBeside_40 : decode cX2_peopleBeside 40 = .ok (.iload_n 2, 1) := by decide +kernel
theorem dX2_peopleBeside_41 : decode cX2_peopleBeside 41 = .ok (.ireturn, 1) := by decide +kernel
theorem dX2_tieCount_0 : decode cX2_tieCount 0 = .ok (.iconst 0, 1) := by decide +kernel
theorem dX2_tieCount_1 : decode cX2_tieCount 1 = .ok (.istore_n 1, 1) := by decide +kernel
theorem dX2_tieCount_2 : decode cX2_tieCount 2 = .ok (.iconst 0, 1) := by decide +kernel
theorem dX2_tieCount_3 : decode cX2_tieCount 3 = .ok (.istore_n 2, 1) := by decide +kernel
theorem dX2_tieCount_4 : decode cX2_tieCount 4 = .ok (.iload_n 2, 1) := by decide +kernel
theorem dX2_tieCount_5 : decode cX2_tieCount 5 = .ok (.aload_n 0, 1) := by decide +kernel
theorem dX2_tieCount_6 : decode cX2_tieCount 6 = .ok (.getfield 23, 3) := by decide +kernel
theorem dX2_tieCount_9 : decode cX2_tieCount 9 = .ok (.getfield 46, 3) := by decide +kernel
theorem dX2_tieCount_12 : decode cX2_tieCount 12 = .ok (.if_icmp .ge 20, 3) := by decide +kernel
theorem dX2_tieCount_15 : decode cX2_tieCount 15 = .ok (.iload_n 1, 1) := by decide +kernel
theorem dX2_tieCount_16 : decode cX2_tieCount 16 = .ok (.aload_n 0, 1) := by decide +kernel
theorem dX2_tieCount_17 : decode cX2_tieCount 17 = .ok (.iload_n 2, 1) := by decide +kernel
theorem dX2_tieCount_18 : decode cX2_tieCount 18 = .ok (.invokevirtual 53, 3) := by decide +kernel
theorem dX2_tieCount_21 : decode cX2_tieCount 21 = .ok (.invokestatic 56, 3) := by decide +kernel
theorem dX2_tieCount_24 : decode cX2_tieCount 24 = .ok (.iadd, 1) := by decide +kernel
theorem dX2_tieCount_25 : decode cX2_tieCount 25 = .ok (.istore_n 1, 1) := by decide +kernel
theorem dX2_tieCount_26 : decode cX2_tieCount 26 = .ok (.iinc 2 1, 3) := by decide +kernel
theorem dX2_tieCount_29 : decode cX2_tieCount 29 = .ok (.goto (-25), 3) := by decide +kernel
theorem dX2_tieCount_32 : decode cX2_tieCount 32 = .ok (.iload_n 1, 1) := by decide +kernel
theorem dX2_tieCount_33 : decode cX2_tieCount 33 = .ok (.ireturn, 1) := by decide +kernel
theorem dX2_homeBits_0 : decode cX2_homeBits 0 = .ok (.iconst 0, 1) := by decide +kernel
theorem dX2_homeBits_1 : decode cX2_homeBits 1 = .ok (.istore_n 1, 1) := by decide +kernel
theorem dX2_homeBits_2 : decode cX2_homeBits 2 = .ok (.iconst 0, 1) := by decide +kernel
theorem dX2_homeBits_3 : decode cX2_homeBits 3 = .ok (.istore_n 2, 1) := by decide +kernel
theorem dX2_homeBits_4 : decode cX2_homeBits 4 = .ok (.iload_n 2, 1) := by decide +kernel
theorem dX2_homeBits_5 : decode cX2_homeBits 5 = .ok (.aload_n 0, 1) := by decide +kernel
theorem dX2_homeBits_6 : decode cX2_homeBits 6 = .ok (.getfield 23, 3) := by decide +kernel
theorem dX2_homeBits_9 : decode cX2_homeBits 9 = .ok (.getfield 38, 3) := by decide +kernel
theorem dX2_homeBits_12 : decode cX2_homeBits 12 = .ok (.if_icmp .ge 23, 3) := by decide +kernel
theorem dX2_homeBits_15 : decode cX2_homeBits 15 = .ok (.aload_n 0, 1) := by decide +kernel
theorem dX2_homeBits_16 : decode cX2_homeBits 16 = .ok (.iload_n 2, 1) := by decide +kernel
theorem dX2_homeBits_17 : decode cX2_homeBits 17 = .ok (.invokevirtual 61, 3) := by decide +kernel
theorem dX2_homeBits_20 : decode cX2_homeBits 20 = .ok (.ifCond .eq 9, 3) := by decide +kernel
theorem dX2_homeBits_23 : decode cX2_homeBits 23 = .ok (.iload_n 1, 1) := by decide +kernel
theorem dX2_homeBits_24 : decode cX2_homeBits 24 = .ok (.iconst 1, 1) := by decide +kernel
theorem dX2_homeBits_25 : decode cX2_homeBits 25 = .ok (.iload_n 2, 1) := by decide +kernel
theorem dX2_homeBits_26 : decode cX2_homeBits 26 = .ok (.ishl, 1) := by decide +kernel
theorem dX2_homeBits_27 : decode cX2_homeBits 27 = .ok (.ior, 1) := by decide +kernel
theorem dX2_homeBits_28 : decode cX2_homeBits 28 = .ok (.istore_n 1, 1) := by decide +kernel
theorem dX2_homeBits_29 : decode cX2_homeBits 29 = .ok (.iinc 2 1, 3) := by decide +kernel
theorem dX2_homeBits_32 : decode cX2_homeBits 32 = .ok (.goto (-28), 3) := by decide +kernel
theorem dX2_homeBits_35 : decode cX2_homeBits 35 = .ok (.iload_n 1, 1) := by decide +kernel
theorem dX2_homeBits_36 : decode cX2_homeBits 36 = .ok (.ireturn, 1) := by decide +kernel
theorem dX2_griefOfAll_0 : decode cX2_griefOfAll 0 = .ok (.iconst 0, 1) := by decide +kernel
theorem dX2_griefOfAll_1 : decode cX2_griefOfAll 1 = .ok (.istore_n 1, 1) := by decide +kernel
theorem dX2_griefOfAll_2 : decode cX2_griefOfAll 2 = .ok (.iconst 0, 1) := by decide +kernel
theorem dX2_griefOfAll_3 : decode cX2_griefOfAll 3 = .ok (.istore_n 2, 1) := by decide +kernel
theorem dX2_griefOfAll_4 : decode cX2_griefOfAll 4 = .ok (.iload_n 2, 1) := by decide +kernel
theorem dX2_griefOfAll_5 : decode cX2_griefOfAll 5 = .ok (.aload_n 0, 1) := by decide +kernel
theorem dX2_griefOfAll_6 : decode cX2_griefOfAll 6 = .ok (.getfield 23, 3) := by decide +kernel
theorem dX2_griefOfAll_9 : decode cX2_griefOfAll 9 = .ok (.getfield 46, 3) := by decide +kernel
theorem dX2_griefOfAll_12 : decode cX2_griefOfAll 12 = .ok (.if_icmp .ge 17, 3) := by decide +kernel
theorem dX2_griefOfAll_15 : decode cX2_griefOfAll 15 = .ok (.iload_n 1, 1) := by decide +kernel
theorem dX2_griefOfAll_16 : decode cX2_griefOfAll 16 = .ok (.aload_n 0, 1) := by decide +kernel
theorem dX2_griefOfAll_17 : decode cX2_griefOfAll 17 = .ok (.iload_n 2, 1) := by decide +kernel
theorem dX2_griefOfAll_18 : decode cX2_griefOfAll 18 = .ok (.invokevirtual 65, 3) := by decide +kernel
theorem dX2_griefOfAll_21 : decode cX2_griefOfAll 21 = .ok (.iadd, 1) := by decide +kernel
theorem dX2_griefOfAll_22 : decode cX2_griefOfAll 22 = .ok (.istore_n 1, 1) := by decide +kernel
theorem dX2_griefOfAll_23 : decode cX2_griefOfAll 23 = .ok (.iinc 2 1, 3) := by decide +kernel
theorem dX2_griefOfAll_26 : decode cX2_griefOfAll 26 = .ok (.goto (-22), 3) := by decide +kernel
theorem dX2_griefOfAll_29 : decode cX2_griefOfAll 29 = .ok (.iload_n 1, 1) := by decide +kernel
theorem dX2_griefOfAll_30 : decode cX2_griefOfAll 30 = .ok (.ireturn, 1) := by decide +kernel
theorem dX2_weddingsOn_0 : decode cX2_weddingsOn 0 = .ok (.iconst 0, 1) := by decide +kernel
theorem dX2_weddingsOn_1 : decode cX2_weddingsOn 1 = .ok (.istore_n 2, 1) := by decide +kernel
theorem dX2_weddingsOn_2 : decode cX2_weddingsOn 2 = .ok (.iconst 0, 1) := by decide +kernel
theorem dX2_weddingsOn_3 : decode cX2_weddingsOn 3 = .ok (.istore_n 3, 1) := by decide +kernel
theorem dX2_weddingsOn_4 : decode cX2_weddingsOn 4 = .ok (.iload_n 3, 1) := by decide +kernel
theorem dX2_weddingsOn_5 : decode cX2_weddingsOn 5 = .ok (.aload_n 0, 1) := by decide +kernel
theorem dX2_weddingsOn_6 : decode cX2_weddingsOn 6 = .ok (.getfield 23, 3) := by decide +kernel
theorem dX2_weddingsOn_9 : decode cX2_weddingsOn 9 = .ok (.getfield 38, 3) := by decide +kernel
theorem dX2_weddingsOn_12 : decode cX2_weddingsOn 12 = .ok (.if_icmp .ge 29, 3) := by decide +kernel
theorem dX2_weddingsOn_15 : decode cX2_weddingsOn 15 = .ok (.aload_n 0, 1) := by decide +kernel
theorem dX2_weddingsOn_16 : decode cX2_weddingsOn 16 = .ok (.iload_n 3, 1) := by decide +kernel
theorem dX2_weddingsOn_17 : decode cX2_weddingsOn 17 = .ok (.invokevirtual 61, 3) := by decide +kernel
theorem dX2_weddingsOn_20 : decode cX2_weddingsOn 20 = .ok (.ifCond .eq 15, 3) := by decide +kernel
theorem dX2_weddingsOn_23 : decode cX2_weddingsOn 23 = .ok (.aload_n 0, 1) := by decide +kernel
theorem dX2_weddingsOn_24 : decode cX2_weddingsOn 24 = .ok (.iload_n 3, 1) := by decide +kernel
theorem dX2_weddingsOn_25 : decode cX2_weddingsOn 25 = .ok (.invokevirtual 68, 3) := by decide +kernel
theorem dX2_weddingsOn_28 : decode cX2_weddingsOn 28 = .ok (.iload_n 1, 1) := by decide +kernel
theorem dX2_weddingsOn_29 : decode cX2_weddingsOn 29 = .ok (.if_icmp .ne 6, 3) := by decide +kernel
theorem dX2_weddingsOn_32 : decode cX2_weddingsOn 32 = .ok (.iinc 2 1, 3) := by decide +kernel
theorem dX2_weddingsOn_35 : decode cX2_weddingsOn 35 = .ok (.iinc 3 1, 3) := by decide +kernel
theorem dX2_weddingsOn_38 : decode cX2_weddingsOn 38 = .ok (.goto (-34), 3) := by decide +kernel
theorem dX2_weddingsOn_41 : decode cX2_weddingsOn 41 = .ok (.iload_n 2, 1) := by decide +kernel
theorem dX2_weddingsOn_42 : decode cX2_weddingsOn 42 = .ok (.ireturn, 1) := by decide +kernel
theorem dX2_hasWeddingBefore_0 : decode cX2_hasWeddingBefore 0 = .ok (.iconst 0, 1) := by decide +kernel
theorem dX2_hasWeddingBefore_1 : decode cX2_hasWeddingBefore 1 = .ok (.istore_n 2, 1) := by decide +kernel
theorem dX2_hasWeddingBefore_2 : decode cX2_hasWeddingBefore 2 = .ok (.iload_n 2, 1) := by decide +kernel
theorem dX2_hasWeddingBefore_3 : decode cX2_hasWeddingBefore 3 = .ok (.aload_n 0, 1) := by decide +kernel
theorem dX2_hasWeddingBefore_4 : decode cX2_hasWeddingBefore 4 = .ok (.getfield 23, 3) := by decide +kernel
theorem dX2_hasWeddingBefore_7 : decode cX2_hasWeddingBefore 7 = .ok (.getfield 38, 3) := by decide +kernel
theorem dX2_hasWeddingBefore_10 : decode cX2_hasWeddingBefore 10 = .ok (.if_icmp .ge 28, 3) := by decide +kernel
theorem dX2_hasWeddingBefore_13 : decode cX2_hasWeddingBefore 13 = .ok (.aload_n 0, 1) := by decide +kernel
theorem dX2_hasWeddingBefore_14 : decode cX2_hasWeddingBefore 14 = .ok (.iload_n 2, 1) := by decide +kernel
theorem dX2_hasWeddingBefore_15 : decode cX2_hasWeddingBefore 15 = .ok (.invokevirtual 61, 3) := by decide +kernel
theorem dX2_hasWeddingBefore_18 : decode cX2_hasWeddingBefore 18 = .ok (.ifCond .eq 14, 3) := by decide +kernel
theorem dX2_hasWeddingBefore_21 : decode cX2_hasWeddingBefore 21 = .ok (.aload_n 0, 1) := by decide +kernel
theorem dX2_hasWeddingBefore_22 : decode cX2_hasWeddingBefore 22 = .ok (.iload_n 2, 1) := by decide +kernel
theorem dX2_hasWeddingBefore_23 : decode cX2_hasWeddingBefore 23 = .ok (.invokevirtual 68, 3) := by decide +kernel
theorem dX2_hasWeddingBefore_26 : decode cX2_hasWeddingBefore 26 = .ok (.iload_n 1, 1) := by decide +kernel
theorem dX2_hasWeddingBefore_27 : decode cX2_hasWeddingBefore 27 = .ok (.if_icmp .ge 5, 3) := by decide +kernel
theorem dX2_hasWeddingBefore_30 : decode cX2_hasWeddingBefore 30 = .ok (.iconst 1, 1) := by decide +kernel
theorem dX2_hasWeddingBefore_31 : decode cX2_hasWeddingBefore 31 = .ok (.ireturn, 1) := by decide +kernel
theorem dX2_hasWeddingBefore_32 : decode cX2_hasWeddingBefore 32 = .ok (.iinc 2 1, 3) := by decide +kernel
theorem dX2_hasWeddingBefore_35 : decode cX2_hasWeddingBefore 35 = .ok (.goto (-33), 3) := by decide +kernel
theorem dX2_hasWeddingBefore_38 : decode cX2_hasWeddingBefore 38 = .ok (.iconst 0, 1) := by decide +kernel
theorem dX2_hasWeddingBefore_39 : decode cX2_hasWeddingBefore 39 = .ok (.ireturn, 1) := by decide +kernel
theorem dX2_rivalsFor_0 : decode cX2_rivalsFor 0 = .ok (.iconst 0, 1) := by decide +kernel
theorem dX2_rivalsFor_1 : decode cX2_rivalsFor 1 = .ok (.aload_n 0, 1) := by decide +kernel
theorem dX2_rivalsFor_2 : decode cX2_rivalsFor 2 = .ok (.iload_n 1, 1) := by decide +kernel
theorem dX2_rivalsFor_3 : decode cX2_rivalsFor 3 = .ok (.invokevirtual 49, 3) := by decide +kernel
theorem dX2_rivalsFor_6 : decode cX2_rivalsFor 6 = .ok (.invokestatic 56, 3) := by decide +kernel
theorem dX2_rivalsFor_9 : decode cX2_rivalsFor 9 = .ok (.iconst 1, 1) := by decide +kernel
theorem dX2_rivalsFor_10 : decode cX2_rivalsFor 10 = .ok (.isub, 1) := by decide +kernel
theorem dX2_rivalsFor_11 : decode cX2_rivalsFor 11 = .ok (.invokestatic 71, 3) := by decide +kernel
theorem dX2_rivalsFor_14 : decode cX2_rivalsFor 14 = .ok (.ireturn, 1) := by decide +kernel
theorem dX2_weigh_0 : decode cX2_weigh 0 = .ok (.aload_n 0, 1) := by decide +kernel
theorem dX2_weigh_1 : decode cX2_weigh 1 = .ok (.iload_n 1, 1) := by decide +kernel
theorem dX2_weigh_2 : decode cX2_weigh 2 = .ok (.iload_n 2, 1) := by decide +kernel
theorem dX2_weigh_3 : decode cX2_weigh 3 = .ok (.invokevirtual 42, 3) := by decide +kernel
theorem dX2_weigh_6 : decode cX2_weigh 6 = .ok (.istore_n 3, 1) := by decide +kernel
theorem dX2_weigh_7 : decode cX2_weigh 7 = .ok (.iload_n 3, 1) := by decide +kernel
theorem dX2_weigh_8 : decode cX2_weigh 8 = .ok (.ifCond .ne 5, 3) := by decide +kernel
theorem dX2_weigh_11 : decode cX2_weigh 11 = .ok (.iconst (-1), 1) := by decide +kernel
theorem dX2_weigh_12 : decode cX2_weigh 12 = .ok (.ireturn, 1) := by decide +kernel
theorem dX2_weigh_13 : decode cX2_weigh 13 = .ok (.aload_n 0, 1) := by decide +kernel
theorem dX2_weigh_14 : decode cX2_weigh 14 = .ok (.getfield 23, 3) := by decide +kernel
theorem dX2_weigh_17 : decode cX2_weigh 17 = .ok (.getfield 76, 3) := by decide +kernel
theorem dX2_weigh_20 : decode cX2_weigh 20 = .ok (.getfield 80, 3) := by decide +kernel
theorem dX2_weigh_23 : decode cX2_weigh 23 = .ok (.ifCond .ne 25, 3) := by decide +kernel
theorem dX2_weigh_26 : decode cX2_weigh 26 = .ok (.aload_n 0, 1) := by decide +kernel
theorem dX2_weigh_27 : decode cX2_weigh 27 = .ok (.iload_n 1, 1) := by decide +kernel
theorem dX2_weigh_28 : decode cX2_weigh 28 = .ok (.invokevirtual 65, 3) := by decide +kernel
theorem dX2_weigh_31 : decode cX2_weigh 31 = .ok (.iload_n 3, 1) := by decide +kernel
theorem dX2_weigh_32 : decode cX2_weigh 32 = .ok (.iadd, 1) := by decide +kernel
theorem dX2_weigh_33 : decode cX2_weigh 33 = .ok (.iconst 2, 1) := by decide +kernel
theorem dX2_weigh_34 : decode cX2_weigh 34 = .ok (.aload_n 0, 1) := by decide +kernel
theorem dX2_weigh_35 : decode cX2_weigh 35 = .ok (.iload_n 1, 1) := by decide +kernel
theorem dX2_weigh_36 : decode cX2_weigh 36 = .ok (.invokevirtual 84, 3) := by decide +kernel
theorem dX2_weigh_39 : decode cX2_weigh 39 = .ok (.imul, 1) := by decide +kernel
theorem dX2_weigh_40 : decode cX2_weigh 40 = .ok (.isub, 1) := by decide +kernel
theorem dX2_weigh_41 : decode cX2_weigh 41 = .ok (.sipush 999, 3) := by decide +kernel
theorem dX2_weigh_44 : decode cX2_weigh 44 = .ok (.invokestatic 87, 3) := by decide +kernel
theorem dX2_weigh_47 : decode cX2_weigh 47 = .ok (.ireturn, 1) := by decide +kernel
theorem dX2_weigh_48 : decode cX2_weigh 48 = .ok (.aload_n 0, 1) := by decide +kernel
theorem dX2_weigh_49 : decode cX2_weigh 49 = .ok (.iload_n 1, 1) := by decide +kernel
theorem dX2_weigh_50 : decode cX2_weigh 50 = .ok (.invokevirtual 90, 3) := by decide +kernel
theorem dX2_weigh_53 : decode cX2_weigh 53 = .ok (.aload_n 0, 1) := by decide +kernel
theorem dX2_weigh_54 : decode cX2_weigh 54 = .ok (.getfield 17, 3) := by decide +kernel
theorem dX2_weigh_57 : decode cX2_weigh 57 = .ok (.iconst 5, 1) := by decide +kernel
theorem dX2_weigh_58 : decode cX2_weigh 58 = .ok (.iload_n 3, 1) := by decide +kernel
theorem dX2_weigh_59 : decode cX2_weigh 59 = .ok (.iastore, 1) := by decide +kernel
theorem dX2_weigh_60 : decode cX2_weigh 60 = .ok (.aload_n 0, 1) := by decide +kernel
theorem dX2_weigh_61 : decode cX2_weigh 61 = .ok (.getfield 17, 3) := by decide +kernel
theorem dX2_weigh_64 : decode cX2_weigh 64 = .ok (.bipush 6, 2) := by decide +kernel
theorem dX2_weigh_66 : decode cX2_weigh 66 = .ok (.iconst 0, 1) := by decide +kernel
theorem dX2_weigh_67 : decode cX2_weigh 67 = .ok (.aload_n 0, 1) := by decide +kernel
theorem dX2_weigh_68 : decode cX2_weigh 68 = .ok (.iload_n 2, 1) := by decide +kernel
theorem dX2_weigh_69 : decode cX2_weigh 69 = .ok (.invokevirtual 68, 3) := by decide +kernel
theorem dX2_weigh_72 : decode cX2_weigh 72 = .ok (.aload_n 0, 1) := by decide +kernel
theorem dX2_weigh_73 : decode cX2_weigh 73 = .ok (.invokevirtual 94, 3) := by decide +kernel
theorem dX2_weigh_76 : decode cX2_weigh 76 = .ok (.isub, 1) := by decide +kernel
theorem dX2_weigh_77 : decode cX2_weigh 77 = .ok (.invokestatic 71, 3) := by decide +kernel
theorem dX2_weigh_80 : decode cX2_weigh 80 = .ok (.iastore, 1) := by decide +kernel
theorem dX2_weigh_81 : decode cX2_weigh 81 = .ok (.aload_n 0, 1) := by decide +kernel
theorem dX2_weigh_82 : decode cX2_weigh 82 = .ok (.getfield 17, 3) := by decide +kernel
theorem dX2_weigh_85 : decode cX2_weigh 85 = .ok (.bipush 7, 2) := by decide +kernel
theorem dX2_weigh_87 : decode cX2_weigh 87 = .ok (.aload_n 0, 1) := by decide +kernel
theorem dX2_weigh_88 : decode cX2_weigh 88 = .ok (.iload_n 2, 1) := by decide +kernel
theorem dX2_weigh_89 : decode cX2_weigh 89 = .ok (.invokevirtual 98, 3) := by decide +kernel
theorem dX2_weigh_92 : decode cX2_weigh 92 = .ok (.iastore, 1) := by decide +kernel
theorem dX2_weigh_93 : decode cX2_weigh 93 = .ok (.aload_n 0, 1) := by decide +kernel
theorem dX2_weigh_94 : decode cX2_weigh 94 = .ok (.getfield 23, 3) := by decide +kernel
theorem dX2_weigh_97 : decode cX2_weigh 97 = .ok (.getfield 76, 3) := by decide +kernel
theorem dX2_weigh_100 : decode cX2_weigh 100 = .ok (.aload_n 0, 1) := by decide +kernel
theorem dX2_weigh_101 : decode cX2_weigh 101 = .ok (.getfield 17, 3) := by decide +kernel
theorem dX2_weigh_104 : decode cX2_weigh 104 = .ok (.invokevirtual 101, 3) := by decide +kernel
theorem dX2_weigh_107 : decode cX2_weigh 107 = .ok (.sipush 999, 3) := by decide +kernel
theorem dX2_weigh_110 : decode cX2_weigh 110 = .ok (.invokestatic 87, 3) := by decide +kernel
theorem dX2_weigh_113 : decode cX2_weigh 113 = .ok (.ireturn, 1) := by decide +kernel
theorem dX2_setValuesOf_0 : decode cX2_setValuesOf 0 = .ok (.aload_n 0, 1) := by decide +kernel
theorem dX2_setValuesOf_1 : decode cX2_setValuesOf 1 = .ok (.getfield 17, 3) := by decide +kernel
theorem dX2_setValuesOf_4 : decode cX2_setValuesOf 4 = .ok (.iconst 0, 1) := by decide +kernel
theorem dX2_setValuesOf_5 : decode cX2_setValuesOf 5 = .ok (.aload_n 0, 1) := by decide +kernel
theorem dX2_setValuesOf_6 : decode cX2_setValuesOf 6 = .ok (.iload_n 1, 1) := by decide +kernel
theorem dX2_setValuesOf_7 : decode cX2_setValuesOf 7 = .ok (.invokevirtual 65, 3) := by decide +kernel
theorem dX2_setValuesOf_10 : decode cX2_setValuesOf 10 = .ok (.iastore, 1) := by decide +kernel
theorem dX2_setValuesOf_11 : decode cX2_setValuesOf 11 = .ok (.aload_n 0, 1) := by decide +kernel
theorem dX2_setValuesOf_12 : decode cX2_setValuesOf 12 = .ok (.getfield 17, 3) := by decide +kernel
theorem dX2_setValuesOf_15 : decode cX2_setValuesOf 15 = .ok (.iconst 1, 1) := by decide +kernel
theorem dX2_setValuesOf_16 : decode cX2_setValuesOf 16 = .ok (.aload_n 0, 1) := by decide +kernel
theorem dX2_setValuesOf_17 : decode cX2_setValuesOf 17 = .ok (.iload_n 1, 1) := by decide +kernel
theorem dX2_setValuesOf_18 : decode cX2_setValuesOf 18 = .ok (.invokevirtual 84, 3) := by decide +kernel
theorem dX2_setValuesOf_21 : decode cX2_setValuesOf 21 = .ok (.iastore, 1) := by decide +kernel
theorem dX2_setValuesOf_22 : decode cX2_setValuesOf 22 = .ok (.aload_n 0, 1) := by decide +kernel
theorem dX2_setValuesOf_23 : decode cX2_setValuesOf 23 = .ok (.getfield 17, 3) := by decide +kernel
theorem dX2_setValuesOf_26 : decode cX2_setValuesOf 26 = .ok (.iconst 2, 1) := by decide +kernel
theorem dX2_setValuesOf_27 : decode cX2_setValuesOf 27 = .ok (.aload_n 0, 1) := by decide +kernel
theorem dX2_setValuesOf_28 : decode cX2_setValuesOf 28 = .ok (.getfield 23, 3) := by decide +kernel
theorem dX2_setValuesOf_31 : decode cX2_setValuesOf 31 = .ok (.getfield 105, 3) := by decide +kernel
theorem dX2_setValuesOf_34 : decode cX2_setValuesOf 34 = .ok (.iload_n 1, 1) := by decide +kernel
theorem dX2_setValuesOf_35 : decode cX2_setValuesOf 35 = .ok (.iaload, 1) := by decide +kernel
theorem dX2_setValuesOf_36 : decode cX2_setValuesOf 36 = .ok (.iastore, 1) := by decide +kernel
theorem dX2_setValuesOf_37 : decode cX2_setValuesOf 37 = .ok (.aload_n 0, 1) := by decide +kernel
theorem dX2_setValuesOf_38 : decode cX2_setValuesOf 38 = .ok (.getfield 17, 3) := by decide +kernel
theorem dX2_setValuesOf_41 : decode cX2_setValuesOf 41 = .ok (.iconst 3, 1) := by decide +kernel
theorem dX2_setValuesOf_42 : decode cX2_setValuesOf 42 = .ok (.aload_n 0, 1) := by decide +kernel
theorem dX2_setValuesOf_43 : decode cX2_setValuesOf 43 = .ok (.iload_n 1, 1) := by decide +kernel
theorem dX2_setValuesOf_44 : decode cX2_setValuesOf 44 = .ok (.invokevirtual 108, 3) := by decide +kernel
theorem dX2_setValuesOf_47 : decode cX2_setValuesOf 47 = .ok (.invokestatic 56, 3) := by decide +kernel
theorem dX2_setValuesOf_50 : decode cX2_setValuesOf 50 = .ok (.iastore, 1) := by decide +kernel
theorem dX2_setValuesOf_51 : decode cX2_setValuesOf 51 = .ok (.aload_n 0, 1) := by decide +kernel
theorem dX2_setValuesOf_52 : decode cX2_setValuesOf 52 = .ok (.getfield 17, 3) := by decide +kernel
theorem dX2_setValuesOf_55 : decode cX2_setValuesOf 55 = .ok (.iconst 4, 1) := by decide +kernel
theorem dX2_setValuesOf_56 : decode cX2_setValuesOf 56 = .ok (.aload_n 0, 1) := by decide +kernel
theorem dX2_setValuesOf_57 : decode cX2_setValuesOf 57 = .ok (.invokevirtual 94, 3) := by decide +kernel
theorem dX2_setValuesOf_60 : decode cX2_setValuesOf 60 = .ok (.iastore, 1) := by decide +kernel
theorem dX2_setValuesOf_61 : decode cX2_setValuesOf 61 = .ok (.return_, 1) := by decide +kernel
theorem dX2_kept_0 : decode cX2_kept 0 = .ok (.iconst 0, 1) := by decide +kernel
theorem dX2_kept_1 : decode cX2_kept 1 = .ok (.iload_n 0, 1) := by decide +kernel
theorem dX2_kept_2 : decode cX2_kept 2 = .ok (.iload_n 1, 1) := by decide +kernel
theorem dX2_kept_3 : decode cX2_kept 3 = .ok (.invokestatic 111, 3) := by decide +kernel
theorem dX2_kept_6 : decode cX2_kept 6 = .ok (.invokestatic 71, 3) := by decide +kernel
theorem dX2_kept_9 : decode cX2_kept 9 = .ok (.ireturn, 1) := by decide +kernel
theorem dX2_heaviestFor_0 : decode cX2_heaviestFor 0 = .ok (.iconst (-1), 1) := by decide +kernel
theorem dX2_heaviestFor_1 : decode cX2_heaviestFor 1 = .ok (.istore_n 2, 1) := by decide +kernel
theorem dX2_heaviestFor_2 : decode cX2_heaviestFor 2 = .ok (.iconst (-1), 1) := by decide +kernel
theorem dX2_heaviestFor_3 : decode cX2_heaviestFor 3 = .ok (.istore_n 3, 1) := by decide +kernel
theorem dX2_heaviestFor_4 : decode cX2_heaviestFor 4 = .ok (.iconst 0, 1) := by decide +kernel
theorem dX2_heaviestFor_5 : decode cX2_heaviestFor 5 = .ok (.istore 4, 2) := by decide +kernel
theorem dX2_heaviestFor_7 : decode cX2_heaviestFor 7 = .ok (.iload 4, 2) := by decide +kernel
theorem dX2_heaviestFor_9 : decode cX2_heaviestFor 9 = .ok (.aload_n 0, 1) := by decide +kernel
theorem dX2_heaviestFor_10 : decode cX2_heaviestFor 10 = .ok (.getfield 23, 3) := by decide +kernel
theorem dX2_heaviestFor_13 : decode cX2_heaviestFor 13 = .ok (.getfield 46, 3) := by decide +kernel
theorem dX2_heaviestFor_16 : decode cX2_heaviestFor 16 = .ok (.if_icmp .ge 30, 3) := by decide +kernel
theorem dX2_heaviestFor_19 : decode cX2_heaviestFor 19 = .ok (.aload_n 0, 1) := by decide +kernel
theorem dX2_heaviestFor_20 : decode cX2_heaviestFor 20 = .ok (.iload 4, 2) := by decide +kernel
theorem dX2_heaviestFor_22 : decode cX2_heaviestFor 22 = .ok (.iload_n 1, 1) := by decide +kernel
theorem dX2_heaviestFor_23 : decode cX2_heaviestFor 23 = .ok (.invokevirtual 114, 3) := by decide +kernel
theorem dX2_heaviestFor_26 : decode cX2_heaviestFor 26 = .ok (.istore 5, 2) := by decide +kernel
theorem dX2_heaviestFor_28 : decode cX2_heaviestFor 28 = .ok (.iload 5, 2) := by decide +kernel
theorem dX2_heaviestFor_30 : decode cX2_heaviestFor 30 = .ok (.iload_n 3, 1) := by decide +kernel
theorem dX2_heaviestFor_31 : decode cX2_heaviestFor 31 = .ok (.if_icmp .le 9, 3) := by decide +kernel
theorem dX2_heaviestFor_34 : decode cX2_heaviestFor 34 = .ok (.iload 5, 2) := by decide +kernel
theorem dX2_heaviestFor_36 : decode cX2_heaviestFor 36 = .ok (.istore_n 3, 1) := by decide +kernel
theorem dX2_heaviestFor_37 : decode cX2_heaviestFor 37 = .ok (.iload 4, 2) := by decide +kernel
theorem dX2_heaviestFor_39 : decode cX2_heaviestFor 39 = .ok (.istore_n 2, 1) := by decide +kernel
theorem dX2_heaviestFor_40 : decode cX2_heaviestFor 40 = .ok (.iinc 4 1, 3) := by decide +kernel
theorem dX2_heaviestFor_43 : decode cX2_heaviestFor 43 = .ok (.goto (-36), 3) := by decide +kernel
theorem dX2_heaviestFor_46 : decode cX2_heaviestFor 46 = .ok (.iload_n 2, 1) := by decide +kernel
theorem dX2_heaviestFor_47 : decode cX2_heaviestFor 47 = .ok (.ireturn, 1) := by decide +kernel
theorem dX2_passDay_0 : decode cX2_passDay 0 = .ok (.iconst 0, 1) := by decide +kernel
theorem dX2_passDay_1 : decode cX2_passDay 1 = .ok (.istore_n 1, 1) := by decide +kernel
theorem dX2_passDay_2 : decode cX2_passDay 2 = .ok (.iload_n 1, 1) := by decide +kernel
theorem dX2_passDay_3 : decode cX2_passDay 3 = .ok (.aload_n 0, 1) := by decide +kernel
theorem dX2_passDay_4 : decode cX2_passDay 4 = .ok (.getfield 23, 3) := by decide +kernel
theorem dX2_passDay_7 : decode cX2_passDay 7 = .ok (.getfield 38, 3) := by decide +kernel
theorem dX2_passDay_10 : decode cX2_passDay 10 = .ok (.if_icmp .ge 39, 3) := by decide +kernel
theorem dX2_passDay_13 : decode cX2_passDay 13 = .ok (.aload_n 0, 1) := by decide +kernel
theorem dX2_passDay_14 : decode cX2_passDay 14 = .ok (.iload_n 1, 1) := by decide +kernel
theorem dX2_passDay_15 : decode cX2_passDay 15 = .ok (.invokevirtual 61, 3) := by decide +kernel
theorem dX2_passDay_18 : decode cX2_passDay 18 = .ok (.ifCond .eq 25, 3) := by decide +kernel
theorem dX2_passDay_21 : decode cX2_passDay 21 = .ok (.aload_n 0, 1) := by decide +kernel
theorem dX2_passDay_22 : decode cX2_passDay 22 = .ok (.iload_n 1, 1) := by decide +kernel
theorem dX2_passDay_23 : decode cX2_passDay 23 = .ok (.invokevirtual 68, 3) := by decide +kernel
theorem dX2_passDay_26 : decode cX2_passDay 26 = .ok (.aload_n 0, 1) := by decide +kernel
theorem dX2_passDay_27 : decode cX2_passDay 27 = .ok (.invokevirtual 94, 3) := by decide +kernel
theorem dX2_passDay_30 : decode cX2_passDay 30 = .ok (.if_icmp .ne 13, 3) := by decide +kernel
theorem dX2_passDay_33 : decode cX2_passDay 33 = .ok (.aload_n 0, 1) := by decide +kernel
theorem dX2_passDay_34 : decode cX2_passDay 34 = .ok (.iload_n 1, 1) := by decide +kernel
theorem dX2_passDay_35 : decode cX2_passDay 35 = .ok (.aload_n 0, 1) := by decide +kernel
theorem dX2_passDay_36 : decode cX2_passDay 36 = .ok (.iload_n 1, 1) := by decide +kernel
theorem dX2_passDay_37 : decode cX2_passDay 37 = .ok (.invokevirtual 117, 3) := by decide +kernel
theorem dX2_passDay_40 : decode cX2_passDay 40 = .ok (.invokevirtual 120, 3) := by decide +kernel
theorem dX2_passDay_43 : decode cX2_passDay 43 = .ok (.iinc 1 1, 3) := by decide +kernel
theorem dX2_passDay_46 : decode cX2_passDay 46 = .ok (.goto (-44), 3) := by decide +kernel
theorem dX2_passDay_49 : decode cX2_passDay 49 = .ok (.iconst 0, 1) := by decide +kernel
theorem dX2_passDay_50 : decode cX2_passDay 50 = .ok (.istore_n 1, 1) := by decide +kernel
theorem dX2_passDay_51 : decode cX2_passDay 51 = .ok (.iload_n 1, 1) := by decide +kernel
theorem dX2_passDay_52 : decode cX2_passDay 52 = .ok (.aload_n 0, 1) := by decide +kernel
theorem dX2_passDay_53 : decode cX2_passDay 53 = .ok (.getfield 23, 3) := by decide +kernel
theorem dX2_passDay_56 : decode cX2_passDay 56 = .ok (.getfield 46, 3) := by decide +kernel
theorem dX2_passDay_59 : decode cX2_passDay 59 = .ok (.if_icmp .ge 46, 3) := by decide +kernel
theorem dX2_passDay_62 : decode cX2_passDay 62 = .ok (.aload_n 0, 1) := by decide +kernel
theorem dX2_passDay_63 : decode cX2_passDay 63 = .ok (.iload_n 1, 1) := by decide +kernel
theorem dX2_passDay_64 : decode cX2_passDay 64 = .ok (.bipush 99, 2) := by decide +kernel
theorem dX2_passDay_66 : decode cX2_passDay 66 = .ok (.aload_n 0, 1) := by decide +kernel
theorem dX2_passDay_67 : decode cX2_passDay 67 = .ok (.iload_n 1, 1) := by decide +kernel
theorem dX2_passDay_68 : decode cX2_passDay 68 = .ok (.invokevirtual 65, 3) := by decide +kernel
theorem dX2_passDay_71 : decode cX2_passDay 71 = .ok (.aload_n 0, 1) := by decide +kernel
theorem dX2_passDay_72 : decode cX2_passDay 72 = .ok (.iload_n 1, 1) := by decide +kernel
theorem dX2_passDay_73 : decode cX2_passDay 73 = .ok (.invokevirtual 124, 3) := by decide +kernel
theorem dX2_passDay_76 : decode cX2_passDay 76 = .ok (.iadd, 1) := by decide +kernel
theorem dX2_passDay_77 : decode cX2_passDay 77 = .ok (.invokestatic 111, 3) := by decide +kernel
theorem dX2_passDay_80 : decode cX2_passDay 80 = .ok (.invokevirtual 127, 3) := by decide +kernel
theorem dX2_passDay_83 : decode cX2_passDay 83 = .ok (.aload_n 0, 1) := by decide +kernel
theorem dX2_passDay_84 : decode cX2_passDay 84 = .ok (.iload_n 1, 1) := by decide +kernel
theorem dX2_passDay_85 : decode cX2_passDay 85 = .ok (.iconst 0, 1) := by decide +kernel
theorem dX2_passDay_86 : decode cX2_passDay 86 = .ok (.aload_n 0, 1) := by decide +kernel
theorem dX2_passDay_87 : decode cX2_passDay 87 = .ok (.iload_n 1, 1) := by decide +kernel
theorem dX2_passDay_88 : decode cX2_passDay 88 = .ok (.invokevirtual 84, 3) := by decide +kernel
theorem dX2_passDay_91 : decode cX2_passDay 91 = .ok (.iconst 1, 1) := by decide +kernel
theorem dX2_passDay_92 : decode cX2_passDay 92 = .ok (.isub, 1) := by decide +kernel
theorem dX2_passDay_93 : decode cX2_passDay 93 = .ok (.invokestatic 71, 3) := by decide +kernel
theorem dX2_passDay_96 : decode cX2_passDay 96 = .ok (.invokevirtual 130, 3) := by decide +kernel
theorem dX2_passDay_99 : decode cX2_passDay 99 = .ok (.iinc 1 1, 3) := by decide +kernel
theorem dX2_passDay_102 : decode cX2_passDay 102 = .ok (.goto (-51), 3) := by decide +kernel
theorem dX2_passDay_105 : decode cX2_passDay 105 = .ok (.aload_n 0, 1) := by decide +kernel
theorem dX2_passDay_106 : decode cX2_passDay 106 = .ok (.getfield 11, 3) := by decide +kernel
theorem dX2_passDay_109 : decode cX2_passDay 109 = .ok (.iconst 0, 1) := by decide +kernel
theorem dX2_passDay_110 : decode cX2_passDay 110 = .ok (.dup2, 1) := by decide +kernel
theorem dX2_passDay_111 : decode cX2_passDay 111 = .ok (.iaload, 1) := by decide +kernel
theorem dX2_passDay_112 : decode cX2_passDay 112 = .ok (.iconst 1, 1) := by decide +kernel
theorem dX2_passDay_113 : decode cX2_passDay 113 = .ok (.iadd, 1) := by decide +kernel
theorem dX2_passDay_114 : decode cX2_passDay 114 = .ok (.iastore, 1) := by decide +kernel
theorem dX2_passDay_115 : decode cX2_passDay 115 = .ok (.return_, 1) := by decide +kernel
theorem dX2_giveAway_0 : decode cX2_giveAway 0 = .ok (.aload_n 0, 1) := by decide +kernel
theorem dX2_giveAway_1 : decode cX2_giveAway 1 = .ok (.getfield 11, 3) := by decide +kernel
theorem dX2_giveAway_4 : decode cX2_giveAway 4 = .ok (.bipush 38, 2) := by decide +kernel
theorem dX2_giveAway_6 : decode cX2_giveAway 6 = .ok (.iload_n 1, 1) := by decide +kernel
theorem dX2_giveAway_7 : decode cX2_giveAway 7 = .ok (.iconst 3, 1) := by decide +kernel
theorem dX2_giveAway_8 : decode cX2_giveAway 8 = .ok (.imul, 1) := by decide +kernel
theorem dX2_giveAway_9 : decode cX2_giveAway 9 = .ok (.iadd, 1) := by decide +kernel
theorem dX2_giveAway_10 : decode cX2_giveAway 10 = .ok (.iconst 1, 1) := by decide +kernel
theorem dX2_giveAway_11 : decode cX2_giveAway 11 = .ok (.iadd, 1) := by decide +kernel
theorem dX2_giveAway_12 : decode cX2_giveAway 12 = .ok (.iconst 0, 1) := by decide +kernel
theorem dX2_giveAway_13 : decode cX2_giveAway 13 = .ok (.iastore, 1) := by decide +kernel
theorem dX2_giveAway_14 : decode cX2_giveAway 14 = .ok (.iload_n 2, 1) := by decide +kernel
theorem dX2_giveAway_15 : decode cX2_giveAway 15 = .ok (.iconst (-1), 1) := by decide +kernel
theorem dX2_giveAway_16 : decode cX2_giveAway 16 = .ok (.if_icmp .ne 7, 3) := by decide +kernel
theorem dX2_giveAway_19 : decode cX2_giveAway 19 = .ok (.iconst 0, 1) := by decide +kernel
theorem dX2_giveAway_20 : decode cX2_giveAway 20 = .ok (.goto 9, 3) := by decide +kernel
theorem dX2_giveAway_23 : decode cX2_giveAway 23 = .ok (.aload_n 0, 1) := by decide +kernel
theorem dX2_giveAway_24 : decode cX2_giveAway 24 = .ok (.iload_n 2, 1) := by decide +kernel
theorem dX2_giveAway_25 : decode cX2_giveAway 25 = .ok (.iload_n 1, 1) := by decide +kernel
theorem dX2_giveAway_26 : decode cX2_giveAway 26 = .ok (.invokevirtual 114, 3) := by decide +kernel
theorem dX2_giveAway_29 : decode cX2_giveAway 29 = .ok (.istore_n 3, 1) := by decide +kernel
theorem dX2_giveAway_30 : decode cX2_giveAway 30 = .ok (.aload_n 0, 1) := by decide +kernel
theorem dX2_giveAway_31 : decode cX2_giveAway 31 = .ok (.getfield 20, 3) := by decide +kernel
theorem dX2_giveAway_34 : decode cX2_giveAway 34 = .ok (.iload_n 1, 1) := by decide +kernel
theorem dX2_giveAway_35 : decode cX2_giveAway 35 = .ok (.iload_n 3, 1) := by decide +kernel
theorem dX2_giveAway_36 : decode cX2_giveAway 36 = .ok (.iastore, 1) := by decide +kernel
theorem dX2_giveAway_37 : decode cX2_giveAway 37 = .ok (.iload_n 3, 1) := by decide +kernel
theorem dX2_giveAway_38 : decode cX2_giveAway 38 = .ok (.ifCond .gt 14, 3) := by decide +kernel
theorem dX2_giveAway_41 : decode cX2_giveAway 41 = .ok (.aload_n 0, 1) := by decide +kernel
theorem dX2_giveAway_42 : decode cX2_giveAway 42 = .ok (.getfield 11, 3) := by decide +kernel
theorem dX2_giveAway_45 : decode cX2_giveAway 45 = .ok (.iconst 1, 1) := by decide +kernel
theorem dX2_giveAway_46 : decode cX2_giveAway 46 = .ok (.dup2, 1) := by decide +kernel
theorem dX2_giveAway_47 : decode cX2_giveAway 47 = .ok (.iaload, 1) := by decide +kernel
theorem dX2_giveAway_48 : decode cX2_giveAway 48 = .ok (.iconst 1, 1) := by decide +kernel
theorem dX2_giveAway_49 : decode cX2_giveAway 49 = .ok (.iadd, 1) := by decide +kernel
theorem dX2_giveAway_50 : decode cX2_giveAway 50 = .ok (.iastore, 1) := by decide +kernel
theorem dX2_giveAway_51 : decode cX2_giveAway 51 = .ok (.return_, 1) := by decide +kernel
theorem dX2_giveAway_52 : decode cX2_giveAway 52 = .ok (.aload_n 0, 1) := by decide +kernel
theorem dX2_giveAway_53 : decode cX2_giveAway 53 = .ok (.getfield 11, 3) := by decide +kernel
theorem dX2_giveAway_56 : decode cX2_giveAway 56 = .ok (.bipush 38, 2) := by decide +kernel
theorem dX2_giveAway_58 : decode cX2_giveAway 58 = .ok (.iload_n 1, 1) := by decide +kernel
theorem dX2_giveAway_59 : decode cX2_giveAway 59 = .ok (.iconst 3, 1) := by decide +kernel
theorem dX2_giveAway_60 : decode cX2_giveAway 60 = .ok (.imul, 1) := by decide +kernel
theorem dX2_giveAway_61 : decode cX2_giveAway 61 = .ok (.iadd, 1) := by decide +kernel
theorem dX2_giveAway_62 : decode cX2_giveAway 62 = .ok (.iconst 2, 1) := by decide +kernel
theorem dX2_giveAway_63 : decode cX2_giveAway 63 = .ok (.iadd, 1) := by decide +kernel
theorem dX2_giveAway_64 : decode cX2_giveAway 64 = .ok (.iload_n 2, 1) := by decide +kernel
theorem dX2_giveAway_65 : decode cX2_giveAway 65 = .ok (.iastore, 1) := by decide +kernel
theorem dX2_giveAway_66 : decode cX2_giveAway 66 = .ok (.aload_n 0, 1) := by decide +kernel
theorem dX2_giveAway_67 : decode cX2_giveAway 67 = .ok (.getfield 11, 3) := by decide +kernel
theorem dX2_giveAway_70 : decode cX2_giveAway 70 = .ok (.iconst 2, 1) := by decide +kernel
theorem dX2_giveAway_71 : decode cX2_giveAway 71 = .ok (.iload_n 2, 1) := by decide +kernel
theorem dX2_giveAway_72 : decode cX2_giveAway 72 = .ok (.iconst 4, 1) := by decide +kernel
theorem dX2_giveAway_73 : decode cX2_giveAway 73 = .ok (.imul, 1) := by decide +kernel
theorem dX2_giveAway_74 : decode cX2_giveAway 74 = .ok (.iadd, 1) := by decide +kernel
theorem dX2_giveAway_75 : decode cX2_giveAway 75 = .ok (.iconst 3, 1) := by decide +kernel
theorem dX2_giveAway_76 : decode cX2_giveAway 76 = .ok (.iadd, 1) := by decide +kernel
theorem dX2_giveAway_77 : decode cX2_giveAway 77 = .ok (.dup2, 1) := by decide +kernel
theorem dX2_giveAway_78 : decode cX2_giveAway 78 = .ok (.iaload, 1) := by decide +kernel
theorem dX2_giveAway_79 : decode cX2_giveAway 79 = .ok (.iconst 1, 1) := by decide +kernel
theorem dX2_giveAway_80 : decode cX2_giveAway 80 = .ok (.iload_n 1, 1) := by decide +kernel
theorem dX2_giveAway_81 : decode cX2_giveAway 81 = .ok (.ishl, 1) := by decide +kernel
theorem dX2_giveAway_82 : decode cX2_giveAway 82 = .ok (.ior, 1) := by decide +kernel
theorem dX2_giveAway_83 : decode cX2_giveAway 83 = .ok (.iastore, 1) := by decide +kernel
theorem dX2_giveAway_84 : decode cX2_giveAway 84 = .ok (.aload_n 0, 1) := by decide +kernel
theorem dX2_giveAway_85 : decode cX2_giveAway 85 = .ok (.iload_n 2, 1) := by decide +kernel
theorem dX2_giveAway_86 : decode cX2_giveAway 86 = .ok (.aload_n 0, 1) := by decide +kernel
theorem dX2_giveAway_87 : decode cX2_giveAway 87 = .ok (.iload_n 2, 1) := by decide +kernel
theorem dX2_giveAway_88 : decode cX2_giveAway 88 = .ok (.invokevirtual 65, 3) := by decide +kernel
theorem dX2_giveAway_91 : decode cX2_giveAway 91 = .ok (.iconst 2, 1) := by decide +kernel
theorem dX2_giveAway_92 : decode cX2_giveAway 92 = .ok (.idiv, 1) := by decide +kernel
theorem dX2_giveAway_93 : decode cX2_giveAway 93 = .ok (.invokevirtual 127, 3) := by decide +kernel
theorem dX2_giveAway_96 : decode cX2_giveAway 96 = .ok (.return_, 1) := by decide +kernel
theorem dX2_mournedBy_0 : decode cX2_mournedBy 0 = .ok (.aload_n 0, 1) := by decide +kernel
theorem dX2_mournedBy_1 : decode cX2_mournedBy 1 = .ok (.getfield 23, 3) := by decide +kernel
theorem dX2_mournedBy_4 : decode cX2_mournedBy 4 = .ok (.getfield 133, 3) := by decide +kernel
theorem dX2_mournedBy_7 : decode cX2_mournedBy 7 = .ok (.getfield 80, 3) := by decide +kernel
theorem dX2_mournedBy_10 : decode cX2_mournedBy 10 = .ok (.ifCond .eq 28, 3) := by decide +kernel
theorem dX2_mournedBy_13 : decode cX2_mournedBy 13 = .ok (.aload_n 0, 1) := by decide +kernel
theorem dX2_mournedBy_14 : decode cX2_mournedBy 14 = .ok (.iload_n 1, 1) := by decide +kernel
theorem dX2_mournedBy_15 : decode cX2_mournedBy 15 = .ok (.invokevirtual 90, 3) := by decide +kernel
theorem dX2_mournedBy_18 : decode cX2_mournedBy 18 = .ok (.aload_n 0, 1) := by decide +kernel
theorem dX2_mournedBy_19 : decode cX2_mournedBy 19 = .ok (.getfield 23, 3) := by decide +kernel
theorem dX2_mournedBy_22 : decode cX2_mournedBy 22 = .ok (.getfield 133, 3) := by decide +kernel
theorem dX2_mournedBy_25 : decode cX2_mournedBy 25 = .ok (.aload_n 0, 1) := by decide +kernel
theorem dX2_mournedBy_26 : decode cX2_mournedBy 26 = .ok (.getfield 17, 3) := by decide +kernel
theorem dX2_mournedBy_29 : decode cX2_mournedBy 29 = .ok (.invokevirtual 101, 3) := by decide +kernel
theorem dX2_mournedBy_32 : decode cX2_mournedBy 32 = .ok (.bipush 20, 2) := by decide +kernel
theorem dX2_mournedBy_34 : decode cX2_mournedBy 34 = .ok (.invokestatic 87, 3) := by decide +kernel
theorem dX2_mournedBy_37 : decode cX2_mournedBy 37 = .ok (.ireturn, 1) := by decide +kernel
theorem dX2_mournedBy_38 : decode cX2_mournedBy 38 = .ok (.aload_n 0, 1) := by decide +kernel
theorem dX2_mournedBy_39 : decode cX2_mournedBy 39 = .ok (.getfield 23, 3) := by decide +kernel
theorem dX2_mournedBy_42 : decode cX2_mournedBy 42 = .ok (.getfield 105, 3) := by decide +kernel
theorem dX2_mournedBy_45 : decode cX2_mournedBy 45 = .ok (.iload_n 1, 1) := by decide +kernel
theorem dX2_mournedBy_46 : decode cX2_mournedBy 46 = .ok (.iaload, 1) := by decide +kernel
theorem dX2_mournedBy_47 : decode cX2_mournedBy 47 = .ok (.iconst 3, 1) := by decide +kernel
theorem dX2_mournedBy_48 : decode cX2_mournedBy 48 = .ok (.if_icmp .ne 7, 3) := by decide +kernel
theorem dX2_mournedBy_51 : decode cX2_mournedBy 51 = .ok (.iconst 0, 1) := by decide +kernel
theorem dX2_mournedBy_52 : decode cX2_mournedBy 52 = .ok (.goto 8, 3) := by decide +kernel
theorem dX2_mournedBy_55 : decode cX2_mournedBy 55 = .ok (.aload_n 0, 1) := by decide +kernel
theorem dX2_mournedBy_56 : decode cX2_mournedBy 56 = .ok (.iload_n 1, 1) := by decide +kernel
theorem dX2_mournedBy_57 : decode cX2_mournedBy 57 = .ok (.invokevirtual 136, 3) := by decide +kernel
theorem dX2_mournedBy_60 : decode cX2_mournedBy 60 = .ok (.ireturn, 1) := by decide +kernel
theorem dX3_init_0 : decode cX3_init 0 = .ok (.aload_n 0, 1) := by decide +kernel
theorem dX3_init_1 : decode cX3_init 1 = .ok (.invokespecial 3, 3) := by decide +kernel
theorem dX3_init_4 : decode cX3_init 4 = .ok (.aload_n 0, 1) := by decide +kernel
theorem dX3_init_5 : decode cX3_init 5 = .ok (.bipush 9, 2) := by decide +kernel
theorem dX3_init_7 : decode cX3_init 7 = .ok (.newarray .int, 2) := by decide +kernel
theorem dX3_init_9 : decode cX3_init 9 = .ok (.putfield 9, 3) := by decide +kernel
theorem dX3_init_12 : decode cX3_init 12 = .ok (.aload_n 0, 1) := by decide +kernel
theorem dX3_init_13 : decode cX3_init 13 = .ok (.new 15, 3) := by decide +kernel
theorem dX3_init_16 : decode cX3_init 16 = .ok (.dup, 1) := by decide +kernel
theorem dX3_init_17 : decode cX3_init 17 = .ok (.invokespecial 17, 3) := by decide +kernel
theorem dX3_init_20 : decode cX3_init 20 = .ok (.putfield 18, 3) := by decide +kernel
theorem dX3_init_23 : decode cX3_init 23 = .ok (.aload_n 0, 1) := by decide +kernel
theorem dX3_init_24 : decode cX3_init 24 = .ok (.new 15, 3) := by decide +kernel
theorem dX3_init_27 : decode cX3_init 27 = .ok (.dup, 1) := by decide +kernel
theorem dX3_init_28 : decode cX3_init 28 = .ok (.invokespecial 17, 3) := by decide +kernel
theorem dX3_init_31 : decode cX3_init 31 = .ok (.putfield 22, 3) := by decide +kernel
theorem dX3_init_34 : decode cX3_init 34 = .ok (.return_, 1) := by decide +kernel
theorem dX3_clear_0 : decode cX3_clear 0 = .ok (.aload_n 0, 1) := by decide +kernel
theorem dX3_clear_1 : decode cX3_clear 1 = .ok (.iconst 0, 1) := by decide +kernel
theorem dX3_clear_2 : decode cX3_clear 2 = .ok (.putfield 25, 3) := by decide +kernel
theorem dX3_clear_5 : decode cX3_clear 5 = .ok (.aload_n 0, 1) := by decide +kernel
theorem dX3_clear_6 : decode cX3_clear 6 = .ok (.iconst 0, 1) := by decide +kernel
theorem dX3_clear_7 : decode cX3_clear 7 = .ok (.putfield 29, 3) := by decide +kernel
theorem dX3_clear_10 : decode cX3_clear 10 = .ok (.aload_n 0, 1) := by decide +kernel
theorem dX3_clear_11 : decode cX3_clear 11 = .ok (.getfield 18, 3) := by decide +kernel
theorem dX3_clear_14 : decode cX3_clear 14 = .ok (.invokevirtual 32, 3) := by decide +kernel
theorem dX3_clear_17 : decode cX3_clear 17 = .ok (.aload_n 0, 1) := by decide +kernel
theorem dX3_clear_18 : decode cX3_clear 18 = .ok (.getfield 22, 3) := by decide +kernel
theorem dX3_clear_21 : decode cX3_clear 21 = .ok (.invokevirtual 32, 3) := by decide +kernel
theorem dX3_clear_24 : decode cX3_clear 24 = .ok (.return_, 1) := by decide +kernel
theorem dX4_init_0 : decode cX4_init 0 = .ok (.aload_n 0, 1) := by decide +kernel
theorem dX4_init_1 : decode cX4_init 1 = .ok (.invokespecial 3, 3) := by decide +kernel
theorem dX4_init_4 : decode cX4_init 4 = .ok (.aload_n 0, 1) := by decide +kernel
theorem dX4_init_5 : decode cX4_init 5 = .ok (.new 9, 3) := by decide +kernel
theorem dX4_init_8 : decode cX4_init 8 = .ok (.dup, 1) := by decide +kernel
theorem dX4_init_9 : decode cX4_init 9 = .ok (.aload_n 2, 1) := by decide +kernel
theorem dX4_init_10 : decode cX4_init 10 = .ok (.invokespecial 11, 3) := by decide +kernel
theorem dX4_init_13 : decode cX4_init 13 = .ok (.putfield 14, 3) := by decide +kernel
theorem dX4_init_16 : decode cX4_init 16 = .ok (.aload_n 0, 1) := by decide +kernel
theorem dX4_init_17 : decode cX4_init 17 = .ok (.aload_n 1, 1) := by decide +kernel
theorem dX4_init_18 : decode cX4_init 18 = .ok (.putfield 20, 3) := by decide +kernel
theorem dX4_init_21 : decode cX4_init 21 = .ok (.aload_n 0, 1) := by decide +kernel
theorem dX4_init_22 : decode cX4_init 22 = .ok (.aload_n 1, 1) := by decide +kernel
theorem dX4_init_23 : decode cX4_init 23 = .ok (.getfield 24, 3) := by decide +kernel
theorem dX4_init_26 : decode cX4_init 26 = .ok (.getfield 30, 3) := by decide +kernel
theorem dX4_init_29 : decode cX4_init 29 = .ok (.putfield 36, 3) := by decide +kernel
theorem dX4_init_32 : decode cX4_init 32 = .ok (.return_, 1) := by decide +kernel
theorem dX4_readDale_0 : decode cX4_readDale 0 = .ok (.aload_n 0, 1) := by decide +kernel
theorem dX4_readDale_1 : decode cX4_readDale 1 = .ok (.iconst 0, 1) := by decide +kernel
theorem dX4_readDale_2 : decode cX4_readDale 2 = .ok (.putfield 39, 3) := by decide +kernel
theorem dX4_readDale_5 : decode cX4_readDale 5 = .ok (.aload_n 0, 1) := by decide +kernel
theorem dX4_readDale_6 : decode cX4_readDale 6 = .ok (.iconst 0, 1) := by decide +kernel
theorem dX4_readDale_7 : decode cX4_readDale 7 = .ok (.putfield 43, 3) := by decide +kernel
theorem dX4_readDale_10 : decode cX4_readDale 10 = .ok (.aload_n 0, 1) := by decide +kernel
theorem dX4_readDale_11 : decode cX4_readDale 11 = .ok (.getfield 14, 3) := by decide +kernel
theorem dX4_readDale_14 : decode cX4_readDale 14 = .ok (.iload_n 1, 1) := by decide +kernel
theorem dX4_readDale_15 : decode cX4_readDale 15 = .ok (.invokevirtual 46, 3) := by decide +kernel
theorem dX4_readDale_18 : decode cX4_readDale 18 = .ok (.iconst 1, 1) := by decide +kernel
theorem dX4_readDale_19 : decode cX4_readDale 19 = .ok (.istore_n 2, 1) := by decide +kernel
theorem dX4_readDale_20 : decode cX4_readDale 20 = .ok (.iconst 0, 1) := by decide +kernel
theorem dX4_readDale_21 : decode cX4_readDale 21 = .ok (.istore_n 3, 1) := by decide +kernel
theorem dX4_readDale_22 : decode cX4_readDale 22 = .ok (.iload_n 3, 1) := by decide +kernel
theorem dX4_readDale_23 : decode cX4_readDale 23 = .ok (.sipush 700, 3) := by decide +kernel
theorem dX4_readDale_26 : decode cX4_readDale 26 = .ok (.if_icmp .ge 161, 3) := by decide +kernel
theorem dX4_readDale_29 : decode cX4_readDale 29 = .ok (.iload_n 2, 1) := by decide +kernel
theorem dX4_readDale_30 : decode cX4_readDale 30 = .ok (.ifCond .eq 157, 3) := by decide +kernel
theorem dX4_readDale_33 : decode cX4_readDale 33 = .ok (.aload_n 0, 1) := by decide +kernel
theorem dX4_readDale_34 : decode cX4_readDale 34 = .ok (.getfield 14, 3) := by decide +kernel
theorem dX4_readDale_37 : decode cX4_readDale 37 = .ok (.getfield 50, 3) := by decide +kernel
theorem dX4_readDale_40 : decode cX4_readDale 40 = .ok (.ifCond .eq 147, 3) := by decide +kernel
theorem dX4_readDale_43 : decode cX4_readDale 43 = .ok (.aload_n 0, 1) := by decide +kernel
theorem dX4_readDale_44 : decode cX4_readDale 44 = .ok (.getfield 14, 3) := by decide +kernel
theorem dX4_readDale_47 : decode cX4_readDale 47 = .ok (.getfield 53, 3) := by decide +kernel
theorem dX4_readDale_50 : decode cX4_readDale 50 = .ok (.astore 4, 2) := by decide +kernel
theorem dX4_readDale_52 : decode cX4_readDale 52 = .ok (.aload 4, 2) := by decide +kernel
theorem dX4_readDale_54 : decode cX4_readDale 54 = .ok (.ifnonnull 12, 3) := by decide +kernel
theorem dX4_readDale_57 : decode cX4_readDale 57 = .ok (.aload_n 0, 1) := by decide +kernel
theorem dX4_readDale_58 : decode cX4_readDale 58 = .ok (.iconst 1, 1) := by decide +kernel
theorem dX4_readDale_59 : decode cX4_readDale 59 = .ok (.invokevirtual 57, 3) := by decide +kernel
theorem dX4_readDale_62 : decode cX4_readDale 62 = .ok (.istore_n 2, 1) := by decide +kernel
theorem dX4_readDale_63 : decode cX4_readDale 63 = .ok (.goto 118, 3) := by decide +kernel
theorem dX4_readDale_66 : decode cX4_readDale 66 = .ok (.aload 4, 2) := by decide +kernel
theorem dX4_readDale_68 : decode cX4_readDale 68 = .ok (.getfield 61, 3) := by decide +kernel
theorem dX4_readDale_71 : decode cX4_readDale 71 = .ok (.iconst (-1), 1) := by decide +kernel
theorem dX4_readDale_72 : decode cX4_readDale 72 = .ok (.if_icmp .eq 16, 3) := by decide +kernel
theorem dX4_readDale_75 : decode cX4_readDale 75 = .ok (.aload_n 0, 1) := by decide +kernel
theorem dX4_readDale_76 : decode cX4_readDale 76 = .ok (.aload 4, 2) := by decide +kernel
theorem dX4_readDale_78 : decode cX4_readDale 78 = .ok (.getfield 61, 3) := by decide +kernel
theorem dX4_readDale_81 : decode cX4_readDale 81 = .ok (.invokevirtual 66, 3) := by decide +kernel
theorem dX4_readDale_84 : decode cX4_readDale 84 = .ok (.istore_n 2, 1) := by decide +kernel
theorem dX4_readDale_85 : decode cX4_readDale 85 = .ok (.goto 96, 3) := by decide +kernel
theorem dX4_readDale_88 : decode cX4_readDale 88 = .ok (.aload 4, 2) := by decide +kernel
theorem dX4_readDale_90 : decode cX4_readDale 90 = .ok (.getstatic 69, 3) := by decide +kernel
theorem dX4_readDale_93 : decode cX4_readDale 93 = .ok (.if_acmp .ne 11, 3) := by decide +kernel
theorem dX4_readDale_96 : decode cX4_readDale 96 = .ok (.aload_n 0, 1) := by decide +kernel
theorem dX4_readDale_97 : decode cX4_readDale 97 = .ok (.invokevirtual 72, 3) := by decide +kernel
theorem dX4_readDale_100 : decode cX4_readDale 100 = .ok (.istore_n 2, 1) := by decide +kernel
theorem dX4_readDale_101 : decode cX4_readDale 101 = .ok (.goto 80, 3) := by decide +kernel
theorem dX4_readDale_104 : decode cX4_readDale 104 = .ok (.aload 4, 2) := by decide +kernel
theorem dX4_readDale_106 : decode cX4_readDale 106 = .ok (.getstatic 76, 3) := by decide +kernel
theorem dX4_readDale_109 : decode cX4_readDale 109 = .ok (.if_acmp .ne 11, 3) := by decide +kernel
theorem dX4_readDale_112 : decode cX4_readDale 112 = .ok (.aload_n 0, 1) := by decide +kernel
theorem dX4_readDale_113 : decode cX4_readDale 113 = .ok (.invokevirtual 79, 3) := by decide +kernel
theorem dX4_readDale_116 : decode cX4_readDale 116 = .ok (.istore_n 2, 1) := by decide +kernel
theorem dX4_readDale_117 : decode cX4_readDale 117 = .ok (.goto 64, 3) := by decide +kernel
theorem dX4_readDale_120 : decode cX4_readDale 120 = .ok (.aload 4, 2) := by decide +kernel
theorem dX4_readDale_122 : decode cX4_readDale 122 = .ok (.getstatic 82, 3) := by decide +kernel
theorem dX4_readDale_125 : decode cX4_readDale 125 = .ok (.if_acmp .ne 23, 3) := by decide +kernel
theorem dX4_readDale_128 : decode cX4_readDale 128 = .ok (.aload_n 0, 1) := by decide +kernel
theorem dX4_readDale_129 : decode cX4_readDale 129 = .ok (.aload_n 0, 1) := by decide +kernel
theorem dX4_readDale_130 : decode cX4_readDale 130 = .ok (.getfield 20, 3) := by decide +kernel
theorem dX4_readDale_133 : decode cX4_readDale 133 = .ok (.getfield 24, 3) := by decide +kernel
theorem dX4_readDale_136 : decode cX4_readDale 136 = .ok (.getfield 30, 3) := by decide +kernel
theorem dX4_readDale_139 : decode cX4_readDale 139 = .ok (.bipush 8, 2) := by decide +kernel
theorem dX4_readDale_141 : decode cX4_readDale 141 = .ok (.invokevirtual 87, 3) := by decide +kernel
theorem dX4_readDale_144 : decode cX4_readDale 144 = .ok (.istore_n 2, 1) := by decide +kernel
theorem dX4_readDale_145 : decode cX4_readDale 145 = .ok (.goto 36, 3) := by decide +kernel
theorem dX4_readDale_148 : decode cX4_readDale 148 = .ok (.aload 4, 2) := by decide +kernel
theorem dX4_readDale_150 : decode cX4_readDale 150 = .ok (.getstatic 91, 3) := by decide +kernel
theorem dX4_readDale_153 : decode cX4_readDale 153 = .ok (.if_acmp .ne 22, 3) := by decide +kernel
theorem dX4_readDale_156 : decode cX4_readDale 156 = .ok (.aload_n 0, 1) := by decide +kernel
theorem dX4_readDale_157 : decode cX4_readDale 157 = .ok (.aload_n 0, 1) := by decide +kernel
theorem dX4_readDale_158 : decode cX4_readDale 158 = .ok (.getfield 20, 3) := by decide +kernel
theorem dX4_readDale_161 : decode cX4_readDale 161 = .ok (.getfield 24, 3) := by decide +kernel
theorem dX4_readDale_164 : decode cX4_readDale 164 = .ok (.getfield 94, 3) := by decide +kernel
theorem dX4_readDale_167 : decode cX4_readDale 167 = .ok (.iconst 5, 1) := by decide +kernel
theorem dX4_readDale_168 : decode cX4_readDale 168 = .ok (.invokevirtual 87, 3) := by decide +kernel
theorem dX4_readDale_171 : decode cX4_readDale 171 = .ok (.istore_n 2, 1) := by decide +kernel
theorem dX4_readDale_172 : decode cX4_readDale 172 = .ok (.goto 9, 3) := by decide +kernel
theorem dX4_readDale_175 : decode cX4_readDale 175 = .ok (.aload_n 0, 1) := by decide +kernel
theorem dX4_readDale_176 : decode cX4_readDale 176 = .ok (.iconst 1, 1) := by decide +kernel
theorem dX4_readDale_177 : decode cX4_readDale 177 = .ok (.invokevirtual 57, 3) := by decide +kernel
theorem dX4_readDale_180 : decode cX4_readDale 180 = .ok (.istore_n 2, 1) := by decide +kernel
theorem dX4_readDale_181 : decode cX4_readDale 181 = .ok (.iinc 3 1, 3) := by decide +kernel
theorem dX4_readDale_184 : decode cX4_readDale 184 = .ok (.goto (-162), 3) := by decide +kernel
theorem dX4_readDale_187 : decode cX4_readDale 187 = .ok (.aload_n 0, 1) := by decide +kernel
theorem dX4_readDale_188 : decode cX4_readDale 188 = .ok (.getfield 39, 3) := by decide +kernel
theorem dX4_readDale_191 : decode cX4_readDale 191 = .ok (.ireturn, 1) := by decide +kernel
theorem dX4_place_0 : decode cX4_place 0 = .ok (.aload_n 0, 1) := by decide +kernel
theorem dX4_place_1 : decode cX4_place 1 = .ok (.getfield 14, 3) := by decide +kernel
theorem dX4_place_4 : decode cX4_place 4 = .ok (.getfield 97, 3) := by decide +kernel
theorem dX4_place_7 : decode cX4_place 7 = .ok (.ireturn, 1) := by decide +kernel
theorem dX4_refuseToken_0 : decode cX4_refuseToken 0 = .ok (.aload_n 0, 1) := by decide +kernel
theorem dX4_refuseToken_1 : decode cX4_refuseToken 1 = .ok (.iload_n 1, 1) := by decide +kernel
theorem dX4_refuseToken_2 : decode cX4_refuseToken 2 = .ok (.putfield 39, 3) := by decide +kernel
theorem dX4_refuseToken_5 : decode cX4_refuseToken 5 = .ok (.iconst 0, 1) := by decide +kernel
theorem dX4_refuseToken_6 : decode cX4_refuseToken 6 = .ok (.ireturn, 1) := by decide +kernel
theorem dX4_readPerson_0 : decode cX4_readPerson 0 = .ok (.aload_n 0, 1) := by decide +kernel
theorem dX4_readPerson_1 : decode cX4_readPerson 1 = .ok (.getfield 20, 3) := by decide +kernel
theorem dX4_readPerson_4 : decode cX4_readPerson 4 = .ok (.getfield 24, 3) := by decide +kernel
theorem dX4_readPerson_7 : decode cX4_readPerson 7 = .ok (.astore_n 2, 1) := by decide +kernel
theorem dX4_readPerson_8 : decode cX4_readPerson 8 = .ok (.aload_n 2, 1) := by decide +kernel
theorem dX4_readPerson_9 : decode cX4_readPerson 9 = .ok (.getfield 100, 3) := by decide +kernel
theorem dX4_readPerson_12 : decode cX4_readPerson 12 = .ok (.istore_n 3, 1) := by decide +kernel
theorem dX4_readPerson_13 : decode cX4_readPerson 13 = .ok (.iload_n 3, 1) := by decide +kernel
theorem dX4_readPerson_14 : decode cX4_readPerson 14 = .ok (.bipush 9, 2) := by decide +kernel
theorem dX4_readPerson_16 : decode cX4_readPerson 16 = .ok (.if_icmp .lt 9, 3) := by decide +kernel
theorem dX4_readPerson_19 : decode cX4_readPerson 19 = .ok (.aload_n 0, 1) := by decide +kernel
theorem dX4_readPerson_20 : decode cX4_readPerson 20 = .ok (.iconst 2, 1) := by decide +kernel
theorem dX4_readPerson_21 : decode cX4_readPerson 21 = .ok (.invokevirtual 57, 3) := by decide +kernel
theorem dX4_readPerson_24 : decode cX4_readPerson 24 = .ok (.ireturn, 1) := by decide +kernel
theorem dX4_readPerson_25 : decode cX4_readPerson 25 = .ok (.aload_n 0, 1) := by decide +kernel
theorem dX4_readPerson_26 : decode cX4_readPerson 26 = .ok (.getfield 14, 3) := by decide +kernel
theorem dX4_readPerson_29 : decode cX4_readPerson 29 = .ok (.invokevirtual 103, 3) := by decide +kernel
theorem dX4_readPerson_32 : decode cX4_readPerson 32 = .ok (.aload_n 2, 1) := by decide +kernel
theorem dX4_readPerson_33 : decode cX4_readPerson 33 = .ok (.getfield 106, 3) := by decide +kernel
theorem dX4_readPerson_36 : decode cX4_readPerson 36 = .ok (.iload_n 3, 1) := by decide +kernel
theorem dX4_readPerson_37 : decode cX4_readPerson 37 = .ok (.iload_n 1, 1) := by decide +kernel
theorem dX4_readPerson_38 : decode cX4_readPerson 38 = .ok (.iastore, 1) := by decide +kernel
theorem dX4_readPerson_39 : decode cX4_readPerson 39 = .ok (.aload_n 0, 1) := by decide +kernel
theorem dX4_readPerson_40 : decode cX4_readPerson 40 = .ok (.iconst 0, 1) := by decide +kernel
theorem dX4_readPerson_41 : decode cX4_readPerson 41 = .ok (.bipush 99, 2) := by decide +kernel
theorem dX4_readPerson_43 : decode cX4_readPerson 43 = .ok (.invokevirtual 110, 3) := by decide +kernel
theorem dX4_readPerson_46 : decode cX4_readPerson 46 = .ok (.ifCond .ne 5, 3) := by decide +kernel
theorem dX4_readPerson_49 : decode cX4_readPerson 49 = .ok (.iconst 0, 1) := by decide +kernel
theorem dX4_readPerson_50 : decode cX4_readPerson 50 = .ok (.ireturn, 1) := by decide +kernel
theorem dX4_readPerson_51 : decode cX4_readPerson 51 = .ok (.aload_n 0, 1) := by decide +kernel
theorem dX4_readPerson_52 : decode cX4_readPerson 52 = .ok (.getfield 20, 3) := by decide +kernel
theorem dX4_readPerson_55 : decode cX4_readPerson 55 = .ok (.iload_n 3, 1) := by decide +kernel
theorem dX4_readPerson_56 : decode cX4_readPerson 56 = .ok (.aload_n 0, 1) := by decide +kernel
theorem dX4_readPerson_57 : decode cX4_readPerson 57 = .ok (.getfield 114, 3) := by decide +kernel
theorem dX4_readPerson_60 : decode cX4_readPerson 60 = .ok (.invokevirtual 117, 3) := by decide +kernel
theorem dX4_readPerson_63 : decode cX4_readPerson 63 = .ok (.aload_n 0, 1) := by decide +kernel
theorem dX4_readPerson_64 : decode cX4_readPerson 64 = .ok (.iconst 0, 1) := by decide +kernel
theorem dX4_readPerson_65 : decode cX4_readPerson 65 = .ok (.bipush 9, 2) := by decide +kernel
theorem dX4_readPerson_67 : decode cX4_readPerson 67 = .ok (.invokevirtual 110, 3) := by decide +kernel
theorem dX4_readPerson_70 : decode cX4_readPerson 70 = .ok (.ifCond .ne 5, 3) := by decide +kernel
theorem dX4_readPerson_73 : decode cX4_readPerson 73 = .ok (.iconst 0, 1) := by decide +kernel
theorem dX4_readPerson_74 : decode cX4_readPerson 74 = .ok (.ireturn, 1) := by decide +kernel
theorem dX4_readPerson_75 : decode cX4_readPerson 75 = .ok (.aload_n 0, 1) := by decide +kernel
theorem dX4_readPerson_76 : decode cX4_readPerson 76 = .ok (.getfield 20, 3) := by decide +kernel
theorem dX4_readPerson_79 : decode cX4_readPerson 79 = .ok (.iload_n 3, 1) := by decide +kernel
theorem dX4_readPerson_80 : decode cX4_readPerson 80 = .ok (.aload_n 0, 1) := by decide +kernel
theorem dX4_readPerson_81 : decode cX4_readPerson 81 = .ok (.getfield 114, 3) := by decide +kernel
theorem dX4_readPerson_84 : decode cX4_readPerson 84 = .ok (.invokevirtual 121, 3) := by decide +kernel
theorem dX4_readPerson_87 : decode cX4_readPerson 87 = .ok (.aload_n 0, 1) := by decide +kernel
theorem dX4_readPerson_88 : decode cX4_readPerson 88 = .ok (.iconst 0, 1) := by decide +kernel
theorem dX4_readPerson_89 : decode cX4_readPerson 89 = .ok (.bipush 9, 2) := by decide +kernel
theorem dX4_readPerson_91 : decode cX4_readPerson 91 = .ok (.invokevirtual 110, 3) := by decide +kernel
theorem dX4_readPerson_94 : decode cX4_readPerson 94 = .ok (.ifCond .ne 5, 3) := by decide +kernel
theorem dX4_readPerson_97 : decode cX4_readPerson 97 = .ok (.iconst 0, 1) := by decide +kernel
theorem dX4_readPerson_98 : decode cX4_readPerson 98 = .ok (.ireturn, 1) := by decide +kernel
theorem dX4_readPerson_99 : decode cX4_readPerson 99 = .ok (.aload_n 0, 1) := by decide +kernel
theorem dX4_readPerson_100 : decode cX4_readPerson 100 = .ok (.getfield 20, 3) := by decide +kernel
theorem dX4_readPerson_103 : decode cX4_readPerson 103 = .ok (.iload_n 3, 1) := by decide +kernel
theorem dX4_readPerson_104 : decode cX4_readPerson 104 = .ok (.aload_n 0, 1) := by decide +kernel
theorem dX4_readPerson_105 : decode cX4_readPerson 105 = .ok (.getfield 114, 3) := by decide +kernel
theorem dX4_readPerson_108 : decode cX4_readPerson 108 = .ok (.invokevirtual 124, 3) := by decide +kernel
theorem dX4_readPerson_111 : decode cX4_readPerson 111 = .ok (.aload_n 2, 1) := by decide +kernel
theorem dX4_readPerson_112 : decode cX4_readPerson 112 = .ok (.dup, 1) := by decide +kernel
theorem dX4_readPerson_113 : decode cX4_readPerson 113 = .ok (.getfield 100, 3) := by decide +kernel
theorem dX4_readPerson_116 : decode cX4_readPerson 116 = .ok (.iconst 1, 1) := by decide +kernel
theorem dX4_readPerson_117 : decode cX4_readPerson 117 = .ok (.iadd, 1) := by decide +kernel
theorem dX4_readPerson_118 : decode cX4_readPerson 118 = .ok (.putfield 100, 3) := by decide +kernel
theorem dX4_readPerson_121 : decode cX4_readPerson 121 = .ok (.aload_n 0, 1) := by decide +kernel
theorem dX4_readPerson_122 : decode cX4_readPerson 122 = .ok (.bipush 59, 2) := by decide +kernel
theorem dX4_readPerson_124 : decode cX4_readPerson 124 = .ok (.invokevirtual 127, 3) := by decide +kernel
theorem dX4_readPerson_127 : decode cX4_readPerson 127 = .ok (.ireturn, 1) := by decide +kernel
theorem dX4_readBride_0 : decode cX4_readBride 0 = .ok (.aload_n 0, 1) := by decide +kernel
theorem dX4_readBride_1 : decode cX4_readBride 1 = .ok (.getfield 20, 3) := by decide +kernel
theorem dX4_readBride_4 : decode cX4_readBride 4 = .ok (.getfield 24, 3) := by decide +kernel
theorem dX4_readBride_7 : decode cX4_readBride 7 = .ok (.astore_n 1, 1) := by decide +kernel
theorem dX4_readBride_8 : decode cX4_readBride 8 = .ok (.aload_n 1, 1) := by decide +kernel
theorem dX4_readBride_9 : decode cX4_readBride 9 = .ok (.getfield 131, 3) := by decide +kernel
theorem dX4_readBride_12 : decode cX4_readBride 12 = .ok (.istore_n 2, 1) := by decide +kernel
theorem dX4_readBride_13 : decode cX4_readBride 13 = .ok (.iload_n 2, 1) := by decide +kernel
theorem dX4_readBride_14 : decode cX4_readBride 14 = .ok (.bipush 6, 2) := by decide +kernel
theorem dX4_readBride_16 : decode cX4_readBride 16 = .ok (.if_icmp .lt 9, 3) := by decide +kernel
theorem dX4_readBride_19 : decode cX4_readBride 19 = .ok (.aload_n 0, 1) := by decide +kernel
theorem dX4_readBride_20 : decode cX4_readBride 20 = .ok (.iconst 2, 1) := by decide +kernel
theorem dX4_readBride_21 : decode cX4_readBride 21 = .ok (.invokevirtual 57, 3) := by decide +kernel
theorem dX4_readBride_24 : decode cX4_readBride 24 = .ok (.ireturn, 1) := by decide +kernel
theorem dX4_readBride_25 : decode cX4_readBride 25 = .ok (.aload_n 0, 1) := by decide +kernel
theorem dX4_readBride_26 : decode cX4_readBride 26 = .ok (.getfield 14, 3) := by decide +kernel
theorem dX4_readBride_29 : decode cX4_readBride 29 = .ok (.invokevirtual 103, 3) := by decide +kernel
theorem dX4_readBride_32 : decode cX4_readBride 32 = .ok (.aload_n 0, 1) := by decide +kernel
theorem dX4_readBride_33 : decode cX4_readBride 33 = .ok (.iconst 0, 1) := by decide +kernel
theorem dX4_readBride_34 : decode cX4_readBride 34 = .ok (.bipush 60, 2) := by decide +kernel
theorem dX4_readBride_36 : decode cX4_readBride 36 = .ok (.invokevirtual 110, 3) := by decide +kernel
theorem dX4_readBride_39 : decode cX4_readBride 39 = .ok (.ifCond .ne 5, 3) := by decide +kernel
theorem dX4_readBride_42 : decode cX4_readBride 42 = .ok (.iconst 0, 1) := by decide +kernel
theorem dX4_readBride_43 : decode cX4_readBride 43 = .ok (.ireturn, 1) := by decide +kernel
theorem dX4_readBride_44 : decode cX4_readBride 44 = .ok (.aload_n 0, 1) := by decide +kernel
theorem dX4_readBride_45 : decode cX4_readBride 45 = .ok (.getfield 20, 3) := by decide +kernel
theorem dX4_readBride_48 : decode cX4_readBride 48 = .ok (.iload_n 2, 1) := by decide +kernel
theorem dX4_readBride_49 : decode cX4_readBride 49 = .ok (.aload_n 0, 1) := by decide +kernel
theorem dX4_readBride_50 : decode cX4_readBride 50 = .ok (.getfield 114, 3) := by decide +kernel
theorem dX4_readBride_53 : decode cX4_readBride 53 = .ok (.invokevirtual 134, 3) := by decide +kernel
theorem dX4_readBride_56 : decode cX4_readBride 56 = .ok (.aload_n 1, 1) := by decide +kernel
theorem dX4_readBride_57 : decode cX4_readBride 57 = .ok (.dup, 1) := by decide +kernel
theorem dX4_readBride_58 : decode cX4_readBride 58 = .ok (.getfield 131, 3) := by decide +kernel
theorem dX4_readBride_61 : decode cX4_readBride 61 = .ok (.iconst 1, 1) := by decide +kernel
theorem dX4_readBride_62 : decode cX4_readBride 62 = .ok (.iadd, 1) := by decide +kernel
theorem dX4_readBride_63 : decode cX4_readBride 63 = .ok (.putfield 131, 3) := by decide +kernel
theorem dX4_readBride_66 : decode cX4_readBride 66 = .ok (.aload_n 0, 1) := by decide +kernel
theorem dX4_readBride_67 : decode cX4_readBride 67 = .ok (.bipush 59, 2) := by decide +kernel
theorem dX4_readBride_69 : decode cX4_readBride 69 = .ok (.invokevirtual 127, 3) := by decide +kernel
theorem dX4_readBride_72 : decode cX4_readBride 72 = .ok (.ireturn, 1) := by decide +kernel
theorem dX4_readTie_0 : decode cX4_readTie 0 = .ok (.aload_n 0, 1) := by decide +kernel
theorem dX4_readTie_1 : decode cX4_readTie 1 = .ok (.getfield 43, 3) := by decide +kernel
theorem dX4_readTie_4 : decode cX4_readTie 4 = .ok (.bipush 24, 2) := by decide +kernel
theorem dX4_readTie_6 : decode cX4_readTie 6 = .ok (.if_icmp .lt 9, 3) := by decide +kernel
theorem dX4_readTie_9 : decode cX4_readTie 9 = .ok (.aload_n 0, 1) := by decide +kernel
theorem dX4_readTie_10 : decode cX4_readTie 10 = .ok (.iconst 2, 1) := by decide +kernel
theorem dX4_readTie_11 : decode cX4_readTie 11 = .ok (.invokevirtual 57, 3) := by decide +kernel
theorem dX4_readTie_14 : decode cX4_readTie 14 = .ok (.ireturn, 1) := by decide +kernel
theorem dX4_readTie_15 : decode cX4_readTie 15 = .ok (.aload_n 0, 1) := by decide +kernel
theorem dX4_readTie_16 : decode cX4_readTie 16 = .ok (.dup, 1) := by decide +kernel
theorem dX4_readTie_17 : decode cX4_readTie 17 = .ok (.getfield 43, 3) := by decide +kernel
theorem dX4_readTie_20 : decode cX4_readTie 20 = .ok (.iconst 1, 1) := by decide +kernel
theorem dX4_readTie_21 : decode cX4_readTie 21 = .ok (.iadd, 1) := by decide +kernel
theorem dX4_readTie_22 : decode cX4_readTie 22 = .ok (.putfield 43, 3) := by decide +kernel
theorem dX4_readTie_25 : decode cX4_readTie 25 = .ok (.aload_n 0, 1) := by decide +kernel
theorem dX4_readTie_26 : decode cX4_readTie 26 = .ok (.getfield 14, 3) := by decide +kernel
theorem dX4_readTie_29 : decode cX4_readTie 29 = .ok (.invokevirtual 103, 3) := by decide +kernel
theorem dX4_readTie_32 : decode cX4_readTie 32 = .ok (.aload_n 0, 1) := by decide +kernel
theorem dX4_readTie_33 : decode cX4_readTie 33 = .ok (.aload_n 0, 1) := by decide +kernel
theorem dX4_readTie_34 : decode cX4_readTie 34 = .ok (.getfield 20, 3) := by decide +kernel
theorem dX4_readTie_37 : decode cX4_readTie 37 = .ok (.getfield 24, 3) := by decide +kernel
theorem dX4_readTie_40 : decode cX4_readTie 40 = .ok (.getfield 100, 3) := by decide +kernel
theorem dX4_readTie_43 : decode cX4_readTie 43 = .ok (.invokevirtual 137, 3) := by decide +kernel
theorem dX4_readTie_46 : decode cX4_readTie 46 = .ok (.ifCond .ne 5, 3) := by decide +kernel
theorem dX4_readTie_49 : decode cX4_readTie 49 = .ok (.iconst 0, 1) := by decide +kernel
theorem dX4_readTie_50 : decode cX4_readTie 50 = .ok (.ireturn, 1) := by decide +kernel
theorem dX4_readTie_51 : decode cX4_readTie 51 = .ok (.aload_n 0, 1) := by decide +kernel
theorem dX4_readTie_52 : decode cX4_readTie 52 = .ok (.getfield 114, 3) := by decide +kernel
theorem dX4_readTie_55 : decode cX4_readTie 55 = .ok (.istore_n 1, 1) := by decide +kernel
theorem dX4_readTie_56 : decode cX4_readTie 56 = .ok (.aload_n 0, 1) := by decide +kernel
theorem dX4_readTie_57 : decode cX4_readTie 57 = .ok (.aload_n 0, 1) := by decide +kernel
theorem dX4_readTie_58 : decode cX4_readTie 58 = .ok (.getfield 20, 3) := by decide +kernel
theorem dX4_readTie_61 : decode cX4_readTie 61 = .ok (.getfield 24, 3) := by decide +kernel
theorem dX4_readTie_64 : decode cX4_readTie 64 = .ok (.getfield 131, 3) := by decide +kernel
theorem dX4_readTie_67 : decode cX4_readTie 67 = .ok (.invokevirtual 140, 3) := by decide +kernel
theorem dX4_readTie_70 : decode cX4_readTie 70 = .ok (.ifCond .ne 5, 3) := by decide +kernel
theorem dX4_readTie_73 : decode cX4_readTie 73 = .ok (.iconst 0, 1) := by decide +kernel
theorem dX4_readTie_74 : decode cX4_readTie 74 = .ok (.ireturn, 1) := by decide +kernel
theorem dX4_readTie_75 : decode cX4_readTie 75 = .ok (.aload_n 0, 1) := by decide +kernel
theorem dX4_readTie_76 : decode cX4_readTie 76 = .ok (.getfield 14, 3) := by decide +kernel
theorem dX4_readTie_79 : decode cX4_readTie 79 = .ok (.getfield 143, 3) := by decide +kernel
theorem dX4_readTie_82 : decode cX4_readTie 82 = .ok (.istore_n 2, 1) := by decide +kernel
theorem dX4_readTie_83 : decode cX4_readTie 83 = .ok (.aload_n 0, 1) := by decide +kernel
theorem dX4_readTie_84 : decode cX4_readTie 84 = .ok (.getfield 20, 3) := by decide +kernel
theorem dX4_readTie_87 : decode cX4_readTie 87 = .ok (.iload_n 1, 1) := by decide +kernel
theorem dX4_readTie_88 : decode cX4_readTie 88 = .ok (.iload_n 2, 1) := by decide +kernel
theorem dX4_readTie_89 : decode cX4_readTie 89 = .ok (.invokevirtual 146, 3) := by decide +kernel
theorem dX4_readTie_92 : decode cX4_readTie 92 = .ok (.ifCond .le 9, 3) := by decide +kernel
theorem dX4_readTie_95 : decode cX4_readTie 95 = .ok (.aload_n 0, 1) := by decide +kernel
theorem dX4_readTie_96 : decode cX4_readTie 96 = .ok (.iconst 4, 1) := by decide +kernel
theorem dX4_readTie_97 : decode cX4_readTie 97 = .ok (.invokevirtual 57, 3) := by decide +kernel
theorem dX4_readTie_100 : decode cX4_readTie 100 = .ok (.ireturn, 1) := by decide +kernel
theorem dX4_readTie_101 : decode cX4_readTie 101 = .ok (.aload_n 0, 1) := by decide +kernel
theorem dX4_readTie_102 : decode cX4_readTie 102 = .ok (.getfield 14, 3) := by decide +kernel
theorem dX4_readTie_105 : decode cX4_readTie 105 = .ok (.invokevirtual 103, 3) := by decide +kernel
theorem dX4_readTie_108 : decode cX4_readTie 108 = .ok (.aload_n 0, 1) := by decide +kernel
theorem dX4_readTie_109 : decode cX4_readTie 109 = .ok (.iconst 1, 1) := by decide +kernel
theorem dX4_readTie_110 : decode cX4_readTie 110 = .ok (.bipush 40, 2) := by decide +kernel
theorem dX4_readTie_112 : decode cX4_readTie 112 = .ok (.invokevirtual 110, 3) := by decide +kernel
theorem dX4_readTie_115 : decode cX4_readTie 115 = .ok (.ifCond .ne 5, 3) := by decide +kernel
theorem dX4_readTie_118 : decode cX4_readTie 118 = .ok (.iconst 0, 1) := by decide +kernel
theorem dX4_readTie_119 : decode cX4_readTie 119 = .ok (.ireturn, 1) := by decide +kernel
theorem dX4_readTie_120 : decode cX4_readTie 120 = .ok (.aload_n 0, 1) := by decide +kernel
theorem dX4_readTie_121 : decode cX4_readTie 121 = .ok (.getfield 20, 3) := by decide +kernel
theorem dX4_readTie_124 : decode cX4_readTie 124 = .ok (.iload_n 1, 1) := by decide +kernel
theorem dX4_readTie_125 : decode cX4_readTie 125 = .ok (.iload_n 2, 1) := by decide +kernel
theorem dX4_readTie_126 : decode cX4_readTie 126 = .ok (.aload_n 0, 1) := by decide +kernel
theorem dX4_readTie_127 : decode cX4_readTie 127 = .ok (.getfield 114, 3) := by decide +kernel
theorem dX4_readTie_130 : decode cX4_readTie 130 = .ok (.invokevirtual 150, 3) := by decide +kernel
theorem dX4_readTie_133 : decode cX4_readTie 133 = .ok (.aload_n 0, 1) := by decide +kernel
theorem dX4_readTie_134 : decode cX4_readTie 134 = .ok (.bipush 59, 2) := by decide +kernel
theorem dX4_readTie_136 : decode cX4_readTie 136 = .ok (.invokevirtual 127, 3) := by decide +kernel
theorem dX4_readTie_139 : decode cX4_readTie 139 = .ok (.ireturn, 1) := by decide +kernel
theorem dX4_readRule_0 : decode cX4_readRule 0 = .ok (.aload_n 1, 1) := by decide +kernel
theorem dX4_readRule_1 : decode cX4_readRule 1 = .ok (.getfield 154, 3) := by decide +kernel
theorem dX4_readRule_4 : decode cX4_readRule 4 = .ok (.ifCond .eq 9, 3) := by decide +kernel
theorem dX4_readRule_7 : decode cX4_readRule 7 = .ok (.aload_n 0, 1) := by decide +kernel
theorem dX4_readRule_8 : decode cX4_readRule 8 = .ok (.iconst 5, 1) := by decide +kernel
theorem dX4_readRule_9 : decode cX4_readRule 9 = .ok (.invokevirtual 57, 3) := by decide +kernel
theorem dX4_readRule_12 : decode cX4_readRule 12 = .ok (.ireturn, 1) := by decide +kernel
theorem dX4_readRule_13 : decode cX4_readRule 13 = .ok (.aload_n 0, 1) := by decide +kernel
theorem dX4_readRule_14 : decode cX4_readRule 14 = .ok (.aload_n 1, 1) := by decide +kernel
theorem dX4_readRule_15 : decode cX4_readRule 15 = .ok (.putfield 36, 3) := by decide +kernel
theorem dX4_readRule_18 : decode cX4_readRule 18 = .ok (.aload_n 0, 1) := by decide +kernel
theorem dX4_readRule_19 : decode cX4_readRule 19 = .ok (.getfield 36, 3) := by decide +kernel
theorem dX4_readRule_22 : decode cX4_readRule 22 = .ok (.iconst 1, 1) := by decide +kernel
theorem dX4_readRule_23 : decode cX4_readRule 23 = .ok (.putfield 154, 3) := by decide +kernel
theorem dX4_readRule_26 : decode cX4_readRule 26 = .ok (.aload_n 0, 1) := by decide +kernel
theorem dX4_readRule_27 : decode cX4_readRule 27 = .ok (.iload_n 2, 1) := by decide +kernel
theorem dX4_readRule_28 : decode cX4_readRule 28 = .ok (.putfield 158, 3) := by decide +kernel
theorem dX4_readRule_31 : decode cX4_readRule 31 = .ok (.aload_n 0, 1) := by decide +kernel
theorem dX4_readRule_32 : decode cX4_readRule 32 = .ok (.getfield 14, 3) := by decide +kernel
theorem dX4_readRule_35 : decode cX4_readRule 35 = .ok (.invokevirtual 103, 3) := by decide +kernel
theorem dX4_readRule_38 : decode cX4_readRule 38 = .ok (.aload_n 0, 1) := by decide +kernel
theorem dX4_readRule_39 : decode cX4_readRule 39 = .ok (.iconst 0, 1) := by decide +kernel
theorem dX4_readRule_40 : decode cX4_readRule 40 = .ok (.invokevirtual 161, 3) := by decide +kernel
theorem dX4_readRule_43 : decode cX4_readRule 43 = .ok (.ifCond .eq 16, 3) := by decide +kernel
theorem dX4_readRule_46 : decode cX4_readRule 46 = .ok (.aload_n 0, 1) := by decide +kernel
theorem dX4_readRule_47 : decode cX4_readRule 47 = .ok (.bipush 59, 2) := by decide +kernel
theorem dX4_readRule_49 : decode cX4_readRule 49 = .ok (.invokevirtual 127, 3) := by decide +kernel
theorem dX4_readRule_52 : decode cX4_readRule 52 = .ok (.ifCond .eq 7, 3) := by decide +kernel
theorem dX4_readRule_55 : decode cX4_readRule 55 = .ok (.iconst 1, 1) := by decide +kernel
theorem dX4_readRule_56 : decode cX4_readRule 56 = .ok (.goto 4, 3) := by decide +kernel
theorem dX4_readRule_59 : decode cX4_readRule 59 = .ok (.iconst 0, 1) := by decide +kernel
theorem dX4_readRule_60 : decode cX4_readRule 60 = .ok (.ireturn, 1) := by decide +kernel
theorem dX4_isNumber_0 : decode cX4_isNumber 0 = .ok (.aload_n 0, 1) := by decide +kernel
theorem dX4_isNumber_1 : decode cX4_isNumber 1 = .ok (.getfield 14, 3) := by decide +kernel
theorem dX4_isNumber_4 : decode cX4_isNumber 4 = .ok (.getfield 50, 3) := by decide +kernel
theorem dX4_isNumber_7 : decode cX4_isNumber 7 = .ok (.iconst 2, 1) := by decide +kernel
theorem dX4_isNumber_8 : decode cX4_isNumber 8 = .ok (.if_icmp .eq 9, 3) := by decide +kernel
theorem dX4_isNumber_11 : decode cX4_isNumber 11 = .ok (.aload_n 0, 1) := by decide +kernel
theorem dX4_isNumber_12 : decode cX4_isNumber 12 = .ok (.iconst 1, 1) := by decide +kernel
theorem dX4_isNumber_13 : decode cX4_isNumber 13 = .ok (.invokevirtual 57, 3) := by decide +kernel
theorem dX4_isNumber_16 : decode cX4_isNumber 16 = .ok (.ireturn, 1) := by decide +kernel
theorem dX4_isNumber_17 : decode cX4_isNumber 17 = .ok (.aload_n 0, 1) := by decide +kernel
theorem dX4_isNumber_18 : decode cX4_isNumber 18 = .ok (.getfield 14, 3) := by decide +kernel
theorem dX4_isNumber_21 : decode cX4_isNumber 21 = .ok (.getfield 164, 3) := by decide +kernel
theorem dX4_isNumber_24 : decode cX4_isNumber 24 = .ok (.ifCond .eq 11, 3) := by decide +kernel
theorem dX4_isNumber_27 : decode cX4_isNumber 27 = .ok (.aload_n 0, 1) := by decide +kernel
theorem dX4_isNumber_28 : decode cX4_isNumber 28 = .ok (.iconst 2, 1) := by decide +kernel
theorem dX4_isNumber_29 : decode cX4_isNumber 29 = .ok (.invokevirtual 57, 3) := by decide +kernel
theorem dX4_isNumber_32 : decode cX4_isNumber 32 = .ok (.ifCond .eq 7, 3) := by decide +kernel
theorem dX4_isNumber_35 : decode cX4_isNumber 35 = .ok (.iconst 1, 1) := by decide +kernel
theorem dX4_isNumber_36 : decode cX4_isNumber 36 = .ok (.goto 4, 3) := by decide +kernel
theorem dX4_isNumber_39 : decode cX4_isNumber 39 = .ok (.iconst 0, 1) := by decide +kernel
theorem dX4_isNumber_40 : decode cX4_isNumber 40 = .ok (.ireturn, 1) := by decide +kernel
theorem dX4_takeNumber_0 : decode cX4_takeNumber 0 = .ok (.aload_n 0, 1) := by decide +kernel
theorem dX4_takeNumber_1 : decode cX4_takeNumber 1 = .ok (.invokevirtual 167, 3) := by decide +kernel
theorem dX4_takeNumber_4 : decode cX4_takeNumber 4 = .ok (.ifCond .ne 5, 3) := by decide +kernel
theorem dX4_takeNumber_7 : decode cX4_takeNumber 7 = .ok (.iconst 0, 1) := by decide +kernel
theorem dX4_takeNumber_8 : decode cX4_takeNumber 8 = .ok (.ireturn, 1) := by decide +kernel
theorem dX4_takeNumber_9 : decode cX4_takeNumber 9 = .ok (.aload_n 0, 1) := by decide +kernel
theorem dX4_takeNumber_10 : decode cX4_takeNumber 10 = .ok (.getfield 14, 3) := by decide +kernel
theorem dX4_takeNumber_13 : decode cX4_takeNumber 13 = .ok (.getfield 143, 3) := by decide +kernel
theorem dX4_takeNumber_16 : decode cX4_takeNumber 16 = .ok (.iload_n 1, 1) := by decide +kernel
theorem dX4_takeNumber_17 : decode cX4_takeNumber 17 = .ok (.if_icmp .lt 14, 3) := by decide +kernel
theorem dX4_takeNumber_20 : decode cX4_takeNumber 20 = .ok (.aload_n 0, 1) := by decide +kernel
theorem dX4_takeNumber_21 : decode cX4_takeNumber 21 = .ok (.getfield 14, 3) := by decide +kernel
theorem dX4_takeNumber_24 : decode cX4_takeNumber 24 = .ok (.getfield 143, 3) := by decide +kernel
theorem dX4_takeNumber_27 : decode cX4_takeNumber 27 = .ok (.iload_n 2, 1) := by decide +kernel
theorem dX4_takeNumber_28 : decode cX4_takeNumber 28 = .ok (.if_icmp .le 9, 3) := by decide +kernel
theorem dX4_takeNumber_31 : decode cX4_takeNumber 31 = .ok (.aload_n 0, 1) := by decide +kernel
theorem dX4_takeNumber_32 : decode cX4_takeNumber 32 = .ok (.iconst 2, 1) := by decide +kernel
theorem dX4_takeNumber_33 : decode cX4_takeNumber 33 = .ok (.invokevirtual 57, 3) := by decide +kernel
theorem dX4_takeNumber_36 : decode cX4_takeNumber 36 = .ok (.ireturn, 1) := by decide +kernel
theorem dX4_takeNumber_37 : decode cX4_takeNumber 37 = .ok (.aload_n 0, 1) := by decide +kernel
theorem dX4_takeNumber_38 : decode cX4_takeNumber 38 = .ok (.aload_n 0, 1) := by decide +kernel
theorem dX4_takeNumber_39 : decode cX4_takeNumber 39 = .ok (.getfield 14, 3) := by decide +kernel
theorem dX4_takeNumber_42 : decode cX4_takeNumber 42 = .ok (.getfield 143, 3) := by decide +kernel
theorem dX4_takeNumber_45 : decode cX4_takeNumber 45 = .ok (.putfield 114, 3) := by decide +kernel
theorem dX4_takeNumber_48 : decode cX4_takeNumber 48 = .ok (.aload_n 0, 1) := by decide +kernel
theorem dX4_takeNumber_49 : decode cX4_takeNumber 49 = .ok (.getfield 14, 3) := by decide +kernel
theorem dX4_takeNumber_52 : decode cX4_takeNumber 52 = .ok (.invokevirtual 103, 3) := by decide +kernel
theorem dX4_takeNumber_55 : decode cX4_takeNumber 55 = .ok (.iconst 1, 1) := by decide +kernel
theorem dX4_takeNumber_56 : decode cX4_takeNumber 56 = .ok (.ireturn, 1) := by decide +kernel
theorem dX4_isKnown_0 : decode cX4_isKnown 0 = .ok (.aload_n 0, 1) := by decide +kernel
theorem dX4_isKnown_1 : decode cX4_isKnown 1 = .ok (.invokevirtual 167, 3) := by decide +kernel
theorem dX4_isKnown_4 : decode cX4_isKnown 4 = .ok (.ifCond .eq 26, 3) := by decide +kernel
theorem dX4_isKnown_7 : decode cX4_isKnown 7 = .ok (.aload_n 0, 1) := by decide +kernel
theorem dX4_isKnown_8 : decode cX4_isKnown 8 = .ok (.getfield 14, 3) := by decide +kernel
theorem dX4_isKnown_11 : decode cX4_isKnown 11 = .ok (.getfield 143, 3) := by decide +kernel
theorem dX4_isKnown_14 : decode cX4_isKnown 14 = .ok (.iload_n 1, 1) := by decide +kernel
theorem dX4_isKnown_15 : decode cX4_isKnown 15 = .ok (.if_icmp .lt 11, 3) := by decide +kernel
theorem dX4_isKnown_18 : decode cX4_isKnown 18 = .ok (.aload_n 0, 1) := by decide +kernel
theorem dX4_isKnown_19 : decode cX4_isKnown 19 = .ok (.iconst 3, 1) := by decide +kernel
theorem dX4_isKnown_20 : decode cX4_isKnown 20 = .ok (.invokevirtual 57, 3) := by decide +kernel
theorem dX4_isKnown_23 : decode cX4_isKnown 23 = .ok (.ifCond .eq 7, 3) := by decide +kernel
theorem dX4_isKnown_26 : decode cX4_isKnown 26 = .ok (.iconst 1, 1) := by decide +kernel
theorem dX4_isKnown_27 : decode cX4_isKnown 27 = .ok (.goto 4, 3) := by decide +kernel
theorem dX4_isKnown_30 : decode cX4_isKnown 30 = .ok (.iconst 0, 1) := by decide +kernel
theorem dX4_isKnown_31 : decode cX4_isKnown 31 = .ok (.ireturn, 1) := by decide +kernel
theorem dX4_takeKnown_0 : decode cX4_takeKnown 0 = .ok (.aload_n 0, 1) := by decide +kernel
theorem dX4_takeKnown_1 : decode cX4_takeKnown 1 = .ok (.iload_n 1, 1) := by decide +kernel
theorem dX4_takeKnown_2 : decode cX4_takeKnown 2 = .ok (.invokevirtual 140, 3) := by decide +kernel
theorem dX4_takeKnown_5 : decode cX4_takeKnown 5 = .ok (.ifCond .ne 5, 3) := by decide +kernel
theorem dX4_takeKnown_8 : decode cX4_takeKnown 8 = .ok (.iconst 0, 1) := by decide +kernel
theorem dX4_takeKnown_9 : decode cX4_takeKnown 9 = .ok (.ireturn, 1) := by decide +kernel
theorem dX4_takeKnown_10 : decode cX4_takeKnown 10 = .ok (.aload_n 0, 1) := by decide +kernel
theorem dX4_takeKnown_11 : decode cX4_takeKnown 11 = .ok (.aload_n 0, 1) := by decide +kernel
theorem dX4_takeKnown_12 : decode cX4_takeKnown 12 = .ok (.getfield 14, 3) := by decide +kernel
theorem dX4_takeKnown_15 : decode cX4_takeKnown 15 = .ok (.getfield 143, 3) := by decide +kernel
theorem dX4_takeKnown_18 : decode cX4_takeKnown 18 = .ok (.putfield 114, 3) := by decide +kernel
theorem dX4_takeKnown_21 : decode cX4_takeKnown 21 = .ok (.aload_n 0, 1) := by decide +kernel
theorem dX4_takeKnown_22 : decode cX4_takeKnown 22 = .ok (.getfield 14, 3) := by decide +kernel
theorem dX4_takeKnown_25 : decode cX4_takeKnown 25 = .ok (.invokevirtual 103, 3) := by decide +kernel
theorem dX4_takeKnown_28 : decode cX4_takeKnown 28 = .ok (.iconst 1, 1) := by decide +kernel
theorem dX4_takeKnown_29 : decode cX4_takeKnown 29 = .ok (.ireturn, 1) := by decide +kernel
theorem dX4_takeSign_0 : decode cX4_takeSign 0 = .ok (.aload_n 0, 1) := by decide +kernel
theorem dX4_takeSign_1 : decode cX4_takeSign 1 = .ok (.getfield 14, 3) := by decide +kernel
theorem dX4_takeSign_4 : decode cX4_takeSign 4 = .ok (.getfield 170, 3) := by decide +kernel
theorem dX4_takeSign_7 : decode cX4_takeSign 7 = .ok (.iload_n 1, 1) := by decide +kernel
theorem dX4_takeSign_8 : decode cX4_takeSign 8 = .ok (.if_icmp .eq 9, 3) := by decide +kernel
theorem dX4_takeSign_11 : decode cX4_takeSign 11 = .ok (.aload_n 0, 1) := by decide +kernel
theorem dX4_takeSign_12 : decode cX4_takeSign 12 = .ok (.iconst 1, 1) := by decide +kernel
theorem dX4_takeSign_13 : decode cX4_takeSign 13 = .ok (.invokevirtual 57, 3) := by decide +kernel
theorem dX4_takeSign_16 : decode cX4_takeSign 16 = .ok (.ireturn, 1) := by decide +kernel
theorem dX4_takeSign_17 : decode cX4_takeSign 17 = .ok (.aload_n 0, 1) := by decide +kernel
theorem dX4_takeSign_18 : decode cX4_takeSign 18 = .ok (.getfield 14, 3) := by decide +kernel
theorem dX4_takeSign_21 : decode cX4_takeSign 21 = .ok (.invokevirtual 103, 3) := by decide +kernel
theorem dX4_takeSign_24 : decode cX4_takeSign 24 = .ok (.iconst 1, 1) := by decide +kernel
theorem dX4_takeSign_25 : decode cX4_takeSign 25 = .ok (.ireturn, 1) := by decide +kernel
theorem dX4_readEither_0 : decode cX4_readEither 0 = .ok (.iload_n 1, 1) := by decide +kernel
theorem dX4_readEither_1 : decode cX4_readEither 1 = .ok (.bipush 6, 2) := by decide +kernel
theorem dX4_readEither_3 : decode cX4_readEither 3 = .ok (.if_icmp .lt 20, 3) := by decide +kernel
theorem dX4_readEither_6 : decode cX4_readEither 6 = .ok (.aload_n 0, 1) := by decide +kernel
theorem dX4_readEither_7 : decode cX4_readEither 7 = .ok (.aload_n 0, 1) := by decide +kernel
theorem dX4_readEither_8 : decode cX4_readEither 8 = .ok (.invokevirtual 173, 3) := by decide +kernel
theorem dX4_readEither_11 : decode cX4_readEither 11 = .ok (.ifCond .eq 7, 3) := by decide +kernel
theorem dX4_readEither_14 : decode cX4_readEither 14 = .ok (.iconst 2, 1) := by decide +kernel
theorem dX4_readEither_15 : decode cX4_readEither 15 = .ok (.goto 4, 3) := by decide +kernel
theorem dX4_readEither_18 : decode cX4_readEither 18 = .ok (.iconst 1, 1) := by decide +kernel
theorem dX4_readEither_19 : decode cX4_readEither 19 = .ok (.invokevirtual 57, 3) := by decide +kernel
theorem dX4_readEither_22 : decode cX4_readEither 22 = .ok (.ireturn, 1) := by decide +kernel
theorem dX4_readEither_23 : decode cX4_readEither 23 = .ok (.aload_n 0, 1) := by decide +kernel
theorem dX4_readEither_24 : decode cX4_readEither 24 = .ok (.iload_n 1, 1) := by decide +kernel
theorem dX4_readEither_25 : decode cX4_readEither 25 = .ok (.invokevirtual 176, 3) := by decide +kernel
theorem dX4_readEither_28 : decode cX4_readEither 28 = .ok (.istore_n 2, 1) := by decide +kernel
theorem dX4_readEither_29 : decode cX4_readEither 29 = .ok (.iconst 0, 1) := by decide +kernel
theorem dX4_readEither_30 : decode cX4_readEither 30 = .ok (.istore_n 3, 1) := by decide +kernel
theorem dX4_readEither_31 : decode cX4_readEither 31 = .ok (.iload_n 3, 1) := by decide +kernel
theorem dX4_readEither_32 : decode cX4_readEither 32 = .ok (.sipush 700, 3) := by decide +kernel
theorem dX4_readEither_35 : decode cX4_readEither 35 = .ok (.if_icmp .ge 48, 3) := by decide +kernel
theorem dX4_readEither_38 : decode cX4_readEither 38 = .ok (.iload_n 2, 1) := by decide +kernel
theorem dX4_readEither_39 : decode cX4_readEither 39 = .ok (.ifCond .eq 44, 3) := by decide +kernel
theorem dX4_readEither_42 : decode cX4_readEither 42 = .ok (.aload_n 0, 1) := by decide +kernel
theorem dX4_readEither_43 : decode cX4_readEither 43 = .ok (.getfield 14, 3) := by decide +kernel
theorem dX4_readEither_46 : decode cX4_readEither 46 = .ok (.getfield 53, 3) := by decide +kernel
theorem dX4_readEither_49 : decode cX4_readEither 49 = .ok (.getstatic 179, 3) := by decide +kernel
theorem dX4_readEither_52 : decode cX4_readEither 52 = .ok (.if_acmp .ne 31, 3) := by decide +kernel
theorem dX4_readEither_55 : decode cX4_readEither 55 = .ok (.aload_n 0, 1) := by decide +kernel
theorem dX4_readEither_56 : decode cX4_readEither 56 = .ok (.getfield 14, 3) := by decide +kernel
theorem dX4_readEither_59 : decode cX4_readEither 59 = .ok (.invokevirtual 103, 3) := by decide +kernel
theorem dX4_readEither_62 : decode cX4_readEither 62 = .ok (.aload_n 0, 1) := by decide +kernel
theorem dX4_readEither_63 : decode cX4_readEither 63 = .ok (.iload_n 1, 1) := by decide +kernel
theorem dX4_readEither_64 : decode cX4_readEither 64 = .ok (.invokevirtual 176, 3) := by decide +kernel
theorem dX4_readEither_67 : decode cX4_readEither 67 = .ok (.istore_n 2, 1) := by decide +kernel
theorem dX4_readEither_68 : decode cX4_readEither 68 = .ok (.aload_n 0, 1) := by decide +kernel
theorem dX4_readEither_69 : decode cX4_readEither 69 = .ok (.getfield 36, 3) := by decide +kernel
theorem dX4_readEither_72 : decode cX4_readEither 72 = .ok (.bipush (-9), 2) := by decide +kernel
theorem dX4_readEither_74 : decode cX4_readEither 74 = .ok (.invokevirtual 182, 3) := by decide +kernel
theorem dX4_readEither_77 : decode cX4_readEither 77 = .ok (.iinc 3 1, 3) := by decide +kernel
theorem dX4_readEither_80 : decode cX4_readEither 80 = .ok (.goto (-49), 3) := by decide +kernel
theorem dX4_readEither_83 : decode cX4_readEither 83 = .ok (.iload_n 2, 1) := by decide +kernel
theorem dX4_readEither_84 : decode cX4_readEither 84 = .ok (.ireturn, 1) := by decide +kernel
theorem dX4_startsExpression_0 : decode cX4_startsExpression 0 = .ok (.aload_n 0, 1) := by decide +kernel
theorem dX4_startsExpression_1 : decode cX4_startsExpression 1 = .ok (.getfield 14, 3) := by decide +kernel
theorem dX4_startsExpression_4 : decode cX4_startsExpression 4 = .ok (.getfield 50, 3) := by decide +kernel
theorem dX4_startsExpression_7 : decode cX4_startsExpression 7 = .ok (.iconst 2, 1) := by decide +kernel
theorem dX4_startsExpression_8 : decode cX4_startsExpression 8 = .ok (.if_icmp .eq 26, 3) := by decide +kernel
theorem dX4_startsExpression_11 : decode cX4_startsExpression 11 = .ok (.aload_n 0, 1) := by decide +kernel
theorem dX4_startsExpression_12 : decode cX4_startsExpression 12 = .ok (.getfield 14, 3) := by decide +kernel
theorem dX4_startsExpression_15 : decode cX4_startsExpression 15 = .ok (.getfield 50, 3) := by decide +kernel
theorem dX4_startsExpression_18 : decode cX4_startsExpression 18 = .ok (.iconst 1, 1) := by decide +kernel
theorem dX4_startsExpression_19 : decode cX4_startsExpression 19 = .ok (.if_icmp .eq 15, 3) := by decide +kernel
theorem dX4_startsExpression_22 : decode cX4_startsExpression 22 = .ok (.aload_n 0, 1) := by decide +kernel
theorem dX4_startsExpression_23 : decode cX4_startsExpression 23 = .ok (.getfield 14, 3) := by decide +kernel
theorem dX4_startsExpression_26 : decode cX4_startsExpression 26 = .ok (.getfield 170, 3) := by decide +kernel
theorem dX4_startsExpression_29 : decode cX4_startsExpression 29 = .ok (.bipush 40, 2) := by decide +kernel
theorem dX4_startsExpression_31 : decode cX4_startsExpression 31 = .ok (.if_icmp .ne 7, 3) := by decide +kernel
theorem dX4_startsExpression_34 : decode cX4_startsExpression 34 = .ok (.iconst 1, 1) := by decide +kernel
theorem dX4_startsExpression_35 : decode cX4_startsExpression 35 = .ok (.goto 4, 3) := by decide +kernel
theorem dX4_startsExpression_38 : decode cX4_startsExpression 38 = .ok (.iconst 0, 1) := by decide +kernel
theorem dX4_startsExpression_39 : decode cX4_startsExpression 39 = .ok (.ireturn, 1) := by decide +kernel
theorem dX4_readBoth_0 : decode cX4_readBoth 0 = .ok (.aload_n 0, 1) := by decide +kernel
theorem dX4_readBoth_1 : decode cX4_readBoth 1 = .ok (.iload_n 1, 1) := by decide +kernel
theorem dX4_readBoth_2 : decode cX4_readBoth 2 = .ok (.invokevirtual 185, 3) := by decide +kernel
theorem dX4_readBoth_5 : decode cX4_readBoth 5 = .ok (.istore_n 2, 1) := by decide +kernel
theorem dX4_readBoth_6 : decode cX4_readBoth 6 = .ok (.iconst 0, 1) := by decide +kernel
theorem dX4_readBoth_7 : decode cX4_readBoth 7 = .ok (.istore_n 3, 1) := by decide +kernel
theorem dX4_readBoth_8 : decode cX4_readBoth 8 = .ok (.iload_n 3, 1) := by decide +kernel
theorem dX4_readBoth_9 : decode cX4_readBoth 9 = .ok (.sipush 700, 3) := by decide +kernel
theorem dX4_readBoth_12 : decode cX4_readBoth 12 = .ok (.if_icmp .ge 48, 3) := by decide +kernel
theorem dX4_readBoth_15 : decode cX4_readBoth 15 = .ok (.iload_n 2, 1) := by decide +kernel
theorem dX4_readBoth_16 : decode cX4_readBoth 16 = .ok (.ifCond .eq 44, 3) := by decide +kernel
theorem dX4_readBoth_19 : decode cX4_readBoth 19 = .ok (.aload_n 0, 1) := by decide +kernel
theorem dX4_readBoth_20 : decode cX4_readBoth 20 = .ok (.getfield 14, 3) := by decide +kernel
theorem dX4_readBoth_23 : decode cX4_readBoth 23 = .ok (.getfield 53, 3) := by decide +kernel
theorem dX4_readBoth_26 : decode cX4_readBoth 26 = .ok (.getstatic 188, 3) := by decide +kernel
theorem dX4_readBoth_29 : decode cX4_readBoth 29 = .ok (.if_acmp .ne 31, 3) := by decide +kernel
theorem dX4_readBoth_32 : decode cX4_readBoth 32 = .ok (.aload_n 0, 1) := by decide +kernel
theorem dX4_readBoth_33 : decode cX4_readBoth 33 = .ok (.getfield 14, 3) := by decide +kernel
theorem dX4_readBoth_36 : decode cX4_readBoth 36 = .ok (.invokevirtual 103, 3) := by decide +kernel
theorem dX4_readBoth_39 : decode cX4_readBoth 39 = .ok (.aload_n 0, 1) := by decide +kernel
theorem dX4_readBoth_40 : decode cX4_readBoth 40 = .ok (.iload_n 1, 1) := by decide +kernel
theorem dX4_readBoth_41 : decode cX4_readBoth 41 = .ok (.invokevirtual 185, 3) := by decide +kernel
theorem dX4_readBoth_44 : decode cX4_readBoth 44 = .ok (.istore_n 2, 1) := by decide +kernel
theorem dX4_readBoth_45 : decode cX4_readBoth 45 = .ok (.aload_n 0, 1) := by decide +kernel
theorem dX4_readBoth_46 : decode cX4_readBoth 46 = .ok (.getfield 36, 3) := by decide +kernel
theorem dX4_readBoth_49 : decode cX4_readBoth 49 = .ok (.bipush (-10), 2) := by decide +kernel
theorem dX4_readBoth_51 : decode cX4_readBoth 51 = .ok (.invokevirtual 182, 3) := by decide +kernel
theorem dX4_readBoth_54 : decode cX4_readBoth 54 = .ok (.iinc 3 1, 3) := by decide +kernel
theorem dX4_readBoth_57 : decode cX4_readBoth 57 = .ok (.goto (-49), 3) := by decide +kernel
theorem dX4_readBoth_60 : decode cX4_readBoth 60 = .ok (.iload_n 2, 1) := by decide +kernel
theorem dX4_readBoth_61 : decode cX4_readBoth 61 = .ok (.ireturn, 1) := by decide +kernel
theorem dX4_readNot_0 : decode cX4_readNot 0 = .ok (.iconst 0, 1) := by decide +kernel
theorem dX4_readNot_1 : decode cX4_readNot 1 = .ok (.istore_n 2, 1) := by decide +kernel
theorem dX4_readNot_2 : decode cX4_readNot 2 = .ok (.iload_n 2, 1) := by decide +kernel
theorem dX4_readNot_3 : decode cX4_readNot 3 = .ok (.bipush 6, 2) := by decide +kernel
theorem dX4_readNot_5 : decode cX4_readNot 5 = .ok (.if_icmp .ge 29, 3) := by decide +kernel
theorem dX4_readNot_8 : decode cX4_readNot 8 = .ok (.aload_n 0, 1) := by decide +kernel
theorem dX4_readNot_9 : decode cX4_readNot 9 = .ok (.getfield 14, 3) := by decide +kernel
theorem dX4_readNot_12 : decode cX4_readNot 12 = .ok (.getfield 53, 3) := by decide +kernel
theorem dX4_readNot_15 : decode cX4_readNot 15 = .ok (.getstatic 191, 3) := by decide +kernel
theorem dX4_readNot_18 : decode cX4_readNot 18 = .ok (.if_acmp .ne 16, 3) := by decide +kernel
theorem dX4_readNot_21 : decode cX4_readNot 21 = .ok (.iinc 2 1, 3) := by decide +kernel
theorem dX4_readNot_24 : decode cX4_readNot 24 = .ok (.aload_n 0, 1) := by decide +kernel
theorem dX4_readNot_25 : decode cX4_readNot 25 = .ok (.getfield 14, 3) := by decide +kernel
theorem dX4_readNot_28 : decode cX4_readNot 28 = .ok (.invokevirtual 103, 3) := by decide +kernel
theorem dX4_readNot_31 : decode cX4_readNot 31 = .ok (.goto (-29), 3) := by decide +kernel
theorem dX4_readNot_34 : decode cX4_readNot 34 = .ok (.aload_n 0, 1) := by decide +kernel
theorem dX4_readNot_35 : decode cX4_readNot 35 = .ok (.getfield 14, 3) := by decide +kernel
theorem dX4_readNot_38 : decode cX4_readNot 38 = .ok (.getfield 53, 3) := by decide +kernel
theorem dX4_readNot_41 : decode cX4_readNot 41 = .ok (.getstatic 191, 3) := by decide +kernel
theorem dX4_readNot_44 : decode cX4_readNot 44 = .ok (.if_acmp .ne 9, 3) := by decide +kernel
theorem dX4_readNot_47 : decode cX4_readNot 47 = .ok (.aload_n 0, 1) := by decide +kernel
theorem dX4_readNot_48 : decode cX4_readNot 48 = .ok (.iconst 2, 1) := by decide +kernel
theorem dX4_readNot_49 : decode cX4_readNot 49 = .ok (.invokevirtual 57, 3) := by decide +kernel
theorem dX4_readNot_52 : decode cX4_readNot 52 = .ok (.ireturn, 1) := by decide +kernel
theorem dX4_readNot_53 : decode cX4_readNot 53 = .ok (.aload_n 0, 1) := by decide +kernel
theorem dX4_readNot_54 : decode cX4_readNot 54 = .ok (.iload_n 1, 1) := by decide +kernel
theorem dX4_readNot_55 : decode cX4_readNot 55 = .ok (.invokevirtual 194, 3) := by decide +kernel
theorem dX4_readNot_58 : decode cX4_readNot 58 = .ok (.istore_n 3, 1) := by decide +kernel
theorem dX4_readNot_59 : decode cX4_readNot 59 = .ok (.iconst 0, 1) := by decide +kernel
theorem dX4_readNot_60 : decode cX4_readNot 60 = .ok (.istore 4, 2) := by decide +kernel
theorem dX4_readNot_62 : decode cX4_readNot 62 = .ok (.iload 4, 2) := by decide +kernel
theorem dX4_readNot_64 : decode cX4_readNot 64 = .ok (.iload_n 2, 1) := by decide +kernel
theorem dX4_readNot_65 : decode cX4_readNot 65 = .ok (.if_icmp .ge 18, 3) := by decide +kernel
theorem dX4_readNot_68 : decode cX4_readNot 68 = .ok (.aload_n 0, 1) := by decide +kernel
theorem dX4_readNot_69 : decode cX4_readNot 69 = .ok (.getfield 36, 3) := by decide +kernel
theorem dX4_readNot_72 : decode cX4_readNot 72 = .ok (.bipush (-11), 2) := by decide +kernel
theorem dX4_readNot_74 : decode cX4_readNot 74 = .ok (.invokevirtual 182, 3) := by decide +kernel
theorem dX4_readNot_77 : decode cX4_readNot 77 = .ok (.iinc 4 1, 3) := by decide +kernel
theorem dX4_readNot_80 : decode cX4_readNot 80 = .ok (.goto (-18), 3) := by decide +kernel
theorem dX4_readNot_83 : decode cX4_readNot 83 = .ok (.iload_n 3, 1) := by decide +kernel
theorem dX4_readNot_84 : decode cX4_readNot 84 = .ok (.ireturn, 1) := by decide +kernel
theorem dX4_readTest_0 : decode cX4_readTest 0 = .ok (.aload_n 0, 1) := by decide +kernel
theorem dX4_readTest_1 : decode cX4_readTest 1 = .ok (.iload_n 1, 1) := by decide +kernel
theorem dX4_readTest_2 : decode cX4_readTest 2 = .ok (.invokevirtual 197, 3) := by decide +kernel
theorem dX4_readTest_5 : decode cX4_readTest 5 = .ok (.ifCond .ne 5, 3) := by decide +kernel
theorem dX4_readTest_8 : decode cX4_readTest 8 = .ok (.iconst 0, 1) := by decide +kernel
theorem dX4_readTest_9 : decode cX4_readTest 9 = .ok (.ireturn, 1) := by decide +kernel
theorem dX4_readTest_10 : decode cX4_readTest 10 = .ok (.aload_n 0, 1) := by decide +kernel
theorem dX4_readTest_11 : decode cX4_readTest 11 = .ok (.getfield 14, 3) := by decide +kernel
theorem dX4_readTest_14 : decode cX4_readTest 14 = .ok (.getfield 170, 3) := by decide +kernel
theorem dX4_readTest_17 : decode cX4_readTest 17 = .ok (.istore_n 2, 1) := by decide +kernel
theorem dX4_readTest_18 : decode cX4_readTest 18 = .ok (.iload_n 2, 1) := by decide +kernel
theorem dX4_readTest_19 : decode cX4_readTest 19 = .ok (.bipush 60, 2) := by decide +kernel
theorem dX4_readTest_21 : decode cX4_readTest 21 = .ok (.if_icmp .eq 11, 3) := by decide +kernel
theorem dX4_readTest_24 : decode cX4_readTest 24 = .ok (.iload_n 2, 1) := by decide +kernel
theorem dX4_readTest_25 : decode cX4_readTest 25 = .ok (.bipush 61, 2) := by decide +kernel
theorem dX4_readTest_27 : decode cX4_readTest 27 = .ok (.if_icmp .eq 5, 3) := by decide +kernel
theorem dX4_readTest_30 : decode cX4_readTest 30 = .ok (.iconst 1, 1) := by decide +kernel
theorem dX4_readTest_31 : decode cX4_readTest 31 = .ok (.ireturn, 1) := by decide +kernel
theorem dX4_readTest_32 : decode cX4_readTest 32 = .ok (.aload_n 0, 1) := by decide +kernel
theorem dX4_readTest_33 : decode cX4_readTest 33 = .ok (.getfield 14, 3) := by decide +kernel
theorem dX4_readTest_36 : decode cX4_readTest 36 = .ok (.invokevirtual 103, 3) := by decide +kernel
theorem dX4_readTest_39 : decode cX4_readTest 39 = .ok (.aload_n 0, 1) := by decide +kernel
theorem dX4_readTest_40 : decode cX4_readTest 40 = .ok (.iload_n 1, 1) := by decide +kernel
theorem dX4_readTest_41 : decode cX4_readTest 41 = .ok (.invokevirtual 197, 3) := by decide +kernel
theorem dX4_readTest_44 : decode cX4_readTest 44 = .ok (.istore_n 3, 1) := by decide +kernel
theorem dX4_readTest_45 : decode cX4_readTest 45 = .ok (.aload_n 0, 1) := by decide +kernel
theorem dX4_readTest_46 : decode cX4_readTest 46 = .ok (.getfield 36, 3) := by decide +kernel
theorem dX4_readTest_49 : decode cX4_readTest 49 = .ok (.iload_n 2, 1) := by decide +kernel
theorem dX4_readTest_50 : decode cX4_readTest 50 = .ok (.bipush 60, 2) := by decide +kernel
theorem dX4_readTest_52 : decode cX4_readTest 52 = .ok (.if_icmp .ne 8, 3) := by decide +kernel
theorem dX4_readTest_55 : decode cX4_readTest 55 = .ok (.bipush (-12), 2) := by decide +kernel
theorem dX4_readTest_57 : decode cX4_readTest 57 = .ok (.goto 5, 3) := by decide +kernel
theorem dX4_readTest_60 : decode cX4_readTest 60 = .ok (.bipush (-13), 2) := by decide +kernel
theorem dX4_readTest_62 : decode cX4_readTest 62 = .ok (.invokevirtual 182, 3) := by decide +kernel
theorem dX4_readTest_65 : decode cX4_readTest 65 = .ok (.iload_n 3, 1) := by decide +kernel
theorem dX4_readTest_66 : decode cX4_readTest 66 = .ok (.ireturn, 1) := by decide +kernel
theorem dX4_readSum_0 : decode cX4_readSum 0 = .ok (.aload_n 0, 1) := by decide +kernel
theorem dX4_readSum_1 : decode cX4_readSum 1 = .ok (.iload_n 1, 1) := by decide +kernel
theorem dX4_readSum_2 : decode cX4_readSum 2 = .ok (.invokevirtual 200, 3) := by decide +kernel
theorem dX4_readSum_5 : decode cX4_readSum 5 = .ok (.istore_n 2, 1) := by decide +kernel
theorem dX4_readSum_6 : decode cX4_readSum 6 = .ok (.iconst 0, 1) := by decide +kernel
theorem dX4_readSum_7 : decode cX4_readSum 7 = .ok (.istore_n 3, 1) := by decide +kernel
theorem dX4_readSum_8 : decode cX4_readSum 8 = .ok (.iload_n 3, 1) := by decide +kernel
theorem dX4_readSum_9 : decode cX4_readSum 9 = .ok (.sipush 700, 3) := by decide +kernel
theorem dX4_readSum_12 : decode cX4_readSum 12 = .ok (.if_icmp .ge 80, 3) := by decide +kernel
theorem dX4_readSum_15 : decode cX4_readSum 15 = .ok (.iload_n 2, 1) := by decide +kernel
theorem dX4_readSum_16 : decode cX4_readSum 16 = .ok (.ifCond .eq 76, 3) := by decide +kernel
theorem dX4_readSum_19 : decode cX4_readSum 19 = .ok (.aload_n 0, 1) := by decide +kernel
theorem dX4_readSum_20 : decode cX4_readSum 20 = .ok (.getfield 14, 3) := by decide +kernel
theorem dX4_readSum_23 : decode cX4_readSum 23 = .ok (.getfield 170, 3) := by decide +kernel
theorem dX4_readSum_26 : decode cX4_readSum 26 = .ok (.bipush 43, 2) := by decide +kernel
theorem dX4_readSum_28 : decode cX4_readSum 28 = .ok (.if_icmp .eq 15, 3) := by decide +kernel
theorem dX4_readSum_31 : decode cX4_readSum 31 = .ok (.aload_n 0, 1) := by decide +kernel
theorem dX4_readSum_32 : decode cX4_readSum 32 = .ok (.getfield 14, 3) := by decide +kernel
theorem dX4_readSum_35 : decode cX4_readSum 35 = .ok (.getfield 170, 3) := by decide +kernel
theorem dX4_readSum_38 : decode cX4_readSum 38 = .ok (.bipush 45, 2) := by decide +kernel
theorem dX4_readSum_40 : decode cX4_readSum 40 = .ok (.if_icmp .ne 52, 3) := by decide +kernel
theorem dX4_readSum_43 : decode cX4_readSum 43 = .ok (.aload_n 0, 1) := by decide +kernel
theorem dX4_readSum_44 : decode cX4_readSum 44 = .ok (.getfield 14, 3) := by decide +kernel
theorem dX4_readSum_47 : decode cX4_readSum 47 = .ok (.getfield 170, 3) := by decide +kernel
theorem dX4_readSum_50 : decode cX4_readSum 50 = .ok (.bipush 43, 2) := by decide +kernel
theorem dX4_readSum_52 : decode cX4_readSum 52 = .ok (.if_icmp .ne 8, 3) := by decide +kernel
theorem dX4_readSum_55 : decode cX4_readSum 55 = .ok (.bipush (-14), 2) := by decide +kernel
theorem dX4_readSum_57 : decode cX4_readSum 57 = .ok (.goto 5, 3) := by decide +kernel
theorem dX4_readSum_60 : decode cX4_readSum 60 = .ok (.bipush (-15), 2) := by decide +kernel
theorem dX4_readSum_62 : decode cX4_readSum 62 = .ok (.istore 4, 2) := by decide +kernel
theorem dX4_readSum_64 : decode cX4_readSum 64 = .ok (.aload_n 0, 1) := by decide +kernel
theorem dX4_readSum_65 : decode cX4_readSum 65 = .ok (.getfield 14, 3) := by decide +kernel
theorem dX4_readSum_68 : decode cX4_readSum 68 = .ok (.invokevirtual 103, 3) := by decide +kernel
theorem dX4_readSum_71 : decode cX4_readSum 71 = .ok (.aload_n 0, 1) := by decide +kernel
theorem dX4_readSum_72 : decode cX4_readSum 72 = .ok (.iload_n 1, 1) := by decide +kernel
theorem dX4_readSum_73 : decode cX4_readSum 73 = .ok (.invokevirtual 200, 3) := by decide +kernel
theorem dX4_readSum_76 : decode cX4_readSum 76 = .ok (.istore_n 2, 1) := by decide +kernel
theorem dX4_readSum_77 : decode cX4_readSum 77 = .ok (.aload_n 0, 1) := by decide +kernel
theorem dX4_readSum_78 : decode cX4_readSum 78 = .ok (.getfield 36, 3) := by decide +kernel
theorem dX4_readSum_81 : decode cX4_readSum 81 = .ok (.iload 4, 2) := by decide +kernel
theorem dX4_readSum_83 : decode cX4_readSum 83 = .ok (.invokevirtual 182, 3) := by decide +kernel
theorem dX4_readSum_86 : decode cX4_readSum 86 = .ok (.iinc 3 1, 3) := by decide +kernel
theorem dX4_readSum_89 : decode cX4_readSum 89 = .ok (.goto (-81), 3) := by decide +kernel
theorem dX4_readSum_92 : decode cX4_readSum 92 = .ok (.iload_n 2, 1) := by decide +kernel
theorem dX4_readSum_93 : decode cX4_readSum 93 = .ok (.ireturn, 1) := by decide +kernel
theorem dX4_readProduct_0 : decode cX4_readProduct 0 = .ok (.aload_n 0, 1) := by decide +kernel
theorem dX4_readProduct_1 : decode cX4_readProduct 1 = .ok (.iload_n 1, 1) := by decide +kernel
theorem dX4_readProduct_2 : decode cX4_readProduct 2 = .ok (.invokevirtual 203, 3) := by decide +kernel
theorem dX4_readProduct_5 : decode cX4_readProduct 5 = .ok (.istore_n 2, 1) := by decide +kernel
theorem dX4_readProduct_6 : decode cX4_readProduct 6 = .ok (.iconst 0, 1) := by decide +kernel
theorem dX4_readProduct_7 : decode cX4_readProduct 7 = .ok (.istore_n 3, 1) := by decide +kernel
theorem dX4_readProduct_8 : decode cX4_readProduct 8 = .ok (.iload_n 3, 1) := by decide +kernel
theorem dX4_readProduct_9 : decode cX4_readProduct 9 = .ok (.sipush 700, 3) := by decide +kernel
theorem dX4_readProduct_12 : decode cX4_readProduct 12 = .ok (.if_icmp .ge 80, 3) := by decide +kernel
theorem dX4_readProduct_15 : decode cX4_readProduct 15 = .ok (.iload_n 2, 1) := by decide +kernel
theorem dX4_readProduct_16 : decode cX4_readProduct 16 = .ok (.ifCond .eq 76, 3) := by decide +kernel
theorem dX4_readProduct_19 : decode cX4_readProduct 19 = .ok (.aload_n 0, 1) := by decide +kernel
theorem dX4_readProduct_20 : decode cX4_readProduct 20 = .ok (.getfield 14, 3) := by decide +kernel
theorem dX4_readProduct_23 : decode cX4_readProduct 23 = .ok (.getfield 170, 3) := by decide +kernel
theorem dX4_readProduct_26 : decode cX4_readProduct 26 = .ok (.bipush 42, 2) := by decide +kernel
theorem dX4_readProduct_28 : decode cX4_readProduct 28 = .ok (.if_icmp .eq 15, 3) := by decide +kernel
theorem dX4_readProduct_31 : decode cX4_readProduct 31 = .ok (.aload_n 0, 1) := by decide +kernel
theorem dX4_readProduct_32 : decode cX4_readProduct 32 = .ok (.getfield 14, 3) := by decide +kernel
theorem dX4_readProduct_35 : decode cX4_readProduct 35 = .ok (.getfield 170, 3) := by decide +kernel
theorem dX4_readProduct_38 : decode cX4_readProduct 38 = .ok (.bipush 47, 2) := by decide +kernel
theorem dX4_readProduct_40 : decode cX4_readProduct 40 = .ok (.if_icmp .ne 52, 3) := by decide +kernel
theorem dX4_readProduct_43 : decode cX4_readProduct 43 = .ok (.aload_n 0, 1) := by decide +kernel
theorem dX4_readProduct_44 : decode cX4_readProduct 44 = .ok (.getfield 14, 3) := by decide +kernel
theorem dX4_readProduct_47 : decode cX4_readProduct 47 = .ok (.getfield 170, 3) := by decide +kernel
theorem dX4_readProduct_50 : decode cX4_readProduct 50 = .ok (.bipush 42, 2) := by decide +kernel
theorem dX4_readProduct_52 : decode cX4_readProduct 52 = .ok (.if_icmp .ne 8, 3) := by decide +kernel
theorem dX4_readProduct_55 : decode cX4_readProduct 55 = .ok (.bipush (-16), 2) := by decide +kernel
theorem dX4_readProduct_57 : decode cX4_readProduct 57 = .ok (.goto 5, 3) := by decide +kernel
theorem dX4_readProduct_60 : decode cX4_readProduct 60 = .ok (.bipush (-17), 2) := by decide +kernel
theorem dX4_readProduct_62 : decode cX4_readProduct 62 = .ok (.istore 4, 2) := by decide +kernel
theorem dX4_readProduct_64 : decode cX4_readProduct 64 = .ok (.aload_n 0, 1) := by decide +kernel
theorem dX4_readProduct_65 : decode cX4_readProduct 65 = .ok (.getfield 14, 3) := by decide +kernel
theorem dX4_readProduct_68 : decode cX4_readProduct 68 = .ok (.invokevirtual 103, 3) := by decide +kernel
theorem dX4_readProduct_71 : decode cX4_readProduct 71 = .ok (.aload_n 0, 1) := by decide +kernel
theorem dX4_readProduct_72 : decode cX4_readProduct 72 = .ok (.iload_n 1, 1) := by decide +kernel
theorem dX4_readProduct_73 : decode cX4_readProduct 73 = .ok (.invokevirtual 203, 3) := by decide +kernel
theorem dX4_readProduct_76 : decode cX4_readProduct 76 = .ok (.istore_n 2, 1) := by decide +kernel
theorem dX4_readProduct_77 : decode cX4_readProduct 77 = .ok (.aload_n 0, 1) := by decide +kernel
theorem dX4_readProduct_78 : decode cX4_readProduct 78 = .ok (.getfield 36, 3) := by decide +kernel
theorem dX4_readProduct_81 : decode cX4_readProduct 81 = .ok (.iload 4, 2) := by decide +kernel
theorem dX4_readProduct_83 : decode cX4_readProduct 83 = .ok (.invokevirtual 182, 3) := by decide +kernel
theorem dX4_readProduct_86 : decode cX4_readProduct 86 = .ok (.iinc 3 1, 3) := by decide +kernel
theorem dX4_readProduct_89 : decode cX4_readProduct 89 = .ok (.goto (-81), 3) := by decide +kernel
theorem dX4_readProduct_92 : decode cX4_readProduct 92 = .ok (.iload_n 2, 1) := by decide +kernel
theorem dX4_readProduct_93 : decode cX4_readProduct 93 = .ok (.ireturn, 1) := by decide +kernel
theorem dX4_readPart_0 : decode cX4_readPart 0 = .ok (.aload_n 0, 1) := by decide +kernel
theorem dX4_readPart_1 : decode cX4_readPart 1 = .ok (.getfield 14, 3) := by decide +kernel
theorem dX4_readPart_4 : decode cX4_readPart 4 = .ok (.getfield 170, 3) := by decide +kernel
theorem dX4_readPart_7 : decode cX4_readPart 7 = .ok (.bipush 40, 2) := by decide +kernel
theorem dX4_readPart_9 : decode cX4_readPart 9 = .ok (.if_icmp .ne 35, 3) := by decide +kernel
theorem dX4_readPart_12 : decode cX4_readPart 12 = .ok (.aload_n 0, 1) := by decide +kernel
theorem dX4_readPart_13 : decode cX4_readPart 13 = .ok (.getfield 14, 3) := by decide +kernel
theorem dX4_readPart_16 : decode cX4_readPart 16 = .ok (.invokevirtual 103, 3) := by decide +kernel
theorem dX4_readPart_19 : decode cX4_readPart 19 = .ok (.aload_n 0, 1) := by decide +kernel
theorem dX4_readPart_20 : decode cX4_readPart 20 = .ok (.iload_n 1, 1) := by decide +kernel
theorem dX4_readPart_21 : decode cX4_readPart 21 = .ok (.iconst 1, 1) := by decide +kernel
theorem dX4_readPart_22 : decode cX4_readPart 22 = .ok (.iadd, 1) := by decide +kernel
theorem dX4_readPart_23 : decode cX4_readPart 23 = .ok (.invokevirtual 161, 3) := by decide +kernel
theorem dX4_readPart_26 : decode cX4_readPart 26 = .ok (.ifCond .eq 16, 3) := by decide +kernel
theorem dX4_readPart_29 : decode cX4_readPart 29 = .ok (.aload_n 0, 1) := by decide +kernel
theorem dX4_readPart_30 : decode cX4_readPart 30 = .ok (.bipush 41, 2) := by decide +kernel
theorem dX4_readPart_32 : decode cX4_readPart 32 = .ok (.invokevirtual 127, 3) := by decide +kernel
theorem dX4_readPart_35 : decode cX4_readPart 35 = .ok (.ifCond .eq 7, 3) := by decide +kernel
theorem dX4_readPart_38 : decode cX4_readPart 38 = .ok (.iconst 1, 1) := by decide +kernel
theorem dX4_readPart_39 : decode cX4_readPart 39 = .ok (.goto 4, 3) := by decide +kernel
theorem dX4_readPart_42 : decode cX4_readPart 42 = .ok (.iconst 0, 1) := by decide +kernel
theorem dX4_readPart_43 : decode cX4_readPart 43 = .ok (.ireturn, 1) := by decide +kernel
theorem dX4_readPart_44 : decode cX4_readPart 44 = .ok (.aload_n 0, 1) := by decide +kernel
theorem dX4_readPart_45 : decode cX4_readPart 45 = .ok (.getfield 14, 3) := by decide +kernel
theorem dX4_readPart_48 : decode cX4_readPart 48 = .ok (.getfield 50, 3) := by decide +kernel
theorem dX4_readPart_51 : decode cX4_readPart 51 = .ok (.iconst 1, 1) := by decide +kernel
theorem dX4_readPart_52 : decode cX4_readPart 52 = .ok (.if_icmp .ne 45, 3) := by decide +kernel
theorem dX4_readPart_55 : decode cX4_readPart 55 = .ok (.aload_n 0, 1) := by decide +kernel
theorem dX4_readPart_56 : decode cX4_readPart 56 = .ok (.aload_n 0, 1) := by decide +kernel
theorem dX4_readPart_57 : decode cX4_readPart 57 = .ok (.getfield 14, 3) := by decide +kernel
theorem dX4_readPart_60 : decode cX4_readPart 60 = .ok (.getfield 53, 3) := by decide +kernel
theorem dX4_readPart_63 : decode cX4_readPart 63 = .ok (.invokevirtual 206, 3) := by decide +kernel
theorem dX4_readPart_66 : decode cX4_readPart 66 = .ok (.ifCond .ne 9, 3) := by decide +kernel
theorem dX4_readPart_69 : decode cX4_readPart 69 = .ok (.aload_n 0, 1) := by decide +kernel
theorem dX4_readPart_70 : decode cX4_readPart 70 = .ok (.iconst 3, 1) := by decide +kernel
theorem dX4_readPart_71 : decode cX4_readPart 71 = .ok (.invokevirtual 57, 3) := by decide +kernel
theorem dX4_readPart_74 : decode cX4_readPart 74 = .ok (.ireturn, 1) := by decide +kernel
theorem dX4_readPart_75 : decode cX4_readPart 75 = .ok (.aload_n 0, 1) := by decide +kernel
theorem dX4_readPart_76 : decode cX4_readPart 76 = .ok (.getfield 36, 3) := by decide +kernel
theorem dX4_readPart_79 : decode cX4_readPart 79 = .ok (.iconst (-1), 1) := by decide +kernel
theorem dX4_readPart_80 : decode cX4_readPart 80 = .ok (.aload_n 0, 1) := by decide +kernel
theorem dX4_readPart_81 : decode cX4_readPart 81 = .ok (.getfield 14, 3) := by decide +kernel
theorem dX4_readPart_84 : decode cX4_readPart 84 = .ok (.getfield 53, 3) := by decide +kernel
theorem dX4_readPart_87 : decode cX4_readPart 87 = .ok (.getfield 210, 3) := by decide +kernel
theorem dX4_readPart_90 : decode cX4_readPart 90 = .ok (.isub, 1) := by decide +kernel
theorem dX4_readPart_91 : decode cX4_readPart 91 = .ok (.invokevirtual 182, 3) := by decide +kernel
theorem dX4_readPart_94 : decode cX4_readPart 94 = .ok (.goto 26, 3) := by decide +kernel
theorem dX4_readPart_97 : decode cX4_readPart 97 = .ok (.aload_n 0, 1) := by decide +kernel
theorem dX4_readPart_98 : decode cX4_readPart 98 = .ok (.invokevirtual 167, 3) := by decide +kernel
theorem dX4_readPart_101 : decode cX4_readPart 101 = .ok (.ifCond .ne 5, 3) := by decide +kernel
theorem dX4_readPart_104 : decode cX4_readPart 104 = .ok (.iconst 0, 1) := by decide +kernel
theorem dX4_readPart_105 : decode cX4_readPart 105 = .ok (.ireturn, 1) := by decide +kernel
theorem dX4_readPart_106 : decode cX4_readPart 106 = .ok (.aload_n 0, 1) := by decide +kernel
theorem dX4_readPart_107 : decode cX4_readPart 107 = .ok (.getfield 36, 3) := by decide +kernel
theorem dX4_readPart_110 : decode cX4_readPart 110 = .ok (.aload_n 0, 1) := by decide +kernel
theorem dX4_readPart_111 : decode cX4_readPart 111 = .ok (.getfield 14, 3) := by decide +kernel
theorem dX4_readPart_114 : decode cX4_readPart 114 = .ok (.getfield 143, 3) := by decide +kernel
theorem dX4_readPart_117 : decode cX4_readPart 117 = .ok (.invokevirtual 182, 3) := by decide +kernel
theorem dX4_readPart_120 : decode cX4_readPart 120 = .ok (.aload_n 0, 1) := by decide +kernel
theorem dX4_readPart_121 : decode cX4_readPart 121 = .ok (.getfield 14, 3) := by decide +kernel
theorem dX4_readPart_124 : decode cX4_readPart 124 = .ok (.invokevirtual 103, 3) := by decide +kernel
theorem dX4_readPart_127 : decode cX4_readPart 127 = .ok (.iconst 1, 1) := by decide +kernel
theorem dX4_readPart_128 : decode cX4_readPart 128 = .ok (.ireturn, 1) := by decide +kernel
theorem dX4_isValue_0 : decode cX4_isValue 0 = .ok (.aload_n 1, 1) := by decide +kernel
theorem dX4_isValue_1 : decode cX4_isValue 1 = .ok (.ifnull 26, 3) := by decide +kernel
theorem dX4_isValue_4 : decode cX4_isValue 4 = .ok (.aload_n 1, 1) := by decide +kernel
theorem dX4_isValue_5 : decode cX4_isValue 5 = .ok (.getfield 210, 3) := by decide +kernel
theorem dX4_isValue_8 : decode cX4_isValue 8 = .ok (.iconst (-1), 1) := by decide +kernel
theorem dX4_isValue_9 : decode cX4_isValue 9 = .ok (.if_icmp .eq 18, 3) := by decide +kernel
theorem dX4_isValue_12 : decode cX4_isValue 12 = .ok (.aload_n 1, 1) := by decide +kernel
theorem dX4_isValue_13 : decode cX4_isValue 13 = .ok (.getfield 210, 3) := by decide +kernel
theorem dX4_isValue_16 : decode cX4_isValue 16 = .ok (.aload_n 0, 1) := by decide +kernel
theorem dX4_isValue_17 : decode cX4_isValue 17 = .ok (.getfield 158, 3) := by decide +kernel
theorem dX4_isValue_20 : decode cX4_isValue 20 = .ok (.if_icmp .ge 7, 3) := by decide +kernel
theorem dX4_isValue_23 : decode cX4_isValue 23 = .ok (.iconst 1, 1) := by decide +kernel
theorem dX4_isValue_24 : decode cX4_isValue 24 = .ok (.goto 4, 3) := by decide +kernel
theorem dX4_isValue_27 : decode cX4_isValue 27 = .ok (.iconst 0, 1) := by decide +kernel
theorem dX4_isValue_28 : decode cX4_isValue 28 = .ok (.ireturn, 1) := by decide +kernel
theorem dX5_init_0 : decode cX5_init 0 = .ok (.aload_n 0, 1) := by decide +kernel
theorem dX5_init_1 : decode cX5_init 1 = .ok (.invokespecial 3, 3) := by decide +kernel
theorem dX5_init_4 : decode cX5_init 4 = .ok (.aload_n 0, 1) := by decide +kernel
theorem dX5_init_5 : decode cX5_init 5 = .ok (.sipush 700, 3) := by decide +kernel
theorem dX5_init_8 : decode cX5_init 8 = .ok (.newarray .int, 2) := by decide +kernel
theorem dX5_init_10 : decode cX5_init 10 = .ok (.putfield 9, 3) := by decide +kernel
theorem dX5_init_13 : decode cX5_init 13 = .ok (.aload_n 0, 1) := by decide +kernel
theorem dX5_init_14 : decode cX5_init 14 = .ok (.bipush 40, 2) := by decide +kernel
theorem dX5_init_16 : decode cX5_init 16 = .ok (.newarray .int, 2) := by decide +kernel
theorem dX5_init_18 : decode cX5_init 18 = .ok (.putfield 15, 3) := by decide +kernel
theorem dX5_init_21 : decode cX5_init 21 = .ok (.return_, 1) := by decide +kernel
theorem dX5_clear_0 : decode cX5_clear 0 = .ok (.aload_n 0, 1) := by decide +kernel
theorem dX5_clear_1 : decode cX5_clear 1 = .ok (.iconst 0, 1) := by decide +kernel
theorem dX5_clear_2 : decode cX5_clear 2 = .ok (.putfield 18, 3) := by decide +kernel
theorem dX5_clear_5 : decode cX5_clear 5 = .ok (.aload_n 0, 1) := by decide +kernel
theorem dX5_clear_6 : decode cX5_clear 6 = .ok (.iconst 0, 1) := by decide +kernel
theorem dX5_clear_7 : decode cX5_clear 7 = .ok (.putfield 22, 3) := by decide +kernel
theorem dX5_clear_10 : decode cX5_clear 10 = .ok (.return_, 1) := by decide +kernel
theorem dX5_add_0 : decode cX5_add 0 = .ok (.aload_n 0, 1) := by decide +kernel
theorem dX5_add_1 : decode cX5_add 1 = .ok (.getfield 22, 3) := by decide +kernel
theorem dX5_add_4 : decode cX5_add 4 = .ok (.aload_n 0, 1) := by decide +kernel
theorem dX5_add_5 : decode cX5_add 5 = .ok (.getfield 9, 3) := by decide +kernel
theorem dX5_add_8 : decode cX5_add 8 = .ok (.arraylength, 1) := by decide +kernel
theorem dX5_add_9 : decode cX5_add 9 = .ok (.if_icmp .ge 23, 3) := by decide +kernel
theorem dX5_add_12 : decode cX5_add 12 = .ok (.aload_n 0, 1) := by decide +kernel
theorem dX5_add_13 : decode cX5_add 13 = .ok (.getfield 9, 3) := by decide +kernel
theorem dX5_add_16 : decode cX5_add 16 = .ok (.aload_n 0, 1) := by decide +kernel
theorem dX5_add_17 : decode cX5_add 17 = .ok (.getfield 22, 3) := by decide +kernel
theorem dX5_add_20 : decode cX5_add 20 = .ok (.iload_n 1, 1) := by decide +kernel
theorem dX5_add_21 : decode cX5_add 21 = .ok (.iastore, 1) := by decide +kernel
theorem dX5_add_22 : decode cX5_add 22 = .ok (.aload_n 0, 1) := by decide +kernel
theorem dX5_add_23 : decode cX5_add 23 = .ok (.dup, 1) := by decide +kernel
theorem dX5_add_24 : decode cX5_add 24 = .ok (.getfield 22, 3) := by decide +kernel
theorem dX5_add_27 : decode cX5_add 27 = .ok (.iconst 1, 1) := by decide +kernel
theorem dX5_add_28 : decode cX5_add 28 = .ok (.iadd, 1) := by decide +kernel
theorem dX5_add_29 : decode cX5_add 29 = .ok (.putfield 22, 3) := by decide +kernel
theorem dX5_add_32 : decode cX5_add 32 = .ok (.return_, 1) := by decide +kernel
theorem dX5_workOut_0 : decode cX5_workOut 0 = .ok (.iconst 0, 1) := by decide +kernel
theorem dX5_workOut_1 : decode cX5_workOut 1 = .ok (.istore_n 2, 1) := by decide +kernel
theorem dX5_workOut_2 : decode cX5_workOut 2 = .ok (.iconst 0, 1) := by decide +kernel
theorem dX5_workOut_3 : decode cX5_workOut 3 = .ok (.istore_n 3, 1) := by decide +kernel
theorem dX5_workOut_4 : decode cX5_workOut 4 = .ok (.iload_n 3, 1) := by decide +kernel
theorem dX5_workOut_5 : decode cX5_workOut 5 = .ok (.aload_n 0, 1) := by decide +kernel
theorem dX5_workOut_6 : decode cX5_workOut 6 = .ok (.getfield 22, 3) := by decide +kernel
theorem dX5_workOut_9 : decode cX5_workOut 9 = .ok (.if_icmp .ge 132, 3) := by decide +kernel
theorem dX5_workOut_12 : decode cX5_workOut 12 = .ok (.aload_n 0, 1) := by decide +kernel
theorem dX5_workOut_13 : decode cX5_workOut 13 = .ok (.getfield 9, 3) := by decide +kernel
theorem dX5_workOut_16 : decode cX5_workOut 16 = .ok (.iload_n 3, 1) := by decide +kernel
theorem dX5_workOut_17 : decode cX5_workOut 17 = .ok (.iaload, 1) := by decide +kernel
theorem dX5_workOut_18 : decode cX5_workOut 18 = .ok (.istore 4, 2) := by decide +kernel
theorem dX5_workOut_20 : decode cX5_workOut 20 = .ok (.iload 4, 2) := by decide +kernel
theorem dX5_workOut_22 : decode cX5_workOut 22 = .ok (.bipush (-8), 2) := by decide +kernel
theorem dX5_workOut_24 : decode cX5_workOut 24 = .ok (.if_icmp .lt 37, 3) := by decide +kernel
theorem dX5_workOut_27 : decode cX5_workOut 27 = .ok (.iload_n 2, 1) := by decide +kernel
theorem dX5_workOut_28 : decode cX5_workOut 28 = .ok (.bipush 40, 2) := by decide +kernel
theorem dX5_workOut_30 : decode cX5_workOut 30 = .ok (.if_icmp .ge 105, 3) := by decide +kernel
theorem dX5_workOut_33 : decode cX5_workOut 33 = .ok (.aload_n 0, 1) := by decide +kernel
theorem dX5_workOut_34 : decode cX5_workOut 34 = .ok (.getfield 15, 3) := by decide +kernel
theorem dX5_workOut_37 : decode cX5_workOut 37 = .ok (.iload_n 2, 1) := by decide +kernel
theorem dX5_workOut_38 : decode cX5_workOut 38 = .ok (.iload 4, 2) := by decide +kernel
theorem dX5_workOut_40 : decode cX5_workOut 40 = .ok (.ifCond .lt 8, 3) := by decide +kernel
theorem dX5_workOut_43 : decode cX5_workOut 43 = .ok (.iload 4, 2) := by decide +kernel
theorem dX5_workOut_45 : decode cX5_workOut 45 = .ok (.goto 9, 3) := by decide +kernel
theorem dX5_workOut_48 : decode cX5_workOut 48 = .ok (.aload_n 1, 1) := by decide +kernel
theorem dX5_workOut_49 : decode cX5_workOut 49 = .ok (.iconst (-1), 1) := by decide +kernel
theorem dX5_workOut_50 : decode cX5_workOut 50 = .ok (.iload 4, 2) := by decide +kernel
theorem dX5_workOut_52 : decode cX5_workOut 52 = .ok (.isub, 1) := by decide +kernel
theorem dX5_workOut_53 : decode cX5_workOut 53 = .ok (.iaload, 1) := by decide +kernel
theorem dX5_workOut_54 : decode cX5_workOut 54 = .ok (.iastore, 1) := by decide +kernel
theorem dX5_workOut_55 : decode cX5_workOut 55 = .ok (.iinc 2 1, 3) := by decide +kernel
theorem dX5_workOut_58 : decode cX5_workOut 58 = .ok (.goto 77, 3) := by decide +kernel
theorem dX5_workOut_61 : decode cX5_workOut 61 = .ok (.iload 4, 2) := by decide +kernel
theorem dX5_workOut_63 : decode cX5_workOut 63 = .ok (.bipush (-11), 2) := by decide +kernel
theorem dX5_workOut_65 : decode cX5_workOut 65 = .ok (.if_icmp .ne 35, 3) := by decide +kernel
theorem dX5_workOut_68 : decode cX5_workOut 68 = .ok (.iload_n 2, 1) := by decide +kernel
theorem dX5_workOut_69 : decode cX5_workOut 69 = .ok (.iconst 1, 1) := by decide +kernel
theorem dX5_workOut_70 : decode cX5_workOut 70 = .ok (.if_icmp .lt 65, 3) := by decide +kernel
theorem dX5_workOut_73 : decode cX5_workOut 73 = .ok (.aload_n 0, 1) := by decide +kernel
theorem dX5_workOut_74 : decode cX5_workOut 74 = .ok (.getfield 15, 3) := by decide +kernel
theorem dX5_workOut_77 : decode cX5_workOut 77 = .ok (.iload_n 2, 1) := by decide +kernel
theorem dX5_workOut_78 : decode cX5_workOut 78 = .ok (.iconst 1, 1) := by decide +kernel
theorem dX5_workOut_79 : decode cX5_workOut 79 = .ok (.isub, 1) := by decide +kernel
theorem dX5_workOut_80 : decode cX5_workOut 80 = .ok (.aload_n 0, 1) := by decide +kernel
theorem dX5_workOut_81 : decode cX5_workOut 81 = .ok (.getfield 15, 3) := by decide +kernel
theorem dX5_workOut_84 : decode cX5_workOut 84 = .ok (.iload_n 2, 1) := by decide +kernel
theorem dX5_workOut_85 : decode cX5_workOut 85 = .ok (.iconst 1, 1) := by decide +kernel
theorem dX5_workOut_86 : decode cX5_workOut 86 = .ok (.isub, 1) := by decide +kernel
theorem dX5_workOut_87 : decode cX5_workOut 87 = .ok (.iaload, 1) := by decide +kernel
theorem dX5_workOut_88 : decode cX5_workOut 88 = .ok (.ifCond .ne 7, 3) := by decide +kernel
theorem dX5_workOut_91 : decode cX5_workOut 91 = .ok (.iconst 1, 1) := by decide +kernel
theorem dX5_workOut_92 : decode cX5_workOut 92 = .ok (.goto 4, 3) := by decide +kernel
theorem dX5_workOut_95 : decode cX5_workOut 95 = .ok (.iconst 0, 1) := by decide +kernel
theorem dX5_workOut_96 : decode cX5_workOut 96 = .ok (.iastore, 1) := by decide +kernel
theorem dX5_workOut_97 : decode cX5_workOut 97 = .ok (.goto 38, 3) := by decide +kernel
theorem dX5_workOut_100 : decode cX5_workOut 100 = .ok (.iload_n 2, 1) := by decide +kernel
theorem dX5_workOut_101 : decode cX5_workOut 101 = .ok (.iconst 2, 1) := by decide +kernel
theorem dX5_workOut_102 : decode cX5_workOut 102 = .ok (.if_icmp .lt 33, 3) := by decide +kernel
theorem dX5_workOut_105 : decode cX5_workOut 105 = .ok (.iinc 2 (-1), 3) := by decide +kernel
theorem dX5_workOut_108 : decode cX5_workOut 108 = .ok (.aload_n 0, 1) := by decide +kernel
theorem dX5_workOut_109 : decode cX5_workOut 109 = .ok (.getfield 15, 3) := by decide +kernel
theorem dX5_workOut_112 : decode cX5_workOut 112 = .ok (.iload_n 2, 1) := by decide +kernel
theorem dX5_workOut_113 : decode cX5_workOut 113 = .ok (.iconst 1, 1) := by decide +kernel
theorem dX5_workOut_114 : decode cX5_workOut 114 = .ok (.isub, 1) := by decide +kernel
theorem dX5_workOut_115 : decode cX5_workOut 115 = .ok (.iload 4, 2) := by decide +kernel
theorem dX5_workOut_117 : decode cX5_workOut 117 = .ok (.aload_n 0, 1) := by decide +kernel
theorem dX5_workOut_118 : decode cX5_workOut 118 = .ok (.getfield 15, 3) := by decide +kernel
theorem dX5_workOut_121 : decode cX5_workOut 121 = .ok (.iload_n 2, 1) := by decide +kernel
theorem dX5_workOut_122 : decode cX5_workOut 122 = .ok (.iconst 1, 1) := by decide +kernel
theorem dX5_workOut_123 : decode cX5_workOut 123 = .ok (.isub, 1) := by decide +kernel
theorem dX5_workOut_124 : decode cX5_workOut 124 = .ok (.iaload, 1) := by decide +kernel
theorem dX5_workOut_125 : decode cX5_workOut 125 = .ok (.aload_n 0, 1) := by decide +kernel
theorem dX5_workOut_126 : decode cX5_workOut 126 = .ok (.getfield 15, 3) := by decide +kernel
theorem dX5_workOut_129 : decode cX5_workOut 129 = .ok (.iload_n 2, 1) := by decide +kernel
theorem dX5_workOut_130 : decode cX5_workOut 130 = .ok (.iaload, 1) := by decide +kernel
theorem dX5_workOut_131 : decode cX5_workOut 131 = .ok (.invokestatic 26, 3) := by decide +kernel
theorem dX5_workOut_134 : decode cX5_workOut 134 = .ok (.iastore, 1) := by decide +kernel
theorem dX5_workOut_135 : decode cX5_workOut 135 = .ok (.iinc 3 1, 3) := by decide +kernel
theorem dX5_workOut_138 : decode cX5_workOut 138 = .ok (.goto (-134), 3) := by decide +kernel
theorem dX5_workOut_141 : decode cX5_workOut 141 = .ok (.aload_n 0, 1) := by decide +kernel
theorem dX5_workOut_142 : decode cX5_workOut 142 = .ok (.getfield 15, 3) := by decide +kernel
theorem dX5_workOut_145 : decode cX5_workOut 145 = .ok (.iconst 0, 1) := by decide +kernel
theorem dX5_workOut_146 : decode cX5_workOut 146 = .ok (.iaload, 1) := by decide +kernel
theorem dX5_workOut_147 : decode cX5_workOut 147 = .ok (.ireturn, 1) := by decide +kernel
theorem dX5_joined_0 : decode cX5_joined 0 = .ok (.iload_n 0, 1) := by decide +kernel
theorem dX5_joined_1 : decode cX5_joined 1 = .ok (.tableswitch 109 (-16) (-9) #[105, 101, 97, 86, 75, 109, 61, 47], 47) := by decide +kernel
theorem dX5_joined_48 : decode cX5_joined 48 = .ok (.iload_n 1, 1) := by decide +kernel
theorem dX5_joined_49 : decode cX5_joined 49 = .ok (.ifCond .ne 7, 3) := by decide +kernel
theorem dX5_joined_52 : decode cX5_joined 52 = .ok (.iload_n 2, 1) := by decide +kernel
theorem dX5_joined_53 : decode cX5_joined 53 = .ok (.ifCond .eq 7, 3) := by decide +kernel
theorem dX5_joined_56 : decode cX5_joined 56 = .ok (.iconst 1, 1) := by decide +kernel
theorem dX5_joined_57 : decode cX5_joined 57 = .ok (.goto 4, 3) := by decide +kernel
theorem dX5_joined_60 : decode cX5_joined 60 = .ok (.iconst 0, 1) := by decide +kernel
theorem dX5_joined_61 : decode cX5_joined 61 = .ok (.ireturn, 1) := by decide +kernel
theorem dX5_joined_62 : decode cX5_joined 62 = .ok (.iload_n 1, 1) := by decide +kernel
theorem dX5_joined_63 : decode cX5_joined 63 = .ok (.ifCond .eq 11, 3) := by decide +kernel
theorem dX5_joined_66 : decode cX5_joined 66 = .ok (.iload_n 2, 1) := by decide +kernel
theorem dX5_joined_67 : decode cX5_joined 67 = .ok (.ifCond .eq 7, 3) := by decide +kernel
theorem dX5_joined_70 : decode cX5_joined 70 = .ok (.iconst 1, 1) := by decide +kernel
theorem dX5_joined_71 : decode cX5_joined 71 = .ok (.goto 4, 3) := by decide +kernel
theorem dX5_joined_74 : decode cX5_joined 74 = .ok (.iconst 0, 1) := by decide +kernel
theorem dX5_joined_75 : decode cX5_joined 75 = .ok (.ireturn, 1) := by decide +kernel
theorem dX5_joined_76 : decode cX5_joined 76 = .ok (.iload_n 1, 1) := by decide +kernel
theorem dX5_joined_77 : decode cX5_joined 77 = .ok (.iload_n 2, 1) := by decide +kernel
theorem dX5_joined_78 : decode cX5_joined 78 = .ok (.if_icmp .ge 7, 3) := by decide +kernel
theorem dX5_joined_81 : decode cX5_joined 81 = .ok (.iconst 1, 1) := by decide +kernel
theorem dX5_joined_82 : decode cX5_joined 82 = .ok (.goto 4, 3) := by decide +kernel
theorem dX5_joined_85 : decode cX5_joined 85 = .ok (.iconst 0, 1) := by decide +kernel
theorem dX5_joined_86 : decode cX5_joined 86 = .ok (.ireturn, 1) := by decide +kernel
theorem dX5_joined_87 : decode cX5_joined 87 = .ok (.iload_n 1, 1) := by decide +kernel
theorem dX5_joined_88 : decode cX5_joined 88 = .ok (.iload_n 2, 1) := by decide +kernel
theorem dX5_joined_89 : decode cX5_joined 89 = .ok (.if_icmp .ne 7, 3) := by decide +kernel
theorem dX5_joined_92 : decode cX5_joined 92 = .ok (.iconst 1, 1) := by decide +kernel
theorem dX5_joined_93 : decode cX5_joined 93 = .ok (.goto 4, 3) := by decide +kernel
theorem dX5_joined_96 : decode cX5_joined 96 = .ok (.iconst 0, 1) := by decide +kernel
theorem dX5_joined_97 : decode cX5_joined 97 = .ok (.ireturn, 1) := by decide +kernel
theorem dX5_joined_98 : decode cX5_joined 98 = .ok (.iload_n 1, 1) := by decide +kernel
theorem dX5_joined_99 : decode cX5_joined 99 = .ok (.iload_n 2, 1) := by decide +kernel
theorem dX5_joined_100 : decode cX5_joined 100 = .ok (.iadd, 1) := by decide +kernel
theorem dX5_joined_101 : decode cX5_joined 101 = .ok (.ireturn, 1) := by decide +kernel
theorem dX5_joined_102 : decode cX5_joined 102 = .ok (.iload_n 1, 1) := by decide +kernel
theorem dX5_joined_103 : decode cX5_joined 103 = .ok (.iload_n 2, 1) := by decide +kernel
theorem dX5_joined_104 : decode cX5_joined 104 = .ok (.isub, 1) := by decide +kernel
theorem dX5_joined_105 : decode cX5_joined 105 = .ok (.ireturn, 1) := by decide +kernel
theorem dX5_joined_106 : decode cX5_joined 106 = .ok (.iload_n 1, 1) := by decide +kernel
theorem dX5_joined_107 : decode cX5_joined 107 = .ok (.iload_n 2, 1) := by decide +kernel
theorem dX5_joined_108 : decode cX5_joined 108 = .ok (.imul, 1) := by decide +kernel
theorem dX5_joined_109 : decode cX5_joined 109 = .ok (.ireturn, 1) := by decide +kernel
theorem dX5_joined_110 : decode cX5_joined 110 = .ok (.iload_n 2, 1) := by decide +kernel
theorem dX5_joined_111 : decode cX5_joined 111 = .ok (.ifCond .ne 7, 3) := by decide +kernel
theorem dX5_joined_114 : decode cX5_joined 114 = .ok (.iconst 0, 1) := by decide +kernel
theorem dX5_joined_115 : decode cX5_joined 115 = .ok (.goto 6, 3) := by decide +kernel
theorem dX5_joined_118 : decode cX5_joined 118 = .ok (.iload_n 1, 1) := by decide +kernel
theorem dX5_joined_119 : decode cX5_joined 119 = .ok (.iload_n 2, 1) := by decide +kernel
theorem dX5_joined_120 : decode cX5_joined 120 = .ok (.idiv, 1) := by decide +kernel
theorem dX5_joined_121 : decode cX5_joined 121 = .ok (.ireturn, 1) := by decide +kernel
theorem dX6_init_0 : decode cX6_init 0 = .ok (.aload_n 0, 1) := by decide +kernel
theorem dX6_init_1 : decode cX6_init 1 = .ok (.invokespecial 3, 3) := by decide +kernel
theorem dX6_init_4 : decode cX6_init 4 = .ok (.aload_n 0, 1) := by decide +kernel
theorem dX6_init_5 : decode cX6_init 5 = .ok (.bipush 54, 2) := by decide +kernel
theorem dX6_init_7 : decode cX6_init 7 = .ok (.newarray .int, 2) := by decide +kernel
theorem dX6_init_9 : decode cX6_init 9 = .ok (.putfield 9, 3) := by decide +kernel
theorem dX6_init_12 : decode cX6_init 12 = .ok (.aload_n 0, 1) := by decide +kernel
theorem dX6_init_13 : decode cX6_init 13 = .ok (.sipush 512, 3) := by decide +kernel
theorem dX6_init_16 : decode cX6_init 16 = .ok (.newarray .int, 2) := by decide +kernel
theorem dX6_init_18 : decode cX6_init 18 = .ok (.putfield 15, 3) := by decide +kernel
theorem dX6_init_21 : decode cX6_init 21 = .ok (.aload_n 0, 1) := by decide +kernel
theorem dX6_init_22 : decode cX6_init 22 = .ok (.aload_n 1, 1) := by decide +kernel
theorem dX6_init_23 : decode cX6_init 23 = .ok (.putfield 18, 3) := by decide +kernel
theorem dX6_init_26 : decode cX6_init 26 = .ok (.return_, 1) := by decide +kernel
theorem dX6_weighFor_0 : decode cX6_weighFor 0 = .ok (.iconst 0, 1) := by decide +kernel
theorem dX6_weighFor_1 : decode cX6_weighFor 1 = .ok (.istore_n 2, 1) := by decide +kernel
theorem dX6_weighFor_2 : decode cX6_weighFor 2 = .ok (.iload_n 2, 1) := by decide +kernel
theorem dX6_weighFor_3 : decode cX6_weighFor 3 = .ok (.aload_n 0, 1) := by decide +kernel
theorem dX6_weighFor_4 : decode cX6_weighFor 4 = .ok (.getfield 18, 3) := by decide +kernel
theorem dX6_weighFor_7 : decode cX6_weighFor 7 = .ok (.getfield 22, 3) := by decide +kernel
theorem dX6_weighFor_10 : decode cX6_weighFor 10 = .ok (.getfield 28, 3) := by decide +kernel
theorem dX6_weighFor_13 : decode cX6_weighFor 13 = .ok (.if_icmp .ge 29, 3) := by decide +kernel
theorem dX6_weighFor_16 : decode cX6_weighFor 16 = .ok (.aload_n 0, 1) := by decide +kernel
theorem dX6_weighFor_17 : decode cX6_weighFor 17 = .ok (.getfield 9, 3) := by decide +kernel
theorem dX6_weighFor_20 : decode cX6_weighFor 20 = .ok (.iload_n 2, 1) := by decide +kernel
theorem dX6_weighFor_21 : decode cX6_weighFor 21 = .ok (.bipush 6, 2) := by decide +kernel
theorem dX6_weighFor_23 : decode cX6_weighFor 23 = .ok (.imul, 1) := by decide +kernel
theorem dX6_weighFor_24 : decode cX6_weighFor 24 = .ok (.iload_n 1, 1) := by decide +kernel
theorem dX6_weighFor_25 : decode cX6_weighFor 25 = .ok (.iadd, 1) := by decide +kernel
theorem dX6_weighFor_26 : decode cX6_weighFor 26 = .ok (.aload_n 0, 1) := by decide +kernel
theorem dX6_weighFor_27 : decode cX6_weighFor 27 = .ok (.getfield 18, 3) := by decide +kernel
theorem dX6_weighFor_30 : decode cX6_weighFor 30 = .ok (.iload_n 2, 1) := by decide +kernel
theorem dX6_weighFor_31 : decode cX6_weighFor 31 = .ok (.iload_n 1, 1) := by decide +kernel
theorem dX6_weighFor_32 : decode cX6_weighFor 32 = .ok (.invokevirtual 34, 3) := by decide +kernel
theorem dX6_weighFor_35 : decode cX6_weighFor 35 = .ok (.iastore, 1) := by decide +kernel
theorem dX6_weighFor_36 : decode cX6_weighFor 36 = .ok (.iinc 2 1, 3) := by decide +kernel
theorem dX6_weighFor_39 : decode cX6_weighFor 39 = .ok (.goto (-37), 3) := by decide +kernel
theorem dX6_weighFor_42 : decode cX6_weighFor 42 = .ok (.return_, 1) := by decide +kernel
theorem dX6_weightOf_0 : decode cX6_weightOf 0 = .ok (.aload_n 0, 1) := by decide +kernel
theorem dX6_weightOf_1 : decode cX6_weightOf 1 = .ok (.getfield 9, 3) := by decide +kernel
theorem dX6_weightOf_4 : decode cX6_weightOf 4 = .ok (.iload_n 1, 1) := by decide +kernel
theorem dX6_weightOf_5 : decode cX6_weightOf 5 = .ok (.bipush 6, 2) := by decide +kernel
theorem dX6_weightOf_7 : decode cX6_weightOf 7 = .ok (.imul, 1) := by decide +kernel
theorem dX6_weightOf_8 : decode cX6_weightOf 8 = .ok (.iload_n 2, 1) := by decide +kernel
theorem dX6_weightOf_9 : decode cX6_weightOf 9 = .ok (.iadd, 1) := by decide +kernel
theorem dX6_weightOf_10 : decode cX6_weightOf 10 = .ok (.iaload, 1) := by decide +kernel
theorem dX6_weightOf_11 : decode cX6_weightOf 11 = .ok (.ireturn, 1) := by decide +kernel
theorem dX6_rankOf_0 : decode cX6_rankOf 0 = .ok (.aload_n 0, 1) := by decide +kernel
theorem dX6_rankOf_1 : decode cX6_rankOf 1 = .ok (.iload_n 2, 1) := by decide +kernel
theorem dX6_rankOf_2 : decode cX6_rankOf 2 = .ok (.invokevirtual 38, 3) := by decide +kernel
theorem dX6_rankOf_5 : decode cX6_rankOf 5 = .ok (.aload_n 0, 1) := by decide +kernel
theorem dX6_rankOf_6 : decode cX6_rankOf 6 = .ok (.iload_n 1, 1) := by decide +kernel
theorem dX6_rankOf_7 : decode cX6_rankOf 7 = .ok (.iload_n 2, 1) := by decide +kernel
theorem dX6_rankOf_8 : decode cX6_rankOf 8 = .ok (.invokevirtual 42, 3) := by decide +kernel
theorem dX6_rankOf_11 : decode cX6_rankOf 11 = .ok (.istore_n 3, 1) := by decide +kernel
theorem dX6_rankOf_12 : decode cX6_rankOf 12 = .ok (.iload_n 3, 1) := by decide +kernel
theorem dX6_rankOf_13 : decode cX6_rankOf 13 = .ok (.iconst (-1), 1) := by decide +kernel
theorem dX6_rankOf_14 : decode cX6_rankOf 14 = .ok (.if_icmp .ne 5, 3) := by decide +kernel
theorem dX6_rankOf_17 : decode cX6_rankOf 17 = .ok (.iconst (-1), 1) := by decide +kernel
theorem dX6_rankOf_18 : decode cX6_rankOf 18 = .ok (.ireturn, 1) := by decide +kernel
theorem dX6_rankOf_19 : decode cX6_rankOf 19 = .ok (.iconst 0, 1) := by decide +kernel
theorem dX6_rankOf_20 : decode cX6_rankOf 20 = .ok (.istore 4, 2) := by decide +kernel
theorem dX6_rankOf_22 : decode cX6_rankOf 22 = .ok (.iconst 0, 1) := by decide +kernel
theorem dX6_rankOf_23 : decode cX6_rankOf 23 = .ok (.istore 5, 2) := by decide +kernel
theorem dX6_rankOf_25 : decode cX6_rankOf 25 = .ok (.iload 5, 2) := by decide +kernel
theorem dX6_rankOf_27 : decode cX6_rankOf 27 = .ok (.aload_n 0, 1) := by decide +kernel
theorem dX6_rankOf_28 : decode cX6_rankOf 28 = .ok (.getfield 18, 3) := by decide +kernel
theorem dX6_rankOf_31 : decode cX6_rankOf 31 = .ok (.getfield 22, 3) := by decide +kernel
theorem dX6_rankOf_34 : decode cX6_rankOf 34 = .ok (.getfield 28, 3) := by decide +kernel
theorem dX6_rankOf_37 : decode cX6_rankOf 37 = .ok (.if_icmp .ge 40, 3) := by decide +kernel
theorem dX6_rankOf_40 : decode cX6_rankOf 40 = .ok (.aload_n 0, 1) := by decide +kernel
theorem dX6_rankOf_41 : decode cX6_rankOf 41 = .ok (.iload 5, 2) := by decide +kernel
theorem dX6_rankOf_43 : decode cX6_rankOf 43 = .ok (.iload_n 2, 1) := by decide +kernel
theorem dX6_rankOf_44 : decode cX6_rankOf 44 = .ok (.invokevirtual 42, 3) := by decide +kernel
theorem dX6_rankOf_47 : decode cX6_rankOf 47 = .ok (.iload_n 3, 1) := by decide +kernel
theorem dX6_rankOf_48 : decode cX6_rankOf 48 = .ok (.if_icmp .gt 20, 3) := by decide +kernel
theorem dX6_rankOf_51 : decode cX6_rankOf 51 = .ok (.aload_n 0, 1) := by decide +kernel
theorem dX6_rankOf_52 : decode cX6_rankOf 52 = .ok (.iload 5, 2) := by decide +kernel
theorem dX6_rankOf_54 : decode cX6_rankOf 54 = .ok (.iload_n 2, 1) := by decide +kernel
theorem dX6_rankOf_55 : decode cX6_rankOf 55 = .ok (.invokevirtual 42, 3) := by decide +kernel
theorem dX6_rankOf_58 : decode cX6_rankOf 58 = .ok (.iload_n 3, 1) := by decide +kernel
theorem dX6_rankOf_59 : decode cX6_rankOf 59 = .ok (.if_icmp .ne 12, 3) := by decide +kernel
theorem dX6_rankOf_62 : decode cX6_rankOf 62 = .ok (.iload 5, 2) := by decide +kernel
theorem dX6_rankOf_64 : decode cX6_rankOf 64 = .ok (.iload_n 1, 1) := by decide +kernel
theorem dX6_rankOf_65 : decode cX6_rankOf 65 = .ok (.if_icmp .ge 6, 3) := by decide +kernel
theorem dX6_rankOf_68 : decode cX6_rankOf 68 = .ok (.iinc 4 1, 3) := by decide +kernel
theorem dX6_rankOf_71 : decode cX6_rankOf 71 = .ok (.iinc 5 1, 3) := by decide +kernel
theorem dX6_rankOf_74 : decode cX6_rankOf 74 = .ok (.goto (-49), 3) := by decide +kernel
theorem dX6_rankOf_77 : decode cX6_rankOf 77 = .ok (.iload 4, 2) := by decide +kernel
theorem dX6_rankOf_79 : decode cX6_rankOf 79 = .ok (.ireturn, 1) := by decide +kernel
theorem dX6_weightOfSet_0 : decode cX6_weightOfSet 0 = .ok (.iconst 0, 1) := by decide +kernel
theorem dX6_weightOfSet_1 : decode cX6_weightOfSet 1 = .ok (.istore_n 3, 1) := by decide +kernel
theorem dX6_weightOfSet_2 : decode cX6_weightOfSet 2 = .ok (.iconst 0, 1) := by decide +kernel
theorem dX6_weightOfSet_3 : decode cX6_weightOfSet 3 = .ok (.istore 4, 2) := by decide +kernel
theorem dX6_weightOfSet_5 : decode cX6_weightOfSet 5 = .ok (.iload 4, 2) := by decide +kernel
theorem dX6_weightOfSet_7 : decode cX6_weightOfSet 7 = .ok (.aload_n 0, 1) := by decide +kernel
theorem dX6_weightOfSet_8 : decode cX6_weightOfSet 8 = .ok (.getfield 18, 3) := by decide +kernel
theorem dX6_weightOfSet_11 : decode cX6_weightOfSet 11 = .ok (.getfield 22, 3) := by decide +kernel
theorem dX6_weightOfSet_14 : decode cX6_weightOfSet 14 = .ok (.getfield 28, 3) := by decide +kernel
theorem dX6_weightOfSet_17 : decode cX6_weightOfSet 17 = .ok (.if_icmp .ge 29, 3) := by decide +kernel
theorem dX6_weightOfSet_20 : decode cX6_weightOfSet 20 = .ok (.iload_n 1, 1) := by decide +kernel
theorem dX6_weightOfSet_21 : decode cX6_weightOfSet 21 = .ok (.iload 4, 2) := by decide +kernel
theorem dX6_weightOfSet_23 : decode cX6_weightOfSet 23 = .ok (.ishr, 1) := by decide +kernel
theorem dX6_weightOfSet_24 : decode cX6_weightOfSet 24 = .ok (.iconst 1, 1) := by decide +kernel
theorem dX6_weightOfSet_25 : decode cX6_weightOfSet 25 = .ok (.iand, 1) := by decide +kernel
theorem dX6_weightOfSet_26 : decode cX6_weightOfSet 26 = .ok (.iconst 1, 1) := by decide +kernel
theorem dX6_weightOfSet_27 : decode cX6_weightOfSet 27 = .ok (.if_icmp .ne 13, 3) := by decide +kernel
theorem dX6_weightOfSet_30 : decode cX6_weightOfSet 30 = .ok (.iload_n 3, 1) := by decide +kernel
theorem dX6_weightOfSet_31 : decode cX6_weightOfSet 31 = .ok (.aload_n 0, 1) := by decide +kernel
theorem dX6_weightOfSet_32 : decode cX6_weightOfSet 32 = .ok (.iload 4, 2) := by decide +kernel
theorem dX6_weightOfSet_34 : decode cX6_weightOfSet 34 = .ok (.iload_n 2, 1) := by decide +kernel
theorem dX6_weightOfSet_35 : decode cX6_weightOfSet 35 = .ok (.invokevirtual 42, 3) := by decide +kernel
theorem dX6_weightOfSet_38 : decode cX6_weightOfSet 38 = .ok (.iadd, 1) := by decide +kernel
theorem dX6_weightOfSet_39 : decode cX6_weightOfSet 39 = .ok (.istore_n 3, 1) := by decide +kernel
theorem dX6_weightOfSet_40 : decode cX6_weightOfSet 40 = .ok (.iinc 4 1, 3) := by decide +kernel
theorem dX6_weightOfSet_43 : decode cX6_weightOfSet 43 = .ok (.goto (-38), 3) := by decide +kernel
theorem dX6_weightOfSet_46 : decode cX6_weightOfSet 46 = .ok (.iload_n 3, 1) := by decide +kernel
theorem dX6_weightOfSet_47 : decode cX6_weightOfSet 47 = .ok (.ireturn, 1) := by decide +kernel
theorem dX6_pulls_0 : decode cX6_pulls 0 = .ok (.aload_n 0, 1) := by decide +kernel
theorem dX6_pulls_1 : decode cX6_pulls 1 = .ok (.iload_n 1, 1) := by decide +kernel
theorem dX6_pulls_2 : decode cX6_pulls 2 = .ok (.iload_n 3, 1) := by decide +kernel
theorem dX6_pulls_3 : decode cX6_pulls 3 = .ok (.invokevirtual 45, 3) := by decide +kernel
theorem dX6_pulls_6 : decode cX6_pulls 6 = .ok (.aload_n 0, 1) := by decide +kernel
theorem dX6_pulls_7 : decode cX6_pulls 7 = .ok (.iload_n 2, 1) := by decide +kernel
theorem dX6_pulls_8 : decode cX6_pulls 8 = .ok (.iload_n 1, 1) := by decide +kernel
theorem dX6_pulls_9 : decode cX6_pulls 9 = .ok (.iconst (-1), 1) := by decide +kernel
theorem dX6_pulls_10 : decode cX6_pulls 10 = .ok (.ixor, 1) := by decide +kernel
theorem dX6_pulls_11 : decode cX6_pulls 11 = .ok (.iand, 1) := by decide +kernel
theorem dX6_pulls_12 : decode cX6_pulls 12 = .ok (.iload_n 3, 1) := by decide +kernel
theorem dX6_pulls_13 : decode cX6_pulls 13 = .ok (.invokevirtual 45, 3) := by decide +kernel
theorem dX6_pulls_16 : decode cX6_pulls 16 = .ok (.if_icmp .le 7, 3) := by decide +kernel
theorem dX6_pulls_19 : decode cX6_pulls 19 = .ok (.iconst 1, 1) := by decide +kernel
theorem dX6_pulls_20 : decode cX6_pulls 20 = .ok (.goto 4, 3) := by decide +kernel
theorem dX6_pulls_23 : decode cX6_pulls 23 = .ok (.iconst 0, 1) := by decide +kernel
theorem dX6_pulls_24 : decode cX6_pulls 24 = .ok (.ireturn, 1) := by decide +kernel
theorem dX6_fewestThatPull_0 : decode cX6_fewestThatPull 0 = .ok (.aload_n 0, 1) := by decide +kernel
theorem dX6_fewestThatPull_1 : decode cX6_fewestThatPull 1 = .ok (.iload_n 1, 1) := by decide +kernel
theorem dX6_fewestThatPull_2 : decode cX6_fewestThatPull 2 = .ok (.invokevirtual 38, 3) := by decide +kernel
theorem dX6_fewestThatPull_5 : decode cX6_fewestThatPull 5 = .ok (.aload_n 0, 1) := by decide +kernel
theorem dX6_fewestThatPull_6 : decode cX6_fewestThatPull 6 = .ok (.getfield 18, 3) := by decide +kernel
theorem dX6_fewestThatPull_9 : decode cX6_fewestThatPull 9 = .ok (.iload_n 1, 1) := by decide +kernel
theorem dX6_fewestThatPull_10 : decode cX6_fewestThatPull 10 = .ok (.invokevirtual 48, 3) := by decide +kernel
theorem dX6_fewestThatPull_13 : decode cX6_fewestThatPull 13 = .ok (.istore_n 2, 1) := by decide +kernel
theorem dX6_fewestThatPull_14 : decode cX6_fewestThatPull 14 = .ok (.iconst (-1), 1) := by decide +kernel
theorem dX6_fewestThatPull_15 : decode cX6_fewestThatPull 15 = .ok (.istore_n 3, 1) := by decide +kernel
theorem dX6_fewestThatPull_16 : decode cX6_fewestThatPull 16 = .ok (.bipush 10, 2) := by decide +kernel
theorem dX6_fewestThatPull_18 : decode cX6_fewestThatPull 18 = .ok (.istore 4, 2) := by decide +kernel
theorem dX6_fewestThatPull_20 : decode cX6_fewestThatPull 20 = .ok (.iconst 1, 1) := by decide +kernel
theorem dX6_fewestThatPull_21 : decode cX6_fewestThatPull 21 = .ok (.istore 5, 2) := by decide +kernel
theorem dX6_fewestThatPull_23 : decode cX6_fewestThatPull 23 = .ok (.iload 5, 2) := by decide +kernel
theorem dX6_fewestThatPull_25 : decode cX6_fewestThatPull 25 = .ok (.iload_n 2, 1) := by decide +kernel
theorem dX6_fewestThatPull_26 : decode cX6_fewestThatPull 26 = .ok (.if_icmp .gt 50, 3) := by decide +kernel
theorem dX6_fewestThatPull_29 : decode cX6_fewestThatPull 29 = .ok (.iload 5, 2) := by decide +kernel
theorem dX6_fewestThatPull_31 : decode cX6_fewestThatPull 31 = .ok (.invokestatic 52, 3) := by decide +kernel
theorem dX6_fewestThatPull_34 : decode cX6_fewestThatPull 34 = .ok (.istore 6, 2) := by decide +kernel
theorem dX6_fewestThatPull_36 : decode cX6_fewestThatPull 36 = .ok (.iload 5, 2) := by decide +kernel
theorem dX6_fewestThatPull_38 : decode cX6_fewestThatPull 38 = .ok (.iload_n 2, 1) := by decide +kernel
theorem dX6_fewestThatPull_39 : decode cX6_fewestThatPull 39 = .ok (.iconst (-1), 1) := by decide +kernel
theorem dX6_fewestThatPull_40 : decode cX6_fewestThatPull 40 = .ok (.ixor, 1) := by decide +kernel
theorem dX6_fewestThatPull_41 : decode cX6_fewestThatPull 41 = .ok (.iand, 1) := by decide +kernel
theorem dX6_fewestThatPull_42 : decode cX6_fewestThatPull 42 = .ok (.ifCond .ne 28, 3) := by decide +kernel
theorem dX6_fewestThatPull_45 : decode cX6_fewestThatPull 45 = .ok (.iload 6, 2) := by decide +kernel
theorem dX6_fewestThatPull_47 : decode cX6_fewestThatPull 47 = .ok (.iload 4, 2) := by decide +kernel
theorem dX6_fewestThatPull_49 : decode cX6_fewestThatPull 49 = .ok (.if_icmp .ge 21, 3) := by decide +kernel
theorem dX6_fewestThatPull_52 : decode cX6_fewestThatPull 52 = .ok (.aload_n 0, 1) := by decide +kernel
theorem dX6_fewestThatPull_53 : decode cX6_fewestThatPull 53 = .ok (.iload 5, 2) := by decide +kernel
theorem dX6_fewestThatPull_55 : decode cX6_fewestThatPull 55 = .ok (.iload_n 2, 1) := by decide +kernel
theorem dX6_fewestThatPull_56 : decode cX6_fewestThatPull 56 = .ok (.iload_n 1, 1) := by decide +kernel
theorem dX6_fewestThatPull_57 : decode cX6_fewestThatPull 57 = .ok (.invokevirtual 57, 3) := by decide +kernel
theorem dX6_fewestThatPull_60 : decode cX6_fewestThatPull 60 = .ok (.ifCond .eq 10, 3) := by decide +kernel
theorem dX6_fewestThatPull_63 : decode cX6_fewestThatPull 63 = .ok (.iload 6, 2) := by decide +kernel
theorem dX6_fewestThatPull_65 : decode cX6_fewestThatPull 65 = .ok (.istore 4, 2) := by decide +kernel
theorem dX6_fewestThatPull_67 : decode cX6_fewestThatPull 67 = .ok (.iload 5, 2) := by decide +kernel
theorem dX6_fewestThatPull_69 : decode cX6_fewestThatPull 69 = .ok (.istore_n 3, 1) := by decide +kernel
theorem dX6_fewestThatPull_70 : decode cX6_fewestThatPull 70 = .ok (.iinc 5 1, 3) := by decide +kernel
theorem dX6_fewestThatPull_73 : decode cX6_fewestThatPull 73 = .ok (.goto (-50), 3) := by decide +kernel
theorem dX6_fewestThatPull_76 : decode cX6_fewestThatPull 76 = .ok (.iload_n 3, 1) := by decide +kernel
theorem dX6_fewestThatPull_77 : decode cX6_fewestThatPull 77 = .ok (.ireturn, 1) := by decide +kernel
theorem dX6_setsDecidedBy_0 : decode cX6_setsDecidedBy 0 = .ok (.aload_n 0, 1) := by decide +kernel
theorem dX6_setsDecidedBy_1 : decode cX6_setsDecidedBy 1 = .ok (.iload_n 2, 1) := by decide +kernel
theorem dX6_setsDecidedBy_2 : decode cX6_setsDecidedBy 2 = .ok (.invokevirtual 38, 3) := by decide +kernel
theorem dX6_setsDecidedBy_5 : decode cX6_setsDecidedBy 5 = .ok (.aload_n 0, 1) := by decide +kernel
theorem dX6_setsDecidedBy_6 : decode cX6_setsDecidedBy 6 = .ok (.getfield 18, 3) := by decide +kernel
theorem dX6_setsDecidedBy_9 : decode cX6_setsDecidedBy 9 = .ok (.iload_n 2, 1) := by decide +kernel
theorem dX6_setsDecidedBy_10 : decode cX6_setsDecidedBy 10 = .ok (.invokevirtual 48, 3) := by decide +kernel
theorem dX6_setsDecidedBy_13 : decode cX6_setsDecidedBy 13 = .ok (.istore_n 3, 1) := by decide +kernel
theorem dX6_setsDecidedBy_14 : decode cX6_setsDecidedBy 14 = .ok (.iconst 1, 1) := by decide +kernel
theorem dX6_setsDecidedBy_15 : decode cX6_setsDecidedBy 15 = .ok (.iload_n 1, 1) := by decide +kernel
theorem dX6_setsDecidedBy_16 : decode cX6_setsDecidedBy 16 = .ok (.ishl, 1) := by decide +kernel
theorem dX6_setsDecidedBy_17 : decode cX6_setsDecidedBy 17 = .ok (.istore 4, 2) := by decide +kernel
theorem dX6_setsDecidedBy_19 : decode cX6_setsDecidedBy 19 = .ok (.iconst 0, 1) := by decide +kernel
theorem dX6_setsDecidedBy_20 : decode cX6_setsDecidedBy 20 = .ok (.istore 5, 2) := by decide +kernel
theorem dX6_setsDecidedBy_22 : decode cX6_setsDecidedBy 22 = .ok (.iconst 1, 1) := by decide +kernel
theorem dX6_setsDecidedBy_23 : decode cX6_setsDecidedBy 23 = .ok (.istore 6, 2) := by decide +kernel
theorem dX6_setsDecidedBy_25 : decode cX6_setsDecidedBy 25 = .ok (.iload 6, 2) := by decide +kernel
theorem dX6_setsDecidedBy_27 : decode cX6_setsDecidedBy 27 = .ok (.iload_n 3, 1) := by decide +kernel
theorem dX6_setsDecidedBy_28 : decode cX6_setsDecidedBy 28 = .ok (.if_icmp .gt 68, 3) := by decide +kernel
theorem dX6_setsDecidedBy_31 : decode cX6_setsDecidedBy 31 = .ok (.iload 6, 2) := by decide +kernel
theorem dX6_setsDecidedBy_33 : decode cX6_setsDecidedBy 33 = .ok (.iload_n 3, 1) := by decide +kernel
theorem dX6_setsDecidedBy_34 : decode cX6_setsDecidedBy 34 = .ok (.iconst (-1), 1) := by decide +kernel
theorem dX6_setsDecidedBy_35 : decode cX6_setsDecidedBy 35 = .ok (.ixor, 1) := by decide +kernel
theorem dX6_setsDecidedBy_36 : decode cX6_setsDecidedBy 36 = .ok (.iand, 1) := by decide +kernel
theorem dX6_setsDecidedBy_37 : decode cX6_setsDecidedBy 37 = .ok (.ifCond .ne 15, 3) := by decide +kernel
theorem dX6_setsDecidedBy_40 : decode cX6_setsDecidedBy 40 = .ok (.iload 6, 2) := by decide +kernel
theorem dX6_setsDecidedBy_42 : decode cX6_setsDecidedBy 42 = .ok (.iload 4, 2) := by decide +kernel
theorem dX6_setsDecidedBy_44 : decode cX6_setsDecidedBy 44 = .ok (.iand, 1) := by decide +kernel
theorem dX6_setsDecidedBy_45 : decode cX6_setsDecidedBy 45 = .ok (.ifCond .eq 7, 3) := by decide +kernel
theorem dX6_setsDecidedBy_48 : decode cX6_setsDecidedBy 48 = .ok (.iconst 1, 1) := by decide +kernel
theorem dX6_setsDecidedBy_49 : decode cX6_setsDecidedBy 49 = .ok (.goto 4, 3) := by decide +kernel
theorem dX6_setsDecidedBy_52 : decode cX6_setsDecidedBy 52 = .ok (.iconst 0, 1) := by decide +kernel
theorem dX6_setsDecidedBy_53 : decode cX6_setsDecidedBy 53 = .ok (.istore 7, 2) := by decide +kernel
theorem dX6_setsDecidedBy_55 : decode cX6_setsDecidedBy 55 = .ok (.iload 7, 2) := by decide +kernel
theorem dX6_setsDecidedBy_57 : decode cX6_setsDecidedBy 57 = .ok (.ifCond .eq 33, 3) := by decide +kernel
theorem dX6_setsDecidedBy_60 : decode cX6_setsDecidedBy 60 = .ok (.aload_n 0, 1) := by decide +kernel
theorem dX6_setsDecidedBy_61 : decode cX6_setsDecidedBy 61 = .ok (.iload 6, 2) := by decide +kernel
theorem dX6_setsDecidedBy_63 : decode cX6_setsDecidedBy 63 = .ok (.iload_n 3, 1) := by decide +kernel
theorem dX6_setsDecidedBy_64 : decode cX6_setsDecidedBy 64 = .ok (.iload_n 2, 1) := by decide +kernel
theorem dX6_setsDecidedBy_65 : decode cX6_setsDecidedBy 65 = .ok (.invokevirtual 57, 3) := by decide +kernel
theorem dX6_setsDecidedBy_68 : decode cX6_setsDecidedBy 68 = .ok (.ifCond .eq 22, 3) := by decide +kernel
theorem dX6_setsDecidedBy_71 : decode cX6_setsDecidedBy 71 = .ok (.aload_n 0, 1) := by decide +kernel
theorem dX6_setsDecidedBy_72 : decode cX6_setsDecidedBy 72 = .ok (.iload 6, 2) := by decide +kernel
theorem dX6_setsDecidedBy_74 : decode cX6_setsDecidedBy 74 = .ok (.iload 4, 2) := by decide +kernel
theorem dX6_setsDecidedBy_76 : decode cX6_setsDecidedBy 76 = .ok (.iconst (-1), 1) := by decide +kernel
theorem dX6_setsDecidedBy_77 : decode cX6_setsDecidedBy 77 = .ok (.ixor, 1) := by decide +kernel
theorem dX6_setsDecidedBy_78 : decode cX6_setsDecidedBy 78 = .ok (.iand, 1) := by decide +kernel
theorem dX6_setsDecidedBy_79 : decode cX6_setsDecidedBy 79 = .ok (.iload_n 3, 1) := by decide +kernel
theorem dX6_setsDecidedBy_80 : decode cX6_setsDecidedBy 80 = .ok (.iload_n 2, 1) := by decide +kernel
theorem dX6_setsDecidedBy_81 : decode cX6_setsDecidedBy 81 = .ok (.invokevirtual 57, 3) := by decide +kernel
theorem dX6_setsDecidedBy_84 : decode cX6_setsDecidedBy 84 = .ok (.ifCond .ne 6, 3) := by decide +kernel
theorem dX6_setsDecidedBy_87 : decode cX6_setsDecidedBy 87 = .ok (.iinc 5 1, 3) := by decide +kernel
theorem dX6_setsDecidedBy_90 : decode cX6_setsDecidedBy 90 = .ok (.iinc 6 1, 3) := by decide +kernel
theorem dX6_setsDecidedBy_93 : decode cX6_setsDecidedBy 93 = .ok (.goto (-68), 3) := by decide +kernel
theorem dX6_setsDecidedBy_96 : decode cX6_setsDecidedBy 96 = .ok (.iload 5, 2) := by decide +kernel
theorem dX6_setsDecidedBy_98 : decode cX6_setsDecidedBy 98 = .ok (.ireturn, 1) := by decide +kernel
theorem dX6_weighForAll_0 : decode cX6_weighForAll 0 = .ok (.iconst 0, 1) := by decide +kernel
theorem dX6_weighForAll_1 : decode cX6_weighForAll 1 = .ok (.istore_n 1, 1) := by decide +kernel
theorem dX6_weighForAll_2 : decode cX6_weighForAll 2 = .ok (.iload_n 1, 1) := by decide +kernel
theorem dX6_weighForAll_3 : decode cX6_weighForAll 3 = .ok (.aload_n 0, 1) := by decide +kernel
theorem dX6_weighForAll_4 : decode cX6_weighForAll 4 = .ok (.getfield 18, 3) := by decide +kernel
theorem dX6_weighForAll_7 : decode cX6_weighForAll 7 = .ok (.getfield 22, 3) := by decide +kernel
theorem dX6_weighForAll_10 : decode cX6_weighForAll 10 = .ok (.getfield 61, 3) := by decide +kernel
theorem dX6_weighForAll_13 : decode cX6_weighForAll 13 = .ok (.if_icmp .ge 14, 3) := by decide +kernel
theorem dX6_weighForAll_16 : decode cX6_weighForAll 16 = .ok (.aload_n 0, 1) := by decide +kernel
theorem dX6_weighForAll_17 : decode cX6_weighForAll 17 = .ok (.iload_n 1, 1) := by decide +kernel
theorem dX6_weighForAll_18 : decode cX6_weighForAll 18 = .ok (.invokevirtual 38, 3) := by decide +kernel
theorem dX6_weighForAll_21 : decode cX6_weighForAll 21 = .ok (.iinc 1 1, 3) := by decide +kernel
theorem dX6_weighForAll_24 : decode cX6_weighForAll 24 = .ok (.goto (-22), 3) := by decide +kernel
theorem dX6_weighForAll_27 : decode cX6_weighForAll 27 = .ok (.return_, 1) := by decide +kernel
theorem dX6_fillFrom_0 : decode cX6_fillFrom 0 = .ok (.iconst 1, 1) := by decide +kernel
theorem dX6_fillFrom_1 : decode cX6_fillFrom 1 = .ok (.aload_n 0, 1) := by decide +kernel
theorem dX6_fillFrom_2 : decode cX6_fillFrom 2 = .ok (.getfield 18, 3) := by decide +kernel
theorem dX6_fillFrom_5 : decode cX6_fillFrom 5 = .ok (.getfield 22, 3) := by decide +kernel
theorem dX6_fillFrom_8 : decode cX6_fillFrom 8 = .ok (.getfield 28, 3) := by decide +kernel
theorem dX6_fillFrom_11 : decode cX6_fillFrom 11 = .ok (.ishl, 1) := by decide +kernel
theorem dX6_fillFrom_12 : decode cX6_fillFrom 12 = .ok (.istore_n 2, 1) := by decide +kernel
theorem dX6_fillFrom_13 : decode cX6_fillFrom 13 = .ok (.iconst 0, 1) := by decide +kernel
theorem dX6_fillFrom_14 : decode cX6_fillFrom 14 = .ok (.istore_n 3, 1) := by decide +kernel
theorem dX6_fillFrom_15 : decode cX6_fillFrom 15 = .ok (.iload_n 3, 1) := by decide +kernel
theorem dX6_fillFrom_16 : decode cX6_fillFrom 16 = .ok (.iload_n 2, 1) := by decide +kernel
theorem dX6_fillFrom_17 : decode cX6_fillFrom 17 = .ok (.if_icmp .ge 16, 3) := by decide +kernel
theorem dX6_fillFrom_20 : decode cX6_fillFrom 20 = .ok (.aload_n 0, 1) := by decide +kernel
theorem dX6_fillFrom_21 : decode cX6_fillFrom 21 = .ok (.getfield 15, 3) := by decide +kernel
theorem dX6_fillFrom_24 : decode cX6_fillFrom 24 = .ok (.iload_n 3, 1) := by decide +kernel
theorem dX6_fillFrom_25 : decode cX6_fillFrom 25 = .ok (.iconst 0, 1) := by decide +kernel
theorem dX6_fillFrom_26 : decode cX6_fillFrom 26 = .ok (.iastore, 1) := by decide +kernel
theorem dX6_fillFrom_27 : decode cX6_fillFrom 27 = .ok (.iinc 3 1, 3) := by decide +kernel
theorem dX6_fillFrom_30 : decode cX6_fillFrom 30 = .ok (.goto (-15), 3) := by decide +kernel
theorem dX6_fillFrom_33 : decode cX6_fillFrom 33 = .ok (.aload_n 0, 1) := by decide +kernel
theorem dX6_fillFrom_34 : decode cX6_fillFrom 34 = .ok (.getfield 18, 3) := by decide +kernel
theorem dX6_fillFrom_37 : decode cX6_fillFrom 37 = .ok (.getfield 22, 3) := by decide +kernel
theorem dX6_fillFrom_40 : decode cX6_fillFrom 40 = .ok (.getfield 61, 3) := by decide +kernel
theorem dX6_fillFrom_43 : decode cX6_fillFrom 43 = .ok (.iconst 1, 1) := by decide +kernel
theorem dX6_fillFrom_44 : decode cX6_fillFrom 44 = .ok (.isub, 1) := by decide +kernel
theorem dX6_fillFrom_45 : decode cX6_fillFrom 45 = .ok (.istore_n 3, 1) := by decide +kernel
theorem dX6_fillFrom_46 : decode cX6_fillFrom 46 = .ok (.iload_n 3, 1) := by decide +kernel
theorem dX6_fillFrom_47 : decode cX6_fillFrom 47 = .ok (.iload_n 1, 1) := by decide +kernel
theorem dX6_fillFrom_48 : decode cX6_fillFrom 48 = .ok (.if_icmp .lt 49, 3) := by decide +kernel
theorem dX6_fillFrom_51 : decode cX6_fillFrom 51 = .ok (.iconst 0, 1) := by decide +kernel
theorem dX6_fillFrom_52 : decode cX6_fillFrom 52 = .ok (.istore 4, 2) := by decide +kernel
theorem dX6_fillFrom_54 : decode cX6_fillFrom 54 = .ok (.iload 4, 2) := by decide +kernel
theorem dX6_fillFrom_56 : decode cX6_fillFrom 56 = .ok (.iload_n 2, 1) := by decide +kernel
theorem dX6_fillFrom_57 : decode cX6_fillFrom 57 = .ok (.if_icmp .ge 34, 3) := by decide +kernel
theorem dX6_fillFrom_60 : decode cX6_fillFrom 60 = .ok (.aload_n 0, 1) := by decide +kernel
theorem dX6_fillFrom_61 : decode cX6_fillFrom 61 = .ok (.getfield 18, 3) := by decide +kernel
theorem dX6_fillFrom_64 : decode cX6_fillFrom 64 = .ok (.iload_n 3, 1) := by decide +kernel
theorem dX6_fillFrom_65 : decode cX6_fillFrom 65 = .ok (.invokevirtual 64, 3) := by decide +kernel
theorem dX6_fillFrom_68 : decode cX6_fillFrom 68 = .ok (.ifCond .eq 23, 3) := by decide +kernel
theorem dX6_fillFrom_71 : decode cX6_fillFrom 71 = .ok (.aload_n 0, 1) := by decide +kernel
theorem dX6_fillFrom_72 : decode cX6_fillFrom 72 = .ok (.getfield 15, 3) := by decide +kernel
theorem dX6_fillFrom_75 : decode cX6_fillFrom 75 = .ok (.iload 4, 2) := by decide +kernel
theorem dX6_fillFrom_77 : decode cX6_fillFrom 77 = .ok (.aload_n 0, 1) := by decide +kernel
theorem dX6_fillFrom_78 : decode cX6_fillFrom 78 = .ok (.iload 4, 2) := by decide +kernel
theorem dX6_fillFrom_80 : decode cX6_fillFrom 80 = .ok (.iload_n 3, 1) := by decide +kernel
theorem dX6_fillFrom_81 : decode cX6_fillFrom 81 = .ok (.invokevirtual 68, 3) := by decide +kernel
theorem dX6_fillFrom_84 : decode cX6_fillFrom 84 = .ok (.iastore, 1) := by decide +kernel
theorem dX6_fillFrom_85 : decode cX6_fillFrom 85 = .ok (.iinc 4 1, 3) := by decide +kernel
theorem dX6_fillFrom_88 : decode cX6_fillFrom 88 = .ok (.goto (-34), 3) := by decide +kernel
theorem dX6_fillFrom_91 : decode cX6_fillFrom 91 = .ok (.iinc 3 (-1), 3) := by decide +kernel
theorem dX6_fillFrom_94 : decode cX6_fillFrom 94 = .ok (.goto (-48), 3) := by decide +kernel
theorem dX6_fillFrom_97 : decode cX6_fillFrom 97 = .ok (.return_, 1) := by decide +kernel
theorem dX6_mostWith_0 : decode cX6_mostWith 0 = .ok (.aload_n 0, 1) := by decide +kernel
theorem dX6_mostWith_1 : decode cX6_mostWith 1 = .ok (.getfield 15, 3) := by decide +kernel
theorem dX6_mostWith_4 : decode cX6_mostWith 4 = .ok (.iload_n 1, 1) := by decide +kernel
theorem dX6_mostWith_5 : decode cX6_mostWith 5 = .ok (.iaload, 1) := by decide +kernel
theorem dX6_mostWith_6 : decode cX6_mostWith 6 = .ok (.istore_n 3, 1) := by decide +kernel
theorem dX6_mostWith_7 : decode cX6_mostWith 7 = .ok (.iconst 0, 1) := by decide +kernel
theorem dX6_mostWith_8 : decode cX6_mostWith 8 = .ok (.istore 4, 2) := by decide +kernel
theorem dX6_mostWith_10 : decode cX6_mostWith 10 = .ok (.iload 4, 2) := by decide +kernel
theorem dX6_mostWith_12 : decode cX6_mostWith 12 = .ok (.aload_n 0, 1) := by decide +kernel
theorem dX6_mostWith_13 : decode cX6_mostWith 13 = .ok (.getfield 18, 3) := by decide +kernel
theorem dX6_mostWith_16 : decode cX6_mostWith 16 = .ok (.getfield 22, 3) := by decide +kernel
theorem dX6_mostWith_19 : decode cX6_mostWith 19 = .ok (.getfield 28, 3) := by decide +kernel
theorem dX6_mostWith_22 : decode cX6_mostWith 22 = .ok (.if_icmp .ge 44, 3) := by decide +kernel
theorem dX6_mostWith_25 : decode cX6_mostWith 25 = .ok (.aload_n 0, 1) := by decide +kernel
theorem dX6_mostWith_26 : decode cX6_mostWith 26 = .ok (.iload 4, 2) := by decide +kernel
theorem dX6_mostWith_28 : decode cX6_mostWith 28 = .ok (.iload_n 1, 1) := by decide +kernel
theorem dX6_mostWith_29 : decode cX6_mostWith 29 = .ok (.iload_n 2, 1) := by decide +kernel
theorem dX6_mostWith_30 : decode cX6_mostWith 30 = .ok (.invokevirtual 71, 3) := by decide +kernel
theorem dX6_mostWith_33 : decode cX6_mostWith 33 = .ok (.ifCond .eq 27, 3) := by decide +kernel
theorem dX6_mostWith_36 : decode cX6_mostWith 36 = .ok (.iload_n 3, 1) := by decide +kernel
theorem dX6_mostWith_37 : decode cX6_mostWith 37 = .ok (.aload_n 0, 1) := by decide +kernel
theorem dX6_mostWith_38 : decode cX6_mostWith 38 = .ok (.iload 4, 2) := by decide +kernel
theorem dX6_mostWith_40 : decode cX6_mostWith 40 = .ok (.iload_n 2, 1) := by decide +kernel
theorem dX6_mostWith_41 : decode cX6_mostWith 41 = .ok (.invokevirtual 42, 3) := by decide +kernel
theorem dX6_mostWith_44 : decode cX6_mostWith 44 = .ok (.aload_n 0, 1) := by decide +kernel
theorem dX6_mostWith_45 : decode cX6_mostWith 45 = .ok (.getfield 15, 3) := by decide +kernel
theorem dX6_mostWith_48 : decode cX6_mostWith 48 = .ok (.iload_n 1, 1) := by decide +kernel
theorem dX6_mostWith_49 : decode cX6_mostWith 49 = .ok (.iconst 1, 1) := by decide +kernel
theorem dX6_mostWith_50 : decode cX6_mostWith 50 = .ok (.iload 4, 2) := by decide +kernel
theorem dX6_mostWith_52 : decode cX6_mostWith 52 = .ok (.ishl, 1) := by decide +kernel
theorem dX6_mostWith_53 : decode cX6_mostWith 53 = .ok (.ior, 1) := by decide +kernel
theorem dX6_mostWith_54 : decode cX6_mostWith 54 = .ok (.iaload, 1) := by decide +kernel
theorem dX6_mostWith_55 : decode cX6_mostWith 55 = .ok (.iadd, 1) := by decide +kernel
theorem dX6_mostWith_56 : decode cX6_mostWith 56 = .ok (.invokestatic 74, 3) := by decide +kernel
theorem dX6_mostWith_59 : decode cX6_mostWith 59 = .ok (.istore_n 3, 1) := by decide +kernel
theorem dX6_mostWith_60 : decode cX6_mostWith 60 = .ok (.iinc 4 1, 3) := by decide +kernel
theorem dX6_mostWith_63 : decode cX6_mostWith 63 = .ok (.goto (-53), 3) := by decide +kernel
theorem dX6_mostWith_66 : decode cX6_mostWith 66 = .ok (.iload_n 3, 1) := by decide +kernel
theorem dX6_mostWith_67 : decode cX6_mostWith 67 = .ok (.ireturn, 1) := by decide +kernel
theorem dX6_isFree_0 : decode cX6_isFree 0 = .ok (.iload_n 2, 1) := by decide +kernel
theorem dX6_isFree_1 : decode cX6_isFree 1 = .ok (.iload_n 1, 1) := by decide +kernel
theorem dX6_isFree_2 : decode cX6_isFree 2 = .ok (.ishr, 1) := by decide +kernel
theorem dX6_isFree_3 : decode cX6_isFree 3 = .ok (.iconst 1, 1) := by decide +kernel
theorem dX6_isFree_4 : decode cX6_isFree 4 = .ok (.iand, 1) := by decide +kernel
theorem dX6_isFree_5 : decode cX6_isFree 5 = .ok (.ifCond .ne 17, 3) := by decide +kernel
theorem dX6_isFree_8 : decode cX6_isFree 8 = .ok (.aload_n 0, 1) := by decide +kernel
theorem dX6_isFree_9 : decode cX6_isFree 9 = .ok (.iload_n 1, 1) := by decide +kernel
theorem dX6_isFree_10 : decode cX6_isFree 10 = .ok (.iload_n 3, 1) := by decide +kernel
theorem dX6_isFree_11 : decode cX6_isFree 11 = .ok (.invokevirtual 42, 3) := by decide +kernel
theorem dX6_isFree_14 : decode cX6_isFree 14 = .ok (.iconst (-1), 1) := by decide +kernel
theorem dX6_isFree_15 : decode cX6_isFree 15 = .ok (.if_icmp .eq 7, 3) := by decide +kernel
theorem dX6_isFree_18 : decode cX6_isFree 18 = .ok (.iconst 1, 1) := by decide +kernel
theorem dX6_isFree_19 : decode cX6_isFree 19 = .ok (.goto 4, 3) := by decide +kernel
theorem dX6_isFree_22 : decode cX6_isFree 22 = .ok (.iconst 0, 1) := by decide +kernel
theorem dX6_isFree_23 : decode cX6_isFree 23 = .ok (.ireturn, 1) := by decide +kernel
theorem dX6_mostTogether_0 : decode cX6_mostTogether 0 = .ok (.aload_n 0, 1) := by decide +kernel
theorem dX6_mostTogether_1 : decode cX6_mostTogether 1 = .ok (.invokevirtual 79, 3) := by decide +kernel
theorem dX6_mostTogether_4 : decode cX6_mostTogether 4 = .ok (.aload_n 0, 1) := by decide +kernel
theorem dX6_mostTogether_5 : decode cX6_mostTogether 5 = .ok (.iconst 0, 1) := by decide +kernel
theorem dX6_mostTogether_6 : decode cX6_mostTogether 6 = .ok (.invokevirtual 82, 3) := by decide +kernel
theorem dX6_mostTogether_9 : decode cX6_mostTogether 9 = .ok (.aload_n 0, 1) := by decide +kernel
theorem dX6_mostTogether_10 : decode cX6_mostTogether 10 = .ok (.getfield 15, 3) := by decide +kernel
theorem dX6_mostTogether_13 : decode cX6_mostTogether 13 = .ok (.iconst 0, 1) := by decide +kernel
theorem dX6_mostTogether_14 : decode cX6_mostTogether 14 = .ok (.iaload, 1) := by decide +kernel
theorem dX6_mostTogether_15 : decode cX6_mostTogether 15 = .ok (.ireturn, 1) := by decide +kernel
theorem dX6_chosenFor_0 : decode cX6_chosenFor 0 = .ok (.aload_n 0, 1) := by decide +kernel
theorem dX6_chosenFor_1 : decode cX6_chosenFor 1 = .ok (.invokevirtual 85, 3) := by decide +kernel
theorem dX6_chosenFor_4 : decode cX6_chosenFor 4 = .ok (.istore_n 2, 1) := by decide +kernel
theorem dX6_chosenFor_5 : decode cX6_chosenFor 5 = .ok (.iconst 0, 1) := by decide +kernel
theorem dX6_chosenFor_6 : decode cX6_chosenFor 6 = .ok (.istore_n 3, 1) := by decide +kernel
theorem dX6_chosenFor_7 : decode cX6_chosenFor 7 = .ok (.iconst (-1), 1) := by decide +kernel
theorem dX6_chosenFor_8 : decode cX6_chosenFor 8 = .ok (.istore 4, 2) := by decide +kernel
theorem dX6_chosenFor_10 : decode cX6_chosenFor 10 = .ok (.iconst 0, 1) := by decide +kernel
theorem dX6_chosenFor_11 : decode cX6_chosenFor 11 = .ok (.istore 5, 2) := by decide +kernel
theorem dX6_chosenFor_13 : decode cX6_chosenFor 13 = .ok (.iload 5, 2) := by decide +kernel
theorem dX6_chosenFor_15 : decode cX6_chosenFor 15 = .ok (.iload_n 1, 1) := by decide +kernel
theorem dX6_chosenFor_16 : decode cX6_chosenFor 16 = .ok (.if_icmp .gt 67, 3) := by decide +kernel
theorem dX6_chosenFor_19 : decode cX6_chosenFor 19 = .ok (.aload_n 0, 1) := by decide +kernel
theorem dX6_chosenFor_20 : decode cX6_chosenFor 20 = .ok (.iload 5, 2) := by decide +kernel
theorem dX6_chosenFor_22 : decode cX6_chosenFor 22 = .ok (.iconst 1, 1) := by decide +kernel
theorem dX6_chosenFor_23 : decode cX6_chosenFor 23 = .ok (.iadd, 1) := by decide +kernel
theorem dX6_chosenFor_24 : decode cX6_chosenFor 24 = .ok (.invokevirtual 82, 3) := by decide +kernel
theorem dX6_chosenFor_27 : decode cX6_chosenFor 27 = .ok (.aload_n 0, 1) := by decide +kernel
theorem dX6_chosenFor_28 : decode cX6_chosenFor 28 = .ok (.getfield 18, 3) := by decide +kernel
theorem dX6_chosenFor_31 : decode cX6_chosenFor 31 = .ok (.iload 5, 2) := by decide +kernel
theorem dX6_chosenFor_33 : decode cX6_chosenFor 33 = .ok (.invokevirtual 64, 3) := by decide +kernel
theorem dX6_chosenFor_36 : decode cX6_chosenFor 36 = .ok (.ifCond .eq 14, 3) := by decide +kernel
theorem dX6_chosenFor_39 : decode cX6_chosenFor 39 = .ok (.aload_n 0, 1) := by decide +kernel
theorem dX6_chosenFor_40 : decode cX6_chosenFor 40 = .ok (.iload 5, 2) := by decide +kernel
theorem dX6_chosenFor_42 : decode cX6_chosenFor 42 = .ok (.iload_n 3, 1) := by decide +kernel
theorem dX6_chosenFor_43 : decode cX6_chosenFor 43 = .ok (.iload_n 2, 1) := by decide +kernel
theorem dX6_chosenFor_44 : decode cX6_chosenFor 44 = .ok (.invokevirtual 89, 3) := by decide +kernel
theorem dX6_chosenFor_47 : decode cX6_chosenFor 47 = .ok (.goto 4, 3) := by decide +kernel
theorem dX6_chosenFor_50 : decode cX6_chosenFor 50 = .ok (.iconst (-1), 1) := by decide +kernel
theorem dX6_chosenFor_51 : decode cX6_chosenFor 51 = .ok (.istore 4, 2) := by decide +kernel
theorem dX6_chosenFor_53 : decode cX6_chosenFor 53 = .ok (.iload 4, 2) := by decide +kernel
theorem dX6_chosenFor_55 : decode cX6_chosenFor 55 = .ok (.iconst (-1), 1) := by decide +kernel
theorem dX6_chosenFor_56 : decode cX6_chosenFor 56 = .ok (.if_icmp .eq 21, 3) := by decide +kernel
theorem dX6_chosenFor_59 : decode cX6_chosenFor 59 = .ok (.iload_n 3, 1) := by decide +kernel
theorem dX6_chosenFor_60 : decode cX6_chosenFor 60 = .ok (.iconst 1, 1) := by decide +kernel
theorem dX6_chosenFor_61 : decode cX6_chosenFor 61 = .ok (.iload 4, 2) := by decide +kernel
theorem dX6_chosenFor_63 : decode cX6_chosenFor 63 = .ok (.ishl, 1) := by decide +kernel
theorem dX6_chosenFor_64 : decode cX6_chosenFor 64 = .ok (.ior, 1) := by decide +kernel
theorem dX6_chosenFor_65 : decode cX6_chosenFor 65 = .ok (.istore_n 3, 1) := by decide +kernel
theorem dX6_chosenFor_66 : decode cX6_chosenFor 66 = .ok (.iload_n 2, 1) := by decide +kernel
theorem dX6_chosenFor_67 : decode cX6_chosenFor 67 = .ok (.aload_n 0, 1) := by decide +kernel
theorem dX6_chosenFor_68 : decode cX6_chosenFor 68 = .ok (.iload 4, 2) := by decide +kernel
theorem dX6_chosenFor_70 : decode cX6_chosenFor 70 = .ok (.iload 5, 2) := by decide +kernel
theorem dX6_chosenFor_72 : decode cX6_chosenFor 72 = .ok (.invokevirtual 42, 3) := by decide +kernel
theorem dX6_chosenFor_75 : decode cX6_chosenFor 75 = .ok (.isub, 1) := by decide +kernel
theorem dX6_chosenFor_76 : decode cX6_chosenFor 76 = .ok (.istore_n 2, 1) := by decide +kernel
theorem dX6_chosenFor_77 : decode cX6_chosenFor 77 = .ok (.iinc 5 1, 3) := by decide +kernel
theorem dX6_chosenFor_80 : decode cX6_chosenFor 80 = .ok (.goto (-67), 3) := by decide +kernel
theorem dX6_chosenFor_83 : decode cX6_chosenFor 83 = .ok (.iload 4, 2) := by decide +kernel
theorem dX6_chosenFor_85 : decode cX6_chosenFor 85 = .ok (.ireturn, 1) := by decide +kernel
theorem dX6_firstThatFits_0 : decode cX6_firstThatFits 0 = .ok (.iconst 0, 1) := by decide +kernel
theorem dX6_firstThatFits_1 : decode cX6_firstThatFits 1 = .ok (.istore 4, 2) := by decide +kernel
theorem dX6_firstThatFits_3 : decode cX6_firstThatFits 3 = .ok (.iload 4, 2) := by decide +kernel
theorem dX6_firstThatFits_5 : decode cX6_firstThatFits 5 = .ok (.aload_n 0, 1) := by decide +kernel
theorem dX6_firstThatFits_6 : decode cX6_firstThatFits 6 = .ok (.getfield 18, 3) := by decide +kernel
theorem dX6_firstThatFits_9 : decode cX6_firstThatFits 9 = .ok (.getfield 22, 3) := by decide +kernel
theorem dX6_firstThatFits_12 : decode cX6_firstThatFits 12 = .ok (.getfield 28, 3) := by decide +kernel
theorem dX6_firstThatFits_15 : decode cX6_firstThatFits 15 = .ok (.if_icmp .ge 46, 3) := by decide +kernel
theorem dX6_firstThatFits_18 : decode cX6_firstThatFits 18 = .ok (.aload_n 0, 1) := by decide +kernel
theorem dX6_firstThatFits_19 : decode cX6_firstThatFits 19 = .ok (.iload 4, 2) := by decide +kernel
theorem dX6_firstThatFits_21 : decode cX6_firstThatFits 21 = .ok (.iload_n 2, 1) := by decide +kernel
theorem dX6_firstThatFits_22 : decode cX6_firstThatFits 22 = .ok (.iload_n 1, 1) := by decide +kernel
theorem dX6_firstThatFits_23 : decode cX6_firstThatFits 23 = .ok (.invokevirtual 71, 3) := by decide +kernel
theorem dX6_firstThatFits_26 : decode cX6_firstThatFits 26 = .ok (.ifCond .eq 29, 3) := by decide +kernel
theorem dX6_firstThatFits_29 : decode cX6_firstThatFits 29 = .ok (.aload_n 0, 1) := by decide +kernel
theorem dX6_firstThatFits_30 : decode cX6_firstThatFits 30 = .ok (.iload 4, 2) := by decide +kernel
theorem dX6_firstThatFits_32 : decode cX6_firstThatFits 32 = .ok (.iload_n 1, 1) := by decide +kernel
theorem dX6_firstThatFits_33 : decode cX6_firstThatFits 33 = .ok (.invokevirtual 42, 3) := by decide +kernel
theorem dX6_firstThatFits_36 : decode cX6_firstThatFits 36 = .ok (.aload_n 0, 1) := by decide +kernel
theorem dX6_firstThatFits_37 : decode cX6_firstThatFits 37 = .ok (.getfield 15, 3) := by decide +kernel
theorem dX6_firstThatFits_40 : decode cX6_firstThatFits 40 = .ok (.iload_n 2, 1) := by decide +kernel
theorem dX6_firstThatFits_41 : decode cX6_firstThatFits 41 = .ok (.iconst 1, 1) := by decide +kernel
theorem dX6_firstThatFits_42 : decode cX6_firstThatFits 42 = .ok (.iload 4, 2) := by decide +kernel
theorem dX6_firstThatFits_44 : decode cX6_firstThatFits 44 = .ok (.ishl, 1) := by decide +kernel
theorem dX6_firstThatFits_45 : decode cX6_firstThatFits 45 = .ok (.ior, 1) := by decide +kernel
theorem dX6_firstThatFits_46 : decode cX6_firstThatFits 46 = .ok (.iaload, 1) := by decide +kernel
theorem dX6_firstThatFits_47 : decode cX6_firstThatFits 47 = .ok (.iadd, 1) := by decide +kernel
theorem dX6_firstThatFits_48 : decode cX6_firstThatFits 48 = .ok (.iload_n 3, 1) := by decide +kernel
theorem dX6_firstThatFits_49 : decode cX6_firstThatFits 49 = .ok (.if_icmp .ne 6, 3) := by decide +kernel
theorem dX6_firstThatFits_52 : decode cX6_firstThatFits 52 = .ok (.iload 4, 2) := by decide +kernel
theorem dX6_firstThatFits_54 : decode cX6_firstThatFits 54 = .ok (.ireturn, 1) := by decide +kernel
theorem dX6_firstThatFits_55 : decode cX6_firstThatFits 55 = .ok (.iinc 4 1, 3) := by decide +kernel
theorem dX6_firstThatFits_58 : decode cX6_firstThatFits 58 = .ok (.goto (-55), 3) := by decide +kernel
theorem dX6_firstThatFits_61 : decode cX6_firstThatFits 61 = .ok (.iconst (-1), 1) := by decide +kernel
theorem dX6_firstThatFits_62 : decode cX6_firstThatFits 62 = .ok (.ireturn, 1) := by decide +kernel
theorem dX7_init_0 : decode cX7_init 0 = .ok (.aload_n 0, 1) := by decide +kernel
theorem dX7_init_1 : decode cX7_init 1 = .ok (.invokespecial 3, 3) := by decide +kernel
theorem dX7_init_4 : decode cX7_init 4 = .ok (.aload_n 0, 1) := by decide +kernel
theorem dX7_init_5 : decode cX7_init 5 = .ok (.bipush 8, 2) := by decide +kernel
theorem dX7_init_7 : decode cX7_init 7 = .ok (.newarray .int, 2) := by decide +kernel
theorem dX7_init_9 : decode cX7_init 9 = .ok (.putfield 9, 3) := by decide +kernel
theorem dX7_init_12 : decode cX7_init 12 = .ok (.aload_n 0, 1) := by decide +kernel
theorem dX7_init_13 : decode cX7_init 13 = .ok (.bipush 8, 2) := by decide +kernel
theorem dX7_init_15 : decode cX7_init 15 = .ok (.newarray .int, 2) := by decide +kernel
theorem dX7_init_17 : decode cX7_init 17 = .ok (.putfield 15, 3) := by decide +kernel
theorem dX7_init_20 : decode cX7_init 20 = .ok (.aload_n 0, 1) := by decide +kernel
theorem dX7_init_21 : decode cX7_init 21 = .ok (.bipush 8, 2) := by decide +kernel
theorem dX7_init_23 : decode cX7_init 23 = .ok (.newarray .int, 2) := by decide +kernel
theorem dX7_init_25 : decode cX7_init 25 = .ok (.putfield 18, 3) := by decide +kernel
theorem dX7_init_28 : decode cX7_init 28 = .ok (.aload_n 0, 1) := by decide +kernel
theorem dX7_init_29 : decode cX7_init 29 = .ok (.bipush 8, 2) := by decide +kernel
theorem dX7_init_31 : decode cX7_init 31 = .ok (.newarray .int, 2) := by decide +kernel
theorem dX7_init_33 : decode cX7_init 33 = .ok (.putfield 21, 3) := by decide +kernel
theorem dX7_init_36 : decode cX7_init 36 = .ok (.aload_n 0, 1) := by decide +kernel
theorem dX7_init_37 : decode cX7_init 37 = .ok (.bipush 8, 2) := by decide +kernel
theorem dX7_init_39 : decode cX7_init 39 = .ok (.newarray .boolean, 2) := by decide +kernel
theorem dX7_init_41 : decode cX7_init 41 = .ok (.putfield 24, 3) := by decide +kernel
theorem dX7_init_44 : decode cX7_init 44 = .ok (.return_, 1) := by decide +kernel
theorem dX7_clear_0 : decode cX7_clear 0 = .ok (.aload_n 0, 1) := by decide +kernel
theorem dX7_clear_1 : decode cX7_clear 1 = .ok (.iconst 0, 1) := by decide +kernel
theorem dX7_clear_2 : decode cX7_clear 2 = .ok (.putfield 28, 3) := by decide +kernel
theorem dX7_clear_5 : decode cX7_clear 5 = .ok (.return_, 1) := by decide +kernel
theorem dX7_add_0 : decode cX7_add 0 = .ok (.aload_n 0, 1) := by decide +kernel
theorem dX7_add_1 : decode cX7_add 1 = .ok (.getfield 28, 3) := by decide +kernel
theorem dX7_add_4 : decode cX7_add 4 = .ok (.bipush 8, 2) := by decide +kernel
theorem dX7_add_6 : decode cX7_add 6 = .ok (.if_icmp .ge 65, 3) := by decide +kernel
theorem dX7_add_9 : decode cX7_add 9 = .ok (.aload_n 0, 1) := by decide +kernel
theorem dX7_add_10 : decode cX7_add 10 = .ok (.getfield 9, 3) := by decide +kernel
theorem dX7_add_13 : decode cX7_add 13 = .ok (.aload_n 0, 1) := by decide +kernel
theorem dX7_add_14 : decode cX7_add 14 = .ok (.getfield 28, 3) := by decide +kernel
theorem dX7_add_17 : decode cX7_add 17 = .ok (.iload_n 1, 1) := by decide +kernel
theorem dX7_add_18 : decode cX7_add 18 = .ok (.iastore, 1) := by decide +kernel
theorem dX7_add_19 : decode cX7_add 19 = .ok (.aload_n 0, 1) := by decide +kernel
theorem dX7_add_20 : decode cX7_add 20 = .ok (.getfield 15, 3) := by decide +kernel
theorem dX7_add_23 : decode cX7_add 23 = .ok (.aload_n 0, 1) := by decide +kernel
theorem dX7_add_24 : decode cX7_add 24 = .ok (.getfield 28, 3) := by decide +kernel
theorem dX7_add_27 : decode cX7_add 27 = .ok (.iload_n 2, 1) := by decide +kernel
theorem dX7_add_28 : decode cX7_add 28 = .ok (.iastore, 1) := by decide +kernel
theorem dX7_add_29 : decode cX7_add 29 = .ok (.aload_n 0, 1) := by decide +kernel
theorem dX7_add_30 : decode cX7_add 30 = .ok (.getfield 18, 3) := by decide +kernel
theorem dX7_add_33 : decode cX7_add 33 = .ok (.aload_n 0, 1) := by decide +kernel
theorem dX7_add_34 : decode cX7_add 34 = .ok (.getfield 28, 3) := by decide +kernel
theorem dX7_add_37 : decode cX7_add 37 = .ok (.iload_n 3, 1) := by decide +kernel
theorem dX7_add_38 : decode cX7_add 38 = .ok (.iastore, 1) := by decide +kernel
theorem dX7_add_39 : decode cX7_add 39 = .ok (.aload_n 0, 1) := by decide +kernel
theorem dX7_add_40 : decode cX7_add 40 = .ok (.getfield 21, 3) := by decide +kernel
theorem dX7_add_43 : decode cX7_add 43 = .ok (.aload_n 0, 1) := by decide +kernel
theorem dX7_add_44 : decode cX7_add 44 = .ok (.getfield 28, 3) := by decide +kernel
theorem dX7_add_47 : decode cX7_add 47 = .ok (.iload 4, 2) := by decide +kernel
theorem dX7_add_49 : decode cX7_add 49 = .ok (.iastore, 1) := by decide +kernel
theorem dX7_add_50 : decode cX7_add 50 = .ok (.aload_n 0, 1) := by decide +kernel
theorem dX7_add_51 : decode cX7_add 51 = .ok (.getfield 24, 3) := by decide +kernel
theorem dX7_add_54 : decode cX7_add 54 = .ok (.aload_n 0, 1) := by decide +kernel
theorem dX7_add_55 : decode cX7_add 55 = .ok (.getfield 28, 3) := by decide +kernel
theorem dX7_add_58 : decode cX7_add 58 = .ok (.iload 5, 2) := by decide +kernel
theorem dX7_add_60 : decode cX7_add 60 = .ok (.bastore, 1) := by decide +kernel
theorem dX7_add_61 : decode cX7_add 61 = .ok (.aload_n 0, 1) := by decide +kernel
theorem dX7_add_62 : decode cX7_add 62 = .ok (.dup, 1) := by decide +kernel
theorem dX7_add_63 : decode cX7_add 63 = .ok (.getfield 28, 3) := by decide +kernel
theorem dX7_add_66 : decode cX7_add 66 = .ok (.iconst 1, 1) := by decide +kernel
theorem dX7_add_67 : decode cX7_add 67 = .ok (.iadd, 1) := by decide +kernel
theorem dX7_add_68 : decode cX7_add 68 = .ok (.putfield 28, 3) := by decide +kernel
theorem dX7_add_71 : decode cX7_add 71 = .ok (.return_, 1) := by decide +kernel
theorem dX7_copyFrom_0 : decode cX7_copyFrom 0 = .ok (.aload_n 0, 1) := by decide +kernel
theorem dX7_copyFrom_1 : decode cX7_copyFrom 1 = .ok (.invokevirtual 32, 3) := by decide +kernel
theorem dX7_copyFrom_4 : decode cX7_copyFrom 4 = .ok (.iconst 0, 1) := by decide +kernel
theorem dX7_copyFrom_5 : decode cX7_copyFrom 5 = .ok (.istore_n 2, 1) := by decide +kernel
theorem dX7_copyFrom_6 : decode cX7_copyFrom 6 = .ok (.iload_n 2, 1) := by decide +kernel
theorem dX7_copyFrom_7 : decode cX7_copyFrom 7 = .ok (.aload_n 1, 1) := by decide +kernel
theorem dX7_copyFrom_8 : decode cX7_copyFrom 8 = .ok (.getfield 28, 3) := by decide +kernel
theorem dX7_copyFrom_11 : decode cX7_copyFrom 11 = .ok (.if_icmp .ge 43, 3) := by decide +kernel
theorem dX7_copyFrom_14 : decode cX7_copyFrom 14 = .ok (.aload_n 0, 1) := by decide +kernel
theorem dX7_copyFrom_15 : decode cX7_copyFrom 15 = .ok (.aload_n 1, 1) := by decide +kernel
theorem dX7_copyFrom_16 : decode cX7_copyFrom 16 = .ok (.getfield 9, 3) := by decide +kernel
theorem dX7_copyFrom_19 : decode cX7_copyFrom 19 = .ok (.iload_n 2, 1) := by decide +kernel
theorem dX7_copyFrom_20 : decode cX7_copyFrom 20 = .ok (.iaload, 1) := by decide +kernel
theorem dX7_copyFrom_21 : decode cX7_copyFrom 21 = .ok (.aload_n 1, 1) := by decide +kernel
theorem dX7_copyFrom_22 : decode cX7_copyFrom 22 = .ok (.getfield 15, 3) := by decide +kernel
theorem dX7_copyFrom_25 : decode cX7_copyFrom 25 = .ok (.iload_n 2, 1) := by decide +kernel
theorem dX7_copyFrom_26 : decode cX7_copyFrom 26 = .ok (.iaload, 1) := by decide +kernel
theorem dX7_copyFrom_27 : decode cX7_copyFrom 27 = .ok (.aload_n 1, 1) := by decide +kernel
theorem dX7_copyFrom_28 : decode cX7_copyFrom 28 = .ok (.getfield 18, 3) := by decide +kernel
theorem dX7_copyFrom_31 : decode cX7_copyFrom 31 = .ok (.iload_n 2, 1) := by decide +kernel
theorem dX7_copyFrom_32 : decode cX7_copyFrom 32 = .ok (.iaload, 1) := by decide +kernel
theorem dX7_copyFrom_33 : decode cX7_copyFrom 33 = .ok (.aload_n 1, 1) := by decide +kernel
theorem dX7_copyFrom_34 : decode cX7_copyFrom 34 = .ok (.getfield 21, 3) := by decide +kernel
theorem dX7_copyFrom_37 : decode cX7_copyFrom 37 = .ok (.iload_n 2, 1) := by decide +kernel
theorem dX7_copyFrom_38 : decode cX7_copyFrom 38 = .ok (.iaload, 1) := by decide +kernel
theorem dX7_copyFrom_39 : decode cX7_copyFrom 39 = .ok (.aload_n 1, 1) := by decide +kernel
theorem dX7_copyFrom_40 : decode cX7_copyFrom 40 = .ok (.getfield 24, 3) := by decide +kernel
theorem dX7_copyFrom_43 : decode cX7_copyFrom 43 = .ok (.iload_n 2, 1) := by decide +kernel
theorem dX7_copyFrom_44 : decode cX7_copyFrom 44 = .ok (.baload, 1) := by decide +kernel
theorem dX7_copyFrom_45 : decode cX7_copyFrom 45 = .ok (.invokevirtual 35, 3) := by decide +kernel
theorem dX7_copyFrom_48 : decode cX7_copyFrom 48 = .ok (.iinc 2 1, 3) := by decide +kernel
theorem dX7_copyFrom_51 : decode cX7_copyFrom 51 = .ok (.goto (-45), 3) := by decide +kernel
theorem dX7_copyFrom_54 : decode cX7_copyFrom 54 = .ok (.return_, 1) := by decide +kernel
theorem dX7_farthest_0 : decode cX7_farthest 0 = .ok (.iconst (-1), 1) := by decide +kernel
theorem dX7_farthest_1 : decode cX7_farthest 1 = .ok (.istore_n 1, 1) := by decide +kernel
theorem dX7_farthest_2 : decode cX7_farthest 2 = .ok (.iconst 0, 1) := by decide +kernel
theorem dX7_farthest_3 : decode cX7_farthest 3 = .ok (.istore_n 2, 1) := by decide +kernel
theorem dX7_farthest_4 : decode cX7_farthest 4 = .ok (.iload_n 2, 1) := by decide +kernel
theorem dX7_farthest_5 : decode cX7_farthest 5 = .ok (.aload_n 0, 1) := by decide +kernel
theorem dX7_farthest_6 : decode cX7_farthest 6 = .ok (.getfield 28, 3) := by decide +kernel
theorem dX7_farthest_9 : decode cX7_farthest 9 = .ok (.if_icmp .ge 20, 3) := by decide +kernel
theorem dX7_farthest_12 : decode cX7_farthest 12 = .ok (.iload_n 1, 1) := by decide +kernel
theorem dX7_farthest_13 : decode cX7_farthest 13 = .ok (.aload_n 0, 1) := by decide +kernel
theorem dX7_farthest_14 : decode cX7_farthest 14 = .ok (.getfield 15, 3) := by decide +kernel
theorem dX7_farthest_17 : decode cX7_farthest 17 = .ok (.iload_n 2, 1) := by decide +kernel
theorem dX7_farthest_18 : decode cX7_farthest 18 = .ok (.iaload, 1) := by decide +kernel
theorem dX7_farthest_19 : decode cX7_farthest 19 = .ok (.invokestatic 39, 3) := by decide +kernel
theorem dX7_farthest_22 : decode cX7_farthest 22 = .ok (.istore_n 1, 1) := by decide +kernel
theorem dX7_farthest_23 : decode cX7_farthest 23 = .ok (.iinc 2 1, 3) := by decide +kernel
theorem dX7_farthest_26 : decode cX7_farthest 26 = .ok (.goto (-22), 3) := by decide +kernel
theorem dX7_farthest_29 : decode cX7_farthest 29 = .ok (.iload_n 1, 1) := by decide +kernel
theorem dX7_farthest_30 : decode cX7_farthest 30 = .ok (.ireturn, 1) := by decide +kernel
theorem dX7_holdsIn_0 : decode cX7_holdsIn 0 = .ok (.iconst 0, 1) := by decide +kernel
theorem dX7_holdsIn_1 : decode cX7_holdsIn 1 = .ok (.istore_n 3, 1) := by decide +kernel
theorem dX7_holdsIn_2 : decode cX7_holdsIn 2 = .ok (.iload_n 3, 1) := by decide +kernel
theorem dX7_holdsIn_3 : decode cX7_holdsIn 3 = .ok (.aload_n 0, 1) := by decide +kernel
theorem dX7_holdsIn_4 : decode cX7_holdsIn 4 = .ok (.getfield 28, 3) := by decide +kernel
theorem dX7_holdsIn_7 : decode cX7_holdsIn 7 = .ok (.if_icmp .ge 36, 3) := by decide +kernel
theorem dX7_holdsIn_10 : decode cX7_holdsIn 10 = .ok (.aload_n 0, 1) := by decide +kernel
theorem dX7_holdsIn_11 : decode cX7_holdsIn 11 = .ok (.getfield 15, 3) := by decide +kernel
theorem dX7_holdsIn_14 : decode cX7_holdsIn 14 = .ok (.iload_n 3, 1) := by decide +kernel
theorem dX7_holdsIn_15 : decode cX7_holdsIn 15 = .ok (.iaload, 1) := by decide +kernel
theorem dX7_holdsIn_16 : decode cX7_holdsIn 16 = .ok (.iload_n 2, 1) := by decide +kernel
theorem dX7_holdsIn_17 : decode cX7_holdsIn 17 = .ok (.if_icmp .ne 20, 3) := by decide +kernel
theorem dX7_holdsIn_20 : decode cX7_holdsIn 20 = .ok (.aload_n 0, 1) := by decide +kernel
theorem dX7_holdsIn_21 : decode cX7_holdsIn 21 = .ok (.getfield 24, 3) := by decide +kernel
theorem dX7_holdsIn_24 : decode cX7_holdsIn 24 = .ok (.iload_n 3, 1) := by decide +kernel
theorem dX7_holdsIn_25 : decode cX7_holdsIn 25 = .ok (.baload, 1) := by decide +kernel
theorem dX7_holdsIn_26 : decode cX7_holdsIn 26 = .ok (.aload_n 0, 1) := by decide +kernel
theorem dX7_holdsIn_27 : decode cX7_holdsIn 27 = .ok (.aload_n 1, 1) := by decide +kernel
theorem dX7_holdsIn_28 : decode cX7_holdsIn 28 = .ok (.iload_n 3, 1) := by decide +kernel
theorem dX7_holdsIn_29 : decode cX7_holdsIn 29 = .ok (.invokevirtual 45, 3) := by decide +kernel
theorem dX7_holdsIn_32 : decode cX7_holdsIn 32 = .ok (.if_icmp .eq 5, 3) := by decide +kernel
theorem dX7_holdsIn_35 : decode cX7_holdsIn 35 = .ok (.iconst 0, 1) := by decide +kernel
theorem dX7_holdsIn_36 : decode cX7_holdsIn 36 = .ok (.ireturn, 1) := by decide +kernel
theorem dX7_holdsIn_37 : decode cX7_holdsIn 37 = .ok (.iinc 3 1, 3) := by decide +kernel
theorem dX7_holdsIn_40 : decode cX7_holdsIn 40 = .ok (.goto (-38), 3) := by decide +kernel
theorem dX7_holdsIn_43 : decode cX7_holdsIn 43 = .ok (.iconst 1, 1) := by decide +kernel
theorem dX7_holdsIn_44 : decode cX7_holdsIn 44 = .ok (.ireturn, 1) := by decide +kernel
theorem dX7_isMore_0 : decode cX7_isMore 0 = .ok (.aload_n 1, 1) := by decide +kernel
theorem dX7_isMore_1 : decode cX7_isMore 1 = .ok (.aload_n 0, 1) := by decide +kernel
theorem dX7_isMore_2 : decode cX7_isMore 2 = .ok (.getfield 18, 3) := by decide +kernel
theorem dX7_isMore_5 : decode cX7_isMore 5 = .ok (.iload_n 2, 1) := by decide +kernel
theorem dX7_isMore_6 : decode cX7_isMore 6 = .ok (.iaload, 1) := by decide +kernel
theorem dX7_isMore_7 : decode cX7_isMore 7 = .ok (.aload_n 0, 1) := by decide +kernel
theorem dX7_isMore_8 : decode cX7_isMore 8 = .ok (.getfield 9, 3) := by decide +kernel
theorem dX7_isMore_11 : decode cX7_isMore 11 = .ok (.iload_n 2, 1) := by decide +kernel
theorem dX7_isMore_12 : decode cX7_isMore 12 = .ok (.iaload, 1) := by decide +kernel
theorem dX7_isMore_13 : decode cX7_isMore 13 = .ok (.invokevirtual 49, 3) := by decide +kernel
theorem dX7_isMore_16 : decode cX7_isMore 16 = .ok (.aload_n 1, 1) := by decide +kernel
theorem dX7_isMore_17 : decode cX7_isMore 17 = .ok (.aload_n 0, 1) := by decide +kernel
theorem dX7_isMore_18 : decode cX7_isMore 18 = .ok (.getfield 21, 3) := by decide +kernel
theorem dX7_isMore_21 : decode cX7_isMore 21 = .ok (.iload_n 2, 1) := by decide +kernel
theorem dX7_isMore_22 : decode cX7_isMore 22 = .ok (.iaload, 1) := by decide +kernel
theorem dX7_isMore_23 : decode cX7_isMore 23 = .ok (.aload_n 0, 1) := by decide +kernel
theorem dX7_isMore_24 : decode cX7_isMore 24 = .ok (.getfield 9, 3) := by decide +kernel
theorem dX7_isMore_27 : decode cX7_isMore 27 = .ok (.iload_n 2, 1) := by decide +kernel
theorem dX7_isMore_28 : decode cX7_isMore 28 = .ok (.iaload, 1) := by decide +kernel
theorem dX7_isMore_29 : decode cX7_isMore 29 = .ok (.invokevirtual 49, 3) := by decide +kernel
theorem dX7_isMore_32 : decode cX7_isMore 32 = .ok (.if_icmp .le 7, 3) := by decide +kernel
theorem dX7_isMore_35 : decode cX7_isMore 35 = .ok (.iconst 1, 1) := by decide +kernel
theorem dX7_isMore_36 : decode cX7_isMore 36 = .ok (.goto 4, 3) := by decide +kernel
theorem dX7_isMore_39 : decode cX7_isMore 39 = .ok (.iconst 0, 1) := by decide +kernel
theorem dX7_isMore_40 : decode cX7_isMore 40 = .ok (.ireturn, 1) := by decide +kernel
theorem dX8_init_0 : decode cX8_init 0 = .ok (.aload_n 0, 1) := by decide +kernel
theorem dX8_init_1 : decode cX8_init 1 = .ok (.invokespecial 1, 3) := by decide +kernel
theorem dX8_init_4 : decode cX8_init 4 = .ok (.aload_n 0, 1) := by decide +kernel
theorem dX8_init_5 : decode cX8_init 5 = .ok (.aload_n 1, 1) := by decide +kernel
theorem dX8_init_6 : decode cX8_init 6 = .ok (.putfield 7, 3) := by decide +kernel
theorem dX8_init_9 : decode cX8_init 9 = .ok (.return_, 1) := by decide +kernel
theorem dX8_start_0 : decode cX8_start 0 = .ok (.aload_n 0, 1) := by decide +kernel
theorem dX8_start_1 : decode cX8_start 1 = .ok (.iload_n 1, 1) := by decide +kernel
theorem dX8_start_2 : decode cX8_start 2 = .ok (.aload_n 0, 1) := by decide +kernel
theorem dX8_start_3 : decode cX8_start 3 = .ok (.getfield 7, 3) := by decide +kernel
theorem dX8_start_6 : decode cX8_start 6 = .ok (.arraylength, 1) := by decide +kernel
theorem dX8_start_7 : decode cX8_start 7 = .ok (.invokestatic 13, 3) := by decide +kernel
theorem dX8_start_10 : decode cX8_start 10 = .ok (.putfield 19, 3) := by decide +kernel
theorem dX8_start_13 : decode cX8_start 13 = .ok (.aload_n 0, 1) := by decide +kernel
theorem dX8_start_14 : decode cX8_start 14 = .ok (.iconst 0, 1) := by decide +kernel
theorem dX8_start_15 : decode cX8_start 15 = .ok (.putfield 23, 3) := by decide +kernel
theorem dX8_start_18 : decode cX8_start 18 = .ok (.aload_n 0, 1) := by decide +kernel
theorem dX8_start_19 : decode cX8_start 19 = .ok (.invokevirtual 26, 3) := by decide +kernel
theorem dX8_start_22 : decode cX8_start 22 = .ok (.return_, 1) := by decide +kernel
theorem dX8_advance_0 : decode cX8_advance 0 = .ok (.aload_n 0, 1) := by decide +kernel
theorem dX8_advance_1 : decode cX8_advance 1 = .ok (.aload_n 0, 1) := by decide +kernel
theorem dX8_advance_2 : decode cX8_advance 2 = .ok (.getfield 23, 3) := by decide +kernel
theorem dX8_advance_5 : decode cX8_advance 5 = .ok (.putfield 29, 3) := by decide +kernel
theorem dX8_advance_8 : decode cX8_advance 8 = .ok (.aload_n 0, 1) := by decide +kernel
theorem dX8_advance_9 : decode cX8_advance 9 = .ok (.getfield 29, 3) := by decide +kernel
theorem dX8_advance_12 : decode cX8_advance 12 = .ok (.aload_n 0, 1) := by decide +kernel
theorem dX8_advance_13 : decode cX8_advance 13 = .ok (.getfield 19, 3) := by decide +kernel
theorem dX8_advance_16 : decode cX8_advance 16 = .ok (.if_icmp .ge 44, 3) := by decide +kernel
theorem dX8_advance_19 : decode cX8_advance 19 = .ok (.aload_n 0, 1) := by decide +kernel
theorem dX8_advance_20 : decode cX8_advance 20 = .ok (.getfield 7, 3) := by decide +kernel
theorem dX8_advance_23 : decode cX8_advance 23 = .ok (.aload_n 0, 1) := by decide +kernel
theorem dX8_advance_24 : decode cX8_advance 24 = .ok (.getfield 29, 3) := by decide +kernel
theorem dX8_advance_27 : decode cX8_advance 27 = .ok (.iaload, 1) := by decide +kernel
theorem dX8_advance_28 : decode cX8_advance 28 = .ok (.bipush 32, 2) := by decide +kernel
theorem dX8_advance_30 : decode cX8_advance 30 = .ok (.if_icmp .eq 17, 3) := by decide +kernel
theorem dX8_advance_33 : decode cX8_advance 33 = .ok (.aload_n 0, 1) := by decide +kernel
theorem dX8_advance_34 : decode cX8_advance 34 = .ok (.getfield 7, 3) := by decide +kernel
theorem dX8_advance_37 : decode cX8_advance 37 = .ok (.aload_n 0, 1) := by decide +kernel
theorem dX8_advance_38 : decode cX8_advance 38 = .ok (.getfield 29, 3) := by decide +kernel
theorem dX8_advance_41 : decode cX8_advance 41 = .ok (.iaload, 1) := by decide +kernel
theorem dX8_advance_42 : decode cX8_advance 42 = .ok (.bipush 10, 2) := by decide +kernel
theorem dX8_advance_44 : decode cX8_advance 44 = .ok (.if_icmp .ne 16, 3) := by decide +kernel
theorem dX8_advance_47 : decode cX8_advance 47 = .ok (.aload_n 0, 1) := by decide +kernel
theorem dX8_advance_48 : decode cX8_advance 48 = .ok (.dup, 1) := by decide +kernel
theorem dX8_advance_49 : decode cX8_advance 49 = .ok (.getfield 29, 3) := by decide +kernel
theorem dX8_advance_52 : decode cX8_advance 52 = .ok (.iconst 1, 1) := by decide +kernel
theorem dX8_advance_53 : decode cX8_advance 53 = .ok (.iadd, 1) := by decide +kernel
theorem dX8_advance_54 : decode cX8_advance 54 = .ok (.putfield 29, 3) := by decide +kernel
theorem dX8_advance_57 : decode cX8_advance 57 = .ok (.goto (-49), 3) := by decide +kernel
theorem dX8_advance_60 : decode cX8_advance 60 = .ok (.aload_n 0, 1) := by decide +kernel
theorem dX8_advance_61 : decode cX8_advance 61 = .ok (.aconst_null, 1) := by decide +kernel
theorem dX8_advance_62 : decode cX8_advance 62 = .ok (.putfield 32, 3) := by decide +kernel
theorem dX8_advance_65 : decode cX8_advance 65 = .ok (.aload_n 0, 1) := by decide +kernel
theorem dX8_advance_66 : decode cX8_advance 66 = .ok (.iconst 0, 1) := by decide +kernel
theorem dX8_advance_67 : decode cX8_advance 67 = .ok (.putfield 36, 3) := by decide +kernel
theorem dX8_advance_70 : decode cX8_advance 70 = .ok (.aload_n 0, 1) := by decide +kernel
theorem dX8_advance_71 : decode cX8_advance 71 = .ok (.iconst 0, 1) := by decide +kernel
theorem dX8_advance_72 : decode cX8_advance 72 = .ok (.putfield 39, 3) := by decide +kernel
theorem dX8_advance_75 : decode cX8_advance 75 = .ok (.aload_n 0, 1) := by decide +kernel
theorem dX8_advance_76 : decode cX8_advance 76 = .ok (.iconst 0, 1) := by decide +kernel
theorem dX8_advance_77 : decode cX8_advance 77 = .ok (.putfield 43, 3) := by decide +kernel
theorem dX8_advance_80 : decode cX8_advance 80 = .ok (.aload_n 0, 1) := by decide +kernel
theorem dX8_advance_81 : decode cX8_advance 81 = .ok (.getfield 29, 3) := by decide +kernel
theorem dX8_advance_84 : decode cX8_advance 84 = .ok (.aload_n 0, 1) := by decide +kernel
theorem dX8_advance_85 : decode cX8_advance 85 = .ok (.getfield 19, 3) := by decide +kernel
theorem dX8_advance_88 : decode cX8_advance 88 = .ok (.if_icmp .lt 17, 3) := by decide +kernel
theorem dX8_advance_91 : decode cX8_advance 91 = .ok (.aload_n 0, 1) := by decide +kernel
theorem dX8_advance_92 : decode cX8_advance 92 = .ok (.iconst 0, 1) := by decide +kernel
theorem dX8_advance_93 : decode cX8_advance 93 = .ok (.putfield 46, 3) := by decide +kernel
theorem dX8_advance_96 : decode cX8_advance 96 = .ok (.aload_n 0, 1) := by decide +kernel
theorem dX8_advance_97 : decode cX8_advance 97 = .ok (.aload_n 0, 1) := by decide +kernel
theorem dX8_advance_98 : decode cX8_advance 98 = .ok (.getfield 29, 3) := by decide +kernel
theorem dX8_advance_101 : decode cX8_advance 101 = .ok (.putfield 23, 3) := by decide +kernel
theorem dX8_advance_104 : decode cX8_advance 104 = .ok (.return_, 1) := by decide +kernel
theorem dX8_advance_105 : decode cX8_advance 105 = .ok (.aload_n 0, 1) := by decide +kernel
theorem dX8_advance_106 : decode cX8_advance 106 = .ok (.getfield 7, 3) := by decide +kernel
theorem dX8_advance_109 : decode cX8_advance 109 = .ok (.aload_n 0, 1) := by decide +kernel
theorem dX8_advance_110 : decode cX8_advance 110 = .ok (.getfield 29, 3) := by decide +kernel
theorem dX8_advance_113 : decode cX8_advance 113 = .ok (.iaload, 1) := by decide +kernel
theorem dX8_advance_114 : decode cX8_advance 114 = .ok (.istore_n 1, 1) := by decide +kernel
theorem dX8_advance_115 : decode cX8_advance 115 = .ok (.aload_n 0, 1) := by decide +kernel
theorem dX8_advance_116 : decode cX8_advance 116 = .ok (.aload_n 0, 1) := by decide +kernel
theorem dX8_advance_117 : decode cX8_advance 117 = .ok (.getfield 29, 3) := by decide +kernel
theorem dX8_advance_120 : decode cX8_advance 120 = .ok (.iconst 1, 1) := by decide +kernel
theorem dX8_advance_121 : decode cX8_advance 121 = .ok (.iadd, 1) := by decide +kernel
theorem dX8_advance_122 : decode cX8_advance 122 = .ok (.putfield 23, 3) := by decide +kernel
theorem dX8_advance_125 : decode cX8_advance 125 = .ok (.iload_n 1, 1) := by decide +kernel
theorem dX8_advance_126 : decode cX8_advance 126 = .ok (.invokestatic 49, 3) := by decide +kernel
theorem dX8_advance_129 : decode cX8_advance 129 = .ok (.ifCond .eq 10, 3) := by decide +kernel
theorem dX8_advance_132 : decode cX8_advance 132 = .ok (.aload_n 0, 1) := by decide +kernel
theorem dX8_advance_133 : decode cX8_advance 133 = .ok (.invokevirtual 53, 3) := by decide +kernel
theorem dX8_advance_136 : decode cX8_advance 136 = .ok (.goto 45, 3) := by decide +kernel
theorem dX8_advance_139 : decode cX8_advance 139 = .ok (.iload_n 1, 1) := by decide +kernel
theorem dX8_advance_140 : decode cX8_advance 140 = .ok (.invokestatic 56, 3) := by decide +kernel
theorem dX8_advance_143 : decode cX8_advance 143 = .ok (.ifCond .eq 10, 3) := by decide +kernel
theorem dX8_advance_146 : decode cX8_advance 146 = .ok (.aload_n 0, 1) := by decide +kernel
theorem dX8_advance_147 : decode cX8_advance 147 = .ok (.invokevirtual 59, 3) := by decide +kernel
theorem dX8_advance_150 : decode cX8_advance 150 = .ok (.goto 31, 3) := by decide +kernel
theorem dX8_advance_153 : decode cX8_advance 153 = .ok (.ldc 62, 2) := by decide +kernel
theorem dX8_advance_155 : decode cX8_advance 155 = .ok (.iload_n 1, 1) := by decide +kernel
theorem dX8_advance_156 : decode cX8_advance 156 = .ok (.i2c, 1) := by decide +kernel
theorem dX8_advance_157 : decode cX8_advance 157 = .ok (.invokevirtual 64, 3) := by decide +kernel
theorem dX8_advance_160 : decode cX8_advance 160 = .ok (.ifCond .lt 16, 3) := by decide +kernel
theorem dX8_advance_163 : decode cX8_advance 163 = .ok (.aload_n 0, 1) := by decide +kernel
theorem dX8_advance_164 : decode cX8_advance 164 = .ok (.iconst 3, 1) := by decide +kernel
theorem dX8_advance_165 : decode cX8_advance 165 = .ok (.putfield 46, 3) := by decide +kernel
theorem dX8_advance_168 : decode cX8_advance 168 = .ok (.aload_n 0, 1) := by decide +kernel
theorem dX8_advance_169 : decode cX8_advance 169 = .ok (.iload_n 1, 1) := by decide +kernel
theorem dX8_advance_170 : decode cX8_advance 170 = .ok (.putfield 43, 3) := by decide +kernel
theorem dX8_advance_173 : decode cX8_advance 173 = .ok (.goto 8, 3) := by decide +kernel
theorem dX8_advance_176 : decode cX8_advance 176 = .ok (.aload_n 0, 1) := by decide +kernel
theorem dX8_advance_177 : decode cX8_advance 177 = .ok (.iconst 4, 1) := by decide +kernel
theorem dX8_advance_178 : decode cX8_advance 178 = .ok (.putfield 46, 3) := by decide +kernel
theorem dX8_advance_181 : decode cX8_advance 181 = .ok (.return_, 1) := by decide +kernel
theorem dX8_takeWord_0 : decode cX8_takeWord 0 = .ok (.aload_n 0, 1) := by decide +kernel
theorem dX8_takeWord_1 : decode cX8_takeWord 1 = .ok (.iconst 1, 1) := by decide +kernel
theorem dX8_takeWord_2 : decode cX8_takeWord 2 = .ok (.putfield 46, 3) := by decide +kernel
theorem dX8_takeWord_5 : decode cX8_takeWord 5 = .ok (.aload_n 0, 1) := by decide +kernel
theorem dX8_takeWord_6 : decode cX8_takeWord 6 = .ok (.getfield 23, 3) := by decide +kernel
theorem dX8_takeWord_9 : decode cX8_takeWord 9 = .ok (.aload_n 0, 1) := by decide +kernel
theorem dX8_takeWord_10 : decode cX8_takeWord 10 = .ok (.getfield 19, 3) := by decide +kernel
theorem dX8_takeWord_13 : decode cX8_takeWord 13 = .ok (.if_icmp .ge 31, 3) := by decide +kernel
theorem dX8_takeWord_16 : decode cX8_takeWord 16 = .ok (.aload_n 0, 1) := by decide +kernel
theorem dX8_takeWord_17 : decode cX8_takeWord 17 = .ok (.getfield 7, 3) := by decide +kernel
theorem dX8_takeWord_20 : decode cX8_takeWord 20 = .ok (.aload_n 0, 1) := by decide +kernel
theorem dX8_takeWord_21 : decode cX8_takeWord 21 = .ok (.getfield 23, 3) := by decide +kernel
theorem dX8_takeWord_24 : decode cX8_takeWord 24 = .ok (.iaload, 1) := by decide +kernel
theorem dX8_takeWord_25 : decode cX8_takeWord 25 = .ok (.invokestatic 49, 3) := by decide +kernel
theorem dX8_takeWord_28 : decode cX8_takeWord 28 = .ok (.ifCond .eq 16, 3) := by decide +kernel
theorem dX8_takeWord_31 : decode cX8_takeWord 31 = .ok (.aload_n 0, 1) := by decide +kernel
theorem dX8_takeWord_32 : decode cX8_takeWord 32 = .ok (.dup, 1) := by decide +kernel
theorem dX8_takeWord_33 : decode cX8_takeWord 33 = .ok (.getfield 23, 3) := by decide +kernel
theorem dX8_takeWord_36 : decode cX8_takeWord 36 = .ok (.iconst 1, 1) := by decide +kernel
theorem dX8_takeWord_37 : decode cX8_takeWord 37 = .ok (.iadd, 1) := by decide +kernel
theorem dX8_takeWord_38 : decode cX8_takeWord 38 = .ok (.putfield 23, 3) := by decide +kernel
theorem dX8_takeWord_41 : decode cX8_takeWord 41 = .ok (.goto (-36), 3) := by decide +kernel
theorem dX8_takeWord_44 : decode cX8_takeWord 44 = .ok (.aload_n 0, 1) := by decide +kernel
theorem dX8_takeWord_45 : decode cX8_takeWord 45 = .ok (.aload_n 0, 1) := by decide +kernel
theorem dX8_takeWord_46 : decode cX8_takeWord 46 = .ok (.getfield 7, 3) := by decide +kernel
theorem dX8_takeWord_49 : decode cX8_takeWord 49 = .ok (.aload_n 0, 1) := by decide +kernel
theorem dX8_takeWord_50 : decode cX8_takeWord 50 = .ok (.getfield 29, 3) := by decide +kernel
theorem dX8_takeWord_53 : decode cX8_takeWord 53 = .ok (.aload_n 0, 1) := by decide +kernel
theorem dX8_takeWord_54 : decode cX8_takeWord 54 = .ok (.getfield 23, 3) := by decide +kernel
theorem dX8_takeWord_57 : decode cX8_takeWord 57 = .ok (.invokestatic 70, 3) := by decide +kernel
theorem dX8_takeWord_60 : decode cX8_takeWord 60 = .ok (.putfield 32, 3) := by decide +kernel
theorem dX8_takeWord_63 : decode cX8_takeWord 63 = .ok (.return_, 1) := by decide +kernel
theorem dX8_takeNumber_0 : decode cX8_takeNumber 0 = .ok (.aload_n 0, 1) := by decide +kernel
theorem dX8_takeNumber_1 : decode cX8_takeNumber 1 = .ok (.iconst 2, 1) := by decide +kernel
theorem dX8_takeNumber_2 : decode cX8_takeNumber 2 = .ok (.putfield 46, 3) := by decide +kernel
theorem dX8_takeNumber_5 : decode cX8_takeNumber 5 = .ok (.aload_n 0, 1) := by decide +kernel
theorem dX8_takeNumber_6 : decode cX8_takeNumber 6 = .ok (.getfield 23, 3) := by decide +kernel
theorem dX8_takeNumber_9 : decode cX8_takeNumber 9 = .ok (.aload_n 0, 1) := by decide +kernel
theorem dX8_takeNumber_10 : decode cX8_takeNumber 10 = .ok (.getfield 19, 3) := by decide +kernel
theorem dX8_takeNumber_13 : decode cX8_takeNumber 13 = .ok (.if_icmp .ge 31, 3) := by decide +kernel
theorem dX8_takeNumber_16 : decode cX8_takeNumber 16 = .ok (.aload_n 0, 1) := by decide +kernel
theorem dX8_takeNumber_17 : decode cX8_takeNumber 17 = .ok (.getfield 7, 3) := by decide +kernel
theorem dX8_takeNumber_20 : decode cX8_takeNumber 20 = .ok (.aload_n 0, 1) := by decide +kernel
theorem dX8_takeNumber_21 : decode cX8_takeNumber 21 = .ok (.getfield 23, 3) := by decide +kernel
theorem dX8_takeNumber_24 : decode cX8_takeNumber 24 = .ok (.iaload, 1) := by decide +kernel
theorem dX8_takeNumber_25 : decode cX8_takeNumber 25 = .ok (.invokestatic 56, 3) := by decide +kernel
theorem dX8_takeNumber_28 : decode cX8_takeNumber 28 = .ok (.ifCond .eq 16, 3) := by decide +kernel
theorem dX8_takeNumber_31 : decode cX8_takeNumber 31 = .ok (.aload_n 0, 1) := by decide +kernel
theorem dX8_takeNumber_32 : decode cX8_takeNumber 32 = .ok (.dup, 1) := by decide +kernel
theorem dX8_takeNumber_33 : decode cX8_takeNumber 33 = .ok (.getfield 23, 3) := by decide +kernel
theorem dX8_takeNumber_36 : decode cX8_takeNumber 36 = .ok (.iconst 1, 1) := by decide +kernel
theorem dX8_takeNumber_37 : decode cX8_takeNumber 37 = .ok (.iadd, 1) := by decide +kernel
theorem dX8_takeNumber_38 : decode cX8_takeNumber 38 = .ok (.putfield 23, 3) := by decide +kernel
theorem dX8_takeNumber_41 : decode cX8_takeNumber 41 = .ok (.goto (-36), 3) := by decide +kernel
theorem dX8_takeNumber_44 : decode cX8_takeNumber 44 = .ok (.aload_n 0, 1) := by decide +kernel
theorem dX8_takeNumber_45 : decode cX8_takeNumber 45 = .ok (.aload_n 0, 1) := by decide +kernel
theorem dX8_takeNumber_46 : decode cX8_takeNumber 46 = .ok (.getfield 23, 3) := by decide +kernel
theorem dX8_takeNumber_49 : decode cX8_takeNumber 49 = .ok (.aload_n 0, 1) := by decide +kernel
theorem dX8_takeNumber_50 : decode cX8_takeNumber 50 = .ok (.getfield 29, 3) := by decide +kernel
theorem dX8_takeNumber_53 : decode cX8_takeNumber 53 = .ok (.isub, 1) := by decide +kernel
theorem dX8_takeNumber_54 : decode cX8_takeNumber 54 = .ok (.iconst 4, 1) := by decide +kernel
theorem dX8_takeNumber_55 : decode cX8_takeNumber 55 = .ok (.if_icmp .le 7, 3) := by decide +kernel
theorem dX8_takeNumber_58 : decode cX8_takeNumber 58 = .ok (.iconst 1, 1) := by decide +kernel
theorem dX8_takeNumber_59 : decode cX8_takeNumber 59 = .ok (.goto 4, 3) := by decide +kernel
theorem dX8_takeNumber_62 : decode cX8_takeNumber 62 = .ok (.iconst 0, 1) := by decide +kernel
theorem dX8_takeNumber_63 : decode cX8_takeNumber 63 = .ok (.putfield 39, 3) := by decide +kernel
theorem dX8_takeNumber_66 : decode cX8_takeNumber 66 = .ok (.aload_n 0, 1) := by decide +kernel
theorem dX8_takeNumber_67 : decode cX8_takeNumber 67 = .ok (.getfield 29, 3) := by decide +kernel
theorem dX8_takeNumber_70 : decode cX8_takeNumber 70 = .ok (.istore_n 1, 1) := by decide +kernel
theorem dX8_takeNumber_71 : decode cX8_takeNumber 71 = .ok (.iload_n 1, 1) := by decide +kernel
theorem dX8_takeNumber_72 : decode cX8_takeNumber 72 = .ok (.aload_n 0, 1) := by decide +kernel
theorem dX8_takeNumber_73 : decode cX8_takeNumber 73 = .ok (.getfield 23, 3) := by decide +kernel
theorem dX8_takeNumber_76 : decode cX8_takeNumber 76 = .ok (.if_icmp .ge 37, 3) := by decide +kernel
theorem dX8_takeNumber_79 : decode cX8_takeNumber 79 = .ok (.aload_n 0, 1) := by decide +kernel
theorem dX8_takeNumber_80 : decode cX8_takeNumber 80 = .ok (.getfield 39, 3) := by decide +kernel
theorem dX8_takeNumber_83 : decode cX8_takeNumber 83 = .ok (.ifCond .ne 30, 3) := by decide +kernel
theorem dX8_takeNumber_86 : decode cX8_takeNumber 86 = .ok (.aload_n 0, 1) := by decide +kernel
theorem dX8_takeNumber_87 : decode cX8_takeNumber 87 = .ok (.aload_n 0, 1) := by decide +kernel
theorem dX8_takeNumber_88 : decode cX8_takeNumber 88 = .ok (.getfield 36, 3) := by decide +kernel
theorem dX8_takeNumber_91 : decode cX8_takeNumber 91 = .ok (.bipush 10, 2) := by decide +kernel
theorem dX8_takeNumber_93 : decode cX8_takeNumber 93 = .ok (.imul, 1) := by decide +kernel
theorem dX8_takeNumber_94 : decode cX8_takeNumber 94 = .ok (.aload_n 0, 1) := by decide +kernel
theorem dX8_takeNumber_95 : decode cX8_takeNumber 95 = .ok (.getfield 7, 3) := by decide +kernel
theorem dX8_takeNumber_98 : decode cX8_takeNumber 98 = .ok (.iload_n 1, 1) := by decide +kernel
theorem dX8_takeNumber_99 : decode cX8_takeNumber 99 = .ok (.iaload, 1) := by decide +kernel
theorem dX8_takeNumber_100 : decode cX8_takeNumber 100 = .ok (.iadd, 1) := by decide +kernel
theorem dX8_takeNumber_101 : decode cX8_takeNumber 101 = .ok (.bipush 48, 2) := by decide +kernel
theorem dX8_takeNumber_103 : decode cX8_takeNumber 103 = .ok (.isub, 1) := by decide +kernel
theorem dX8_takeNumber_104 : decode cX8_takeNumber 104 = .ok (.putfield 36, 3) := by decide +kernel
theorem dX8_takeNumber_107 : decode cX8_takeNumber 107 = .ok (.iinc 1 1, 3) := by decide +kernel
theorem dX8_takeNumber_110 : decode cX8_takeNumber 110 = .ok (.goto (-39), 3) := by decide +kernel
theorem dX8_takeNumber_113 : decode cX8_takeNumber 113 = .ok (.return_, 1) := by decide +kernel
theorem dX8_isLetter_0 : decode cX8_isLetter 0 = .ok (.iload_n 0, 1) := by decide +kernel
theorem dX8_isLetter_1 : decode cX8_isLetter 1 = .ok (.bipush 97, 2) := by decide +kernel
theorem dX8_isLetter_3 : decode cX8_isLetter 3 = .ok (.if_icmp .lt 13, 3) := by decide +kernel
theorem dX8_isLetter_6 : decode cX8_isLetter 6 = .ok (.iload_n 0, 1) := by decide +kernel
theorem dX8_isLetter_7 : decode cX8_isLetter 7 = .ok (.bipush 122, 2) := by decide +kernel
theorem dX8_isLetter_9 : decode cX8_isLetter 9 = .ok (.if_icmp .gt 7, 3) := by decide +kernel
theorem dX8_isLetter_12 : decode cX8_isLetter 12 = .ok (.iconst 1, 1) := by decide +kernel
theorem dX8_isLetter_13 : decode cX8_isLetter 13 = .ok (.goto 4, 3) := by decide +kernel
theorem dX8_isLetter_16 : decode cX8_isLetter 16 = .ok (.iconst 0, 1) := by decide +kernel
theorem dX8_isLetter_17 : decode cX8_isLetter 17 = .ok (.ireturn, 1) := by decide +kernel
theorem dX8_isDigit_0 : decode cX8_isDigit 0 = .ok (.iload_n 0, 1) := by decide +kernel
theorem dX8_isDigit_1 : decode cX8_isDigit 1 = .ok (.bipush 48, 2) := by decide +kernel
theorem dX8_isDigit_3 : decode cX8_isDigit 3 = .ok (.if_icmp .lt 13, 3) := by decide +kernel
theorem dX8_isDigit_6 : decode cX8_isDigit 6 = .ok (.iload_n 0, 1) := by decide +kernel
theorem dX8_isDigit_7 : decode cX8_isDigit 7 = .ok (.bipush 57, 2) := by decide +kernel
theorem dX8_isDigit_9 : decode cX8_isDigit 9 = .ok (.if_icmp .gt 7, 3) := by decide +kernel
theorem dX8_isDigit_12 : decode cX8_isDigit 12 = .ok (.iconst 1, 1) := by decide +kernel
theorem dX8_isDigit_13 : decode cX8_isDigit 13 = .ok (.goto 4, 3) := by decide +kernel
theorem dX8_isDigit_16 : decode cX8_isDigit 16 = .ok (.iconst 0, 1) := by decide +kernel
theorem dX8_isDigit_17 : decode cX8_isDigit 17 = .ok (.ireturn, 1) := by decide +kernel
theorem dX9_init_0 : decode cX9_init 0 = .ok (.aload_n 0, 1) := by decide +kernel
theorem dX9_init_1 : decode cX9_init 1 = .ok (.invokespecial 3, 3) := by decide +kernel
theorem dX9_init_4 : decode cX9_init 4 = .ok (.aload_n 0, 1) := by decide +kernel
theorem dX9_init_5 : decode cX9_init 5 = .ok (.bipush 6, 2) := by decide +kernel
theorem dX9_init_7 : decode cX9_init 7 = .ok (.newarray .int, 2) := by decide +kernel
theorem dX9_init_9 : decode cX9_init 9 = .ok (.putfield 9, 3) := by decide +kernel
theorem dX9_init_12 : decode cX9_init 12 = .ok (.aload_n 0, 1) := by decide +kernel
theorem dX9_init_13 : decode cX9_init 13 = .ok (.iconst 4, 1) := by decide +kernel
theorem dX9_init_14 : decode cX9_init 14 = .ok (.newarray .int, 2) := by decide +kernel
theorem dX9_init_16 : decode cX9_init 16 = .ok (.putfield 15, 3) := by decide +kernel
theorem dX9_init_19 : decode cX9_init 19 = .ok (.aload_n 0, 1) := by decide +kernel
theorem dX9_init_20 : decode cX9_init 20 = .ok (.aload_n 1, 1) := by decide +kernel
theorem dX9_init_21 : decode cX9_init 21 = .ok (.putfield 18, 3) := by decide +kernel
theorem dX9_init_24 : decode cX9_init 24 = .ok (.aload_n 0, 1) := by decide +kernel
theorem dX9_init_25 : decode cX9_init 25 = .ok (.aload_n 2, 1) := by decide +kernel
theorem dX9_init_26 : decode cX9_init 26 = .ok (.putfield 22, 3) := by decide +kernel
theorem dX9_init_29 : decode cX9_init 29 = .ok (.aload_n 0, 1) := by decide +kernel
theorem dX9_init_30 : decode cX9_init 30 = .ok (.aload_n 3, 1) := by decide +kernel
theorem dX9_init_31 : decode cX9_init 31 = .ok (.putfield 25, 3) := by decide +kernel
theorem dX9_init_34 : decode cX9_init 34 = .ok (.return_, 1) := by decide +kernel
theorem dX9_letPass_0 : decode cX9_letPass 0 = .ok (.aload_n 0, 1) := by decide +kernel
theorem dX9_letPass_1 : decode cX9_letPass 1 = .ok (.getfield 22, 3) := by decide +kernel
theorem dX9_letPass_4 : decode cX9_letPass 4 = .ok (.aload_n 0, 1) := by decide +kernel
theorem dX9_letPass_5 : decode cX9_letPass 5 = .ok (.getfield 18, 3) := by decide +kernel
theorem dX9_letPass_8 : decode cX9_letPass 8 = .ok (.invokevirtual 29, 3) := by decide +kernel
theorem dX9_letPass_11 : decode cX9_letPass 11 = .ok (.iconst 0, 1) := by decide +kernel
theorem dX9_letPass_12 : decode cX9_letPass 12 = .ok (.istore_n 2, 1) := by decide +kernel
theorem dX9_letPass_13 : decode cX9_letPass 13 = .ok (.iload_n 2, 1) := by decide +kernel
theorem dX9_letPass_14 : decode cX9_letPass 14 = .ok (.iload_n 1, 1) := by decide +kernel
theorem dX9_letPass_15 : decode cX9_letPass 15 = .ok (.if_icmp .ge 16, 3) := by decide +kernel
theorem dX9_letPass_18 : decode cX9_letPass 18 = .ok (.aload_n 0, 1) := by decide +kernel
theorem dX9_letPass_19 : decode cX9_letPass 19 = .ok (.getfield 22, 3) := by decide +kernel
theorem dX9_letPass_22 : decode cX9_letPass 22 = .ok (.invokevirtual 35, 3) := by decide +kernel
theorem dX9_letPass_25 : decode cX9_letPass 25 = .ok (.iinc 2 1, 3) := by decide +kernel
theorem dX9_letPass_28 : decode cX9_letPass 28 = .ok (.goto (-15), 3) := by decide +kernel
theorem dX9_letPass_31 : decode cX9_letPass 31 = .ok (.return_, 1) := by decide +kernel
theorem dX9_foresee_0 : decode cX9_foresee 0 = .ok (.aload_n 0, 1) := by decide +kernel
theorem dX9_foresee_1 : decode cX9_foresee 1 = .ok (.getfield 18, 3) := by decide +kernel
theorem dX9_foresee_4 : decode cX9_foresee 4 = .ok (.invokevirtual 38, 3) := by decide +kernel
theorem dX9_foresee_7 : decode cX9_foresee 7 = .ok (.bipush 60, 2) := by decide +kernel
theorem dX9_foresee_9 : decode cX9_foresee 9 = .ok (.iadd, 1) := by decide +kernel
theorem dX9_foresee_10 : decode cX9_foresee 10 = .ok (.istore_n 1, 1) := by decide +kernel
theorem dX9_foresee_11 : decode cX9_foresee 11 = .ok (.iconst 0, 1) := by decide +kernel
theorem dX9_foresee_12 : decode cX9_foresee 12 = .ok (.istore_n 2, 1) := by decide +kernel
theorem dX9_foresee_13 : decode cX9_foresee 13 = .ok (.iload_n 2, 1) := by decide +kernel
theorem dX9_foresee_14 : decode cX9_foresee 14 = .ok (.bipush 60, 2) := by decide +kernel
theorem dX9_foresee_16 : decode cX9_foresee 16 = .ok (.if_icmp .ge 27, 3) := by decide +kernel
theorem dX9_foresee_19 : decode cX9_foresee 19 = .ok (.aload_n 0, 1) := by decide +kernel
theorem dX9_foresee_20 : decode cX9_foresee 20 = .ok (.getfield 22, 3) := by decide +kernel
theorem dX9_foresee_23 : decode cX9_foresee 23 = .ok (.iload_n 1, 1) := by decide +kernel
theorem dX9_foresee_24 : decode cX9_foresee 24 = .ok (.invokevirtual 42, 3) := by decide +kernel
theorem dX9_foresee_27 : decode cX9_foresee 27 = .ok (.ifCond .eq 16, 3) := by decide +kernel
theorem dX9_foresee_30 : decode cX9_foresee 30 = .ok (.aload_n 0, 1) := by decide +kernel
theorem dX9_foresee_31 : decode cX9_foresee 31 = .ok (.getfield 22, 3) := by decide +kernel
theorem dX9_foresee_34 : decode cX9_foresee 34 = .ok (.invokevirtual 35, 3) := by decide +kernel
theorem dX9_foresee_37 : decode cX9_foresee 37 = .ok (.iinc 2 1, 3) := by decide +kernel
theorem dX9_foresee_40 : decode cX9_foresee 40 = .ok (.goto (-27), 3) := by decide +kernel
theorem dX9_foresee_43 : decode cX9_foresee 43 = .ok (.return_, 1) := by decide +kernel
theorem dX9_leaderNow_0 : decode cX9_leaderNow 0 = .ok (.aload_n 0, 1) := by decide +kernel
theorem dX9_leaderNow_1 : decode cX9_leaderNow 1 = .ok (.getfield 22, 3) := by decide +kernel
theorem dX9_leaderNow_4 : decode cX9_leaderNow 4 = .ok (.aload_n 0, 1) := by decide +kernel
theorem dX9_leaderNow_5 : decode cX9_leaderNow 5 = .ok (.getfield 18, 3) := by decide +kernel
theorem dX9_leaderNow_8 : decode cX9_leaderNow 8 = .ok (.invokevirtual 29, 3) := by decide +kernel
theorem dX9_leaderNow_11 : decode cX9_leaderNow 11 = .ok (.aload_n 0, 1) := by decide +kernel
theorem dX9_leaderNow_12 : decode cX9_leaderNow 12 = .ok (.invokevirtual 46, 3) := by decide +kernel
theorem dX9_leaderNow_15 : decode cX9_leaderNow 15 = .ok (.aload_n 0, 1) := by decide +kernel
theorem dX9_leaderNow_16 : decode cX9_leaderNow 16 = .ok (.getfield 22, 3) := by decide +kernel
theorem dX9_leaderNow_19 : decode cX9_leaderNow 19 = .ok (.iload_n 1, 1) := by decide +kernel
theorem dX9_leaderNow_20 : decode cX9_leaderNow 20 = .ok (.invokevirtual 49, 3) := by decide +kernel
theorem dX9_leaderNow_23 : decode cX9_leaderNow 23 = .ok (.ireturn, 1) := by decide +kernel
theorem dX9_newlyLed_0 : decode cX9_newlyLed 0 = .ok (.aload_n 0, 1) := by decide +kernel
theorem dX9_newlyLed_1 : decode cX9_newlyLed 1 = .ok (.getfield 22, 3) := by decide +kernel
theorem dX9_newlyLed_4 : decode cX9_newlyLed 4 = .ok (.iload_n 1, 1) := by decide +kernel
theorem dX9_newlyLed_5 : decode cX9_newlyLed 5 = .ok (.invokevirtual 53, 3) := by decide +kernel
theorem dX9_newlyLed_8 : decode cX9_newlyLed 8 = .ok (.invokestatic 56, 3) := by decide +kernel
theorem dX9_newlyLed_11 : decode cX9_newlyLed 11 = .ok (.aload_n 0, 1) := by decide +kernel
theorem dX9_newlyLed_12 : decode cX9_newlyLed 12 = .ok (.getfield 18, 3) := by decide +kernel
theorem dX9_newlyLed_15 : decode cX9_newlyLed 15 = .ok (.iload_n 1, 1) := by decide +kernel
theorem dX9_newlyLed_16 : decode cX9_newlyLed 16 = .ok (.invokevirtual 53, 3) := by decide +kernel
theorem dX9_newlyLed_19 : decode cX9_newlyLed 19 = .ok (.invokestatic 56, 3) := by decide +kernel
theorem dX9_newlyLed_22 : decode cX9_newlyLed 22 = .ok (.isub, 1) := by decide +kernel
theorem dX9_newlyLed_23 : decode cX9_newlyLed 23 = .ok (.ireturn, 1) := by decide +kernel
theorem dX9_leastTrains_0 : decode cX9_leastTrains 0 = .ok (.aload_n 0, 1) := by decide +kernel
theorem dX9_leastTrains_1 : decode cX9_leastTrains 1 = .ok (.getfield 18, 3) := by decide +kernel
theorem dX9_leastTrains_4 : decode cX9_leastTrains 4 = .ok (.iload_n 2, 1) := by decide +kernel
theorem dX9_leastTrains_5 : decode cX9_leastTrains 5 = .ok (.invokevirtual 61, 3) := by decide +kernel
theorem dX9_leastTrains_8 : decode cX9_leastTrains 8 = .ok (.ifCond .ne 5, 3) := by decide +kernel
theorem dX9_leastTrains_11 : decode cX9_leastTrains 11 = .ok (.iconst (-1), 1) := by decide +kernel
theorem dX9_leastTrains_12 : decode cX9_leastTrains 12 = .ok (.ireturn, 1) := by decide +kernel
theorem dX9_leastTrains_13 : decode cX9_leastTrains 13 = .ok (.iconst 0, 1) := by decide +kernel
theorem dX9_leastTrains_14 : decode cX9_leastTrains 14 = .ok (.istore_n 3, 1) := by decide +kernel
theorem dX9_leastTrains_15 : decode cX9_leastTrains 15 = .ok (.iload_n 3, 1) := by decide +kernel
theorem dX9_leastTrains_16 : decode cX9_leastTrains 16 = .ok (.bipush 9, 2) := by decide +kernel
theorem dX9_leastTrains_18 : decode cX9_leastTrains 18 = .ok (.if_icmp .gt 47, 3) := by decide +kernel
theorem dX9_leastTrains_21 : decode cX9_leastTrains 21 = .ok (.aload_n 0, 1) := by decide +kernel
theorem dX9_leastTrains_22 : decode cX9_leastTrains 22 = .ok (.getfield 22, 3) := by decide +kernel
theorem dX9_leastTrains_25 : decode cX9_leastTrains 25 = .ok (.aload_n 0, 1) := by decide +kernel
theorem dX9_leastTrains_26 : decode cX9_leastTrains 26 = .ok (.getfield 18, 3) := by decide +kernel
theorem dX9_leastTrains_29 : decode cX9_leastTrains 29 = .ok (.invokevirtual 29, 3) := by decide +kernel
theorem dX9_leastTrains_32 : decode cX9_leastTrains 32 = .ok (.aload_n 0, 1) := by decide +kernel
theorem dX9_leastTrains_33 : decode cX9_leastTrains 33 = .ok (.getfield 22, 3) := by decide +kernel
theorem dX9_leastTrains_36 : decode cX9_leastTrains 36 = .ok (.iload_n 1, 1) := by decide +kernel
theorem dX9_leastTrains_37 : decode cX9_leastTrains 37 = .ok (.iload_n 3, 1) := by decide +kernel
theorem dX9_leastTrains_38 : decode cX9_leastTrains 38 = .ok (.invokevirtual 64, 3) := by decide +kernel
theorem dX9_leastTrains_41 : decode cX9_leastTrains 41 = .ok (.aload_n 0, 1) := by decide +kernel
theorem dX9_leastTrains_42 : decode cX9_leastTrains 42 = .ok (.invokevirtual 46, 3) := by decide +kernel
theorem dX9_leastTrains_45 : decode cX9_leastTrains 45 = .ok (.aload_n 0, 1) := by decide +kernel
theorem dX9_leastTrains_46 : decode cX9_leastTrains 46 = .ok (.getfield 22, 3) := by decide +kernel
theorem dX9_leastTrains_49 : decode cX9_leastTrains 49 = .ok (.iload_n 2, 1) := by decide +kernel
theorem dX9_leastTrains_50 : decode cX9_leastTrains 50 = .ok (.invokevirtual 49, 3) := by decide +kernel
theorem dX9_leastTrains_53 : decode cX9_leastTrains 53 = .ok (.iload_n 1, 1) := by decide +kernel
theorem dX9_leastTrains_54 : decode cX9_leastTrains 54 = .ok (.if_icmp .ne 5, 3) := by decide +kernel
theorem dX9_leastTrains_57 : decode cX9_leastTrains 57 = .ok (.iload_n 3, 1) := by decide +kernel
theorem dX9_leastTrains_58 : decode cX9_leastTrains 58 = .ok (.ireturn, 1) := by decide +kernel
theorem dX9_leastTrains_59 : decode cX9_leastTrains 59 = .ok (.iinc 3 1, 3) := by decide +kernel
theorem dX9_leastTrains_62 : decode cX9_leastTrains 62 = .ok (.goto (-47), 3) := by decide +kernel
theorem dX9_leastTrains_65 : decode cX9_leastTrains 65 = .ok (.iconst (-1), 1) := by decide +kernel
theorem dX9_leastTrains_66 : decode cX9_leastTrains 66 = .ok (.ireturn, 1) := by decide +kernel
theorem dX9_otherwiseWithout_0 : decode cX9_otherwiseWithout 0 = .ok (.aload_n 0, 1) := by decide +kernel
theorem dX9_otherwiseWithout_1 : decode cX9_otherwiseWithout 1 = .ok (.getfield 22, 3) := by decide +kernel
theorem dX9_otherwiseWithout_4 : decode cX9_otherwiseWithout 4 = .ok (.aload_n 0, 1) := by decide +kernel
theorem dX9_otherwiseWithout_5 : decode cX9_otherwiseWithout 5 = .ok (.getfield 18, 3) := by decide +kernel
theorem dX9_otherwiseWithout_8 : decode cX9_otherwiseWithout 8 = .ok (.invokevirtual 29, 3) := by decide +kernel
theorem dX9_otherwiseWithout_11 : decode cX9_otherwiseWithout 11 = .ok (.aload_n 0, 1) := by decide +kernel
theorem dX9_otherwiseWithout_12 : decode cX9_otherwiseWithout 12 = .ok (.invokevirtual 46, 3) := by decide +kernel
theorem dX9_otherwiseWithout_15 : decode cX9_otherwiseWithout 15 = .ok (.iconst 0, 1) := by decide +kernel
theorem dX9_otherwiseWithout_16 : decode cX9_otherwiseWithout 16 = .ok (.istore_n 2, 1) := by decide +kernel
theorem dX9_otherwiseWithout_17 : decode cX9_otherwiseWithout 17 = .ok (.iload_n 2, 1) := by decide +kernel
theorem dX9_otherwiseWithout_18 : decode cX9_otherwiseWithout 18 = .ok (.aload_n 0, 1) := by decide +kernel
theorem dX9_otherwiseWithout_19 : decode cX9_otherwiseWithout 19 = .ok (.getfield 18, 3) := by decide +kernel
theorem dX9_otherwiseWithout_22 : decode cX9_otherwiseWithout 22 = .ok (.getfield 68, 3) := by decide +kernel
theorem dX9_otherwiseWithout_25 : decode cX9_otherwiseWithout 25 = .ok (.getfield 72, 3) := by decide +kernel
theorem dX9_otherwiseWithout_28 : decode cX9_otherwiseWithout 28 = .ok (.if_icmp .ge 23, 3) := by decide +kernel
theorem dX9_otherwiseWithout_31 : decode cX9_otherwiseWithout 31 = .ok (.aload_n 0, 1) := by decide +kernel
theorem dX9_otherwiseWithout_32 : decode cX9_otherwiseWithout 32 = .ok (.getfield 9, 3) := by decide +kernel
theorem dX9_otherwiseWithout_35 : decode cX9_otherwiseWithout 35 = .ok (.iload_n 2, 1) := by decide +kernel
theorem dX9_otherwiseWithout_36 : decode cX9_otherwiseWithout 36 = .ok (.aload_n 0, 1) := by decide +kernel
theorem dX9_otherwiseWithout_37 : decode cX9_otherwiseWithout 37 = .ok (.getfield 22, 3) := by decide +kernel
theorem dX9_otherwiseWithout_40 : decode cX9_otherwiseWithout 40 = .ok (.iload_n 2, 1) := by decide +kernel
theorem dX9_otherwiseWithout_41 : decode cX9_otherwiseWithout 41 = .ok (.invokevirtual 49, 3) := by decide +kernel
theorem dX9_otherwiseWithout_44 : decode cX9_otherwiseWithout 44 = .ok (.iastore, 1) := by decide +kernel
theorem dX9_otherwiseWithout_45 : decode cX9_otherwiseWithout 45 = .ok (.iinc 2 1, 3) := by decide +kernel
theorem dX9_otherwiseWithout_48 : decode cX9_otherwiseWithout 48 = .ok (.goto (-31), 3) := by decide +kernel
theorem dX9_otherwiseWithout_51 : decode cX9_otherwiseWithout 51 = .ok (.aload_n 0, 1) := by decide +kernel
theorem dX9_otherwiseWithout_52 : decode cX9_otherwiseWithout 52 = .ok (.getfield 22, 3) := by decide +kernel
theorem dX9_otherwiseWithout_55 : decode cX9_otherwiseWithout 55 = .ok (.aload_n 0, 1) := by decide +kernel
theorem dX9_otherwiseWithout_56 : decode cX9_otherwiseWithout 56 = .ok (.getfield 18, 3) := by decide +kernel
theorem dX9_otherwiseWithout_59 : decode cX9_otherwiseWithout 59 = .ok (.invokevirtual 29, 3) := by decide +kernel
theorem dX9_otherwiseWithout_62 : decode cX9_otherwiseWithout 62 = .ok (.iconst 0, 1) := by decide +kernel
theorem dX9_otherwiseWithout_63 : decode cX9_otherwiseWithout 63 = .ok (.istore_n 2, 1) := by decide +kernel
theorem dX9_otherwiseWithout_64 : decode cX9_otherwiseWithout 64 = .ok (.iload_n 2, 1) := by decide +kernel
theorem dX9_otherwiseWithout_65 : decode cX9_otherwiseWithout 65 = .ok (.aload_n 0, 1) := by decide +kernel
theorem dX9_otherwiseWithout_66 : decode cX9_otherwiseWithout 66 = .ok (.getfield 18, 3) := by decide +kernel
theorem dX9_otherwiseWithout_69 : decode cX9_otherwiseWithout 69 = .ok (.getfield 68, 3) := by decide +kernel
theorem dX9_otherwiseWithout_72 : decode cX9_otherwiseWithout 72 = .ok (.getfield 72, 3) := by decide +kernel
theorem dX9_otherwiseWithout_75 : decode cX9_otherwiseWithout 75 = .ok (.if_icmp .ge 19, 3) := by decide +kernel
theorem dX9_otherwiseWithout_78 : decode cX9_otherwiseWithout 78 = .ok (.aload_n 0, 1) := by decide +kernel
theorem dX9_otherwiseWithout_79 : decode cX9_otherwiseWithout 79 = .ok (.getfield 22, 3) := by decide +kernel
theorem dX9_otherwiseWithout_82 : decode cX9_otherwiseWithout 82 = .ok (.iload_n 1, 1) := by decide +kernel
theorem dX9_otherwiseWithout_83 : decode cX9_otherwiseWithout 83 = .ok (.iload_n 2, 1) := by decide +kernel
theorem dX9_otherwiseWithout_84 : decode cX9_otherwiseWithout 84 = .ok (.iconst 0, 1) := by decide +kernel
theorem dX9_otherwiseWithout_85 : decode cX9_otherwiseWithout 85 = .ok (.invokevirtual 78, 3) := by decide +kernel
theorem dX9_otherwiseWithout_88 : decode cX9_otherwiseWithout 88 = .ok (.iinc 2 1, 3) := by decide +kernel
theorem dX9_otherwiseWithout_91 : decode cX9_otherwiseWithout 91 = .ok (.goto (-27), 3) := by decide +kernel
theorem dX9_otherwiseWithout_94 : decode cX9_otherwiseWithout 94 = .ok (.aload_n 0, 1) := by decide +kernel
theorem dX9_otherwiseWithout_95 : decode cX9_otherwiseWithout 95 = .ok (.invokevirtual 46, 3) := by decide +kernel
theorem dX9_otherwiseWithout_98 : decode cX9_otherwiseWithout 98 = .ok (.iconst 0, 1) := by decide +kernel
theorem dX9_otherwiseWithout_99 : decode cX9_otherwiseWithout 99 = .ok (.istore_n 2, 1) := by decide +kernel
theorem dX9_otherwiseWithout_100 : decode cX9_otherwiseWithout 100 = .ok (.iconst 0, 1) := by decide +kernel
theorem dX9_otherwiseWithout_101 : decode cX9_otherwiseWithout 101 = .ok (.istore_n 3, 1) := by decide +kernel
theorem dX9_otherwiseWithout_102 : decode cX9_otherwiseWithout 102 = .ok (.iload_n 3, 1) := by decide +kernel
theorem dX9_otherwiseWithout_103 : decode cX9_otherwiseWithout 103 = .ok (.aload_n 0, 1) := by decide +kernel
theorem dX9_otherwiseWithout_104 : decode cX9_otherwiseWithout 104 = .ok (.getfield 18, 3) := by decide +kernel
theorem dX9_otherwiseWithout_107 : decode cX9_otherwiseWithout 107 = .ok (.getfield 68, 3) := by decide +kernel
theorem dX9_otherwiseWithout_110 : decode cX9_otherwiseWithout 110 = .ok (.getfield 72, 3) := by decide +kernel
theorem dX9_otherwiseWithout_113 : decode cX9_otherwiseWithout 113 = .ok (.if_icmp .ge 43, 3) := by decide +kernel
theorem dX9_otherwiseWithout_116 : decode cX9_otherwiseWithout 116 = .ok (.aload_n 0, 1) := by decide +kernel
theorem dX9_otherwiseWithout_117 : decode cX9_otherwiseWithout 117 = .ok (.getfield 18, 3) := by decide +kernel
theorem dX9_otherwiseWithout_120 : decode cX9_otherwiseWithout 120 = .ok (.iload_n 3, 1) := by decide +kernel
theorem dX9_otherwiseWithout_121 : decode cX9_otherwiseWithout 121 = .ok (.invokevirtual 61, 3) := by decide +kernel
theorem dX9_otherwiseWithout_124 : decode cX9_otherwiseWithout 124 = .ok (.ifCond .eq 26, 3) := by decide +kernel
theorem dX9_otherwiseWithout_127 : decode cX9_otherwiseWithout 127 = .ok (.aload_n 0, 1) := by decide +kernel
theorem dX9_otherwiseWithout_128 : decode cX9_otherwiseWithout 128 = .ok (.getfield 9, 3) := by decide +kernel
theorem dX9_otherwiseWithout_131 : decode cX9_otherwiseWithout 131 = .ok (.iload_n 3, 1) := by decide +kernel
theorem dX9_otherwiseWithout_132 : decode cX9_otherwiseWithout 132 = .ok (.iaload, 1) := by decide +kernel
theorem dX9_otherwiseWithout_133 : decode cX9_otherwiseWithout 133 = .ok (.aload_n 0, 1) := by decide +kernel
theorem dX9_otherwiseWithout_134 : decode cX9_otherwiseWithout 134 = .ok (.getfield 22, 3) := by decide +kernel
theorem dX9_otherwiseWithout_137 : decode cX9_otherwiseWithout 137 = .ok (.iload_n 3, 1) := by decide +kernel
theorem dX9_otherwiseWithout_138 : decode cX9_otherwiseWithout 138 = .ok (.invokevirtual 49, 3) := by decide +kernel
theorem dX9_otherwiseWithout_141 : decode cX9_otherwiseWithout 141 = .ok (.if_icmp .eq 9, 3) := by decide +kernel
theorem dX9_otherwiseWithout_144 : decode cX9_otherwiseWithout 144 = .ok (.iload_n 2, 1) := by decide +kernel
theorem dX9_otherwiseWithout_145 : decode cX9_otherwiseWithout 145 = .ok (.iconst 1, 1) := by decide +kernel
theorem dX9_otherwiseWithout_146 : decode cX9_otherwiseWithout 146 = .ok (.iload_n 3, 1) := by decide +kernel
theorem dX9_otherwiseWithout_147 : decode cX9_otherwiseWithout 147 = .ok (.ishl, 1) := by decide +kernel
theorem dX9_otherwiseWithout_148 : decode cX9_otherwiseWithout 148 = .ok (.ior, 1) := by decide +kernel
theorem dX9_otherwiseWithout_149 : decode cX9_otherwiseWithout 149 = .ok (.istore_n 2, 1) := by decide +kernel
theorem dX9_otherwiseWithout_150 : decode cX9_otherwiseWithout 150 = .ok (.iinc 3 1, 3) := by decide +kernel
theorem dX9_otherwiseWithout_153 : decode cX9_otherwiseWithout 153 = .ok (.goto (-51), 3) := by decide +kernel
theorem dX9_otherwiseWithout_156 : decode cX9_otherwiseWithout 156 = .ok (.iload_n 2, 1) := by decide +kernel
theorem dX9_otherwiseWithout_157 : decode cX9_otherwiseWithout 157 = .ok (.ireturn, 1) := by decide +kernel
theorem dX9_findBestDay_0 : decode cX9_findBestDay 0 = .ok (.iconst (-1), 1) := by decide +kernel
theorem dX9_findBestDay_1 : decode cX9_findBestDay 1 = .ok (.istore_n 3, 1) := by decide +kernel
theorem dX9_findBestDay_2 : decode cX9_findBestDay 2 = .ok (.iconst (-1), 1) := by decide +kernel
theorem dX9_findBestDay_3 : decode cX9_findBestDay 3 = .ok (.istore 4, 2) := by decide +kernel
theorem dX9_findBestDay_5 : decode cX9_findBestDay 5 = .ok (.sipush 999, 3) := by decide +kernel
theorem dX9_findBestDay_8 : decode cX9_findBestDay 8 = .ok (.aload_n 0, 1) := by decide +kernel
theorem dX9_findBestDay_9 : decode cX9_findBestDay 9 = .ok (.getfield 18, 3) := by decide +kernel
theorem dX9_findBestDay_12 : decode cX9_findBestDay 12 = .ok (.invokevirtual 38, 3) := by decide +kernel
theorem dX9_findBestDay_15 : decode cX9_findBestDay 15 = .ok (.bipush 30, 2) := by decide +kernel
theorem dX9_findBestDay_17 : decode cX9_findBestDay 17 = .ok (.iadd, 1) := by decide +kernel
theorem dX9_findBestDay_18 : decode cX9_findBestDay 18 = .ok (.invokestatic 82, 3) := by decide +kernel
theorem dX9_findBestDay_21 : decode cX9_findBestDay 21 = .ok (.istore 5, 2) := by decide +kernel
theorem dX9_findBestDay_23 : decode cX9_findBestDay 23 = .ok (.aload_n 0, 1) := by decide +kernel
theorem dX9_findBestDay_24 : decode cX9_findBestDay 24 = .ok (.getfield 18, 3) := by decide +kernel
theorem dX9_findBestDay_27 : decode cX9_findBestDay 27 = .ok (.invokevirtual 38, 3) := by decide +kernel
theorem dX9_findBestDay_30 : decode cX9_findBestDay 30 = .ok (.istore 6, 2) := by decide +kernel
theorem dX9_findBestDay_32 : decode cX9_findBestDay 32 = .ok (.iload 6, 2) := by decide +kernel
theorem dX9_findBestDay_34 : decode cX9_findBestDay 34 = .ok (.iload 5, 2) := by decide +kernel
theorem dX9_findBestDay_36 : decode cX9_findBestDay 36 = .ok (.if_icmp .gt 48, 3) := by decide +kernel
theorem dX9_findBestDay_39 : decode cX9_findBestDay 39 = .ok (.aload_n 0, 1) := by decide +kernel
theorem dX9_findBestDay_40 : decode cX9_findBestDay 40 = .ok (.getfield 18, 3) := by decide +kernel
theorem dX9_findBestDay_43 : decode cX9_findBestDay 43 = .ok (.iload_n 1, 1) := by decide +kernel
theorem dX9_findBestDay_44 : decode cX9_findBestDay 44 = .ok (.invokevirtual 61, 3) := by decide +kernel
theorem dX9_findBestDay_47 : decode cX9_findBestDay 47 = .ok (.ifCond .eq 37, 3) := by decide +kernel
theorem dX9_findBestDay_50 : decode cX9_findBestDay 50 = .ok (.aload_n 0, 1) := by decide +kernel
theorem dX9_findBestDay_51 : decode cX9_findBestDay 51 = .ok (.iload_n 1, 1) := by decide +kernel
theorem dX9_findBestDay_52 : decode cX9_findBestDay 52 = .ok (.iload 6, 2) := by decide +kernel
theorem dX9_findBestDay_54 : decode cX9_findBestDay 54 = .ok (.invokevirtual 88, 3) := by decide +kernel
theorem dX9_findBestDay_57 : decode cX9_findBestDay 57 = .ok (.istore 7, 2) := by decide +kernel
theorem dX9_findBestDay_59 : decode cX9_findBestDay 59 = .ok (.iload 7, 2) := by decide +kernel
theorem dX9_findBestDay_61 : decode cX9_findBestDay 61 = .ok (.ifCond .le 17, 3) := by decide +kernel
theorem dX9_findBestDay_64 : decode cX9_findBestDay 64 = .ok (.iload 7, 2) := by decide +kernel
theorem dX9_findBestDay_66 : decode cX9_findBestDay 66 = .ok (.iload 4, 2) := by decide +kernel
theorem dX9_findBestDay_68 : decode cX9_findBestDay 68 = .ok (.if_icmp .le 10, 3) := by decide +kernel
theorem dX9_findBestDay_71 : decode cX9_findBestDay 71 = .ok (.iload 7, 2) := by decide +kernel
theorem dX9_findBestDay_73 : decode cX9_findBestDay 73 = .ok (.istore 4, 2) := by decide +kernel
theorem dX9_findBestDay_75 : decode cX9_findBestDay 75 = .ok (.iload 6, 2) := by decide +kernel
theorem dX9_findBestDay_77 : decode cX9_findBestDay 77 = .ok (.istore_n 3, 1) := by decide +kernel
theorem dX9_findBestDay_78 : decode cX9_findBestDay 78 = .ok (.iinc 6 1, 3) := by decide +kernel
theorem dX9_findBestDay_81 : decode cX9_findBestDay 81 = .ok (.goto (-49), 3) := by decide +kernel
theorem dX9_findBestDay_84 : decode cX9_findBestDay 84 = .ok (.iload_n 2, 1) := by decide +kernel
theorem dX9_findBestDay_85 : decode cX9_findBestDay 85 = .ok (.ifCond .eq 8, 3) := by decide +kernel
theorem dX9_findBestDay_88 : decode cX9_findBestDay 88 = .ok (.iload 4, 2) := by decide +kernel
theorem dX9_findBestDay_90 : decode cX9_findBestDay 90 = .ok (.goto 4, 3) := by decide +kernel
theorem dX9_findBestDay_93 : decode cX9_findBestDay 93 = .ok (.iload_n 3, 1) := by decide +kernel
theorem dX9_findBestDay_94 : decode cX9_findBestDay 94 = .ok (.ireturn, 1) := by decide +kernel
theorem dX9_weightOfLeaderOn_0 : decode cX9_weightOfLeaderOn 0 = .ok (.aload_n 0, 1) := by decide +kernel
theorem dX9_weightOfLeaderOn_1 : decode cX9_weightOfLeaderOn 1 = .ok (.getfield 22, 3) := by decide +kernel
theorem dX9_weightOfLeaderOn_4 : decode cX9_weightOfLeaderOn 4 = .ok (.aload_n 0, 1) := by decide +kernel
theorem dX9_weightOfLeaderOn_5 : decode cX9_weightOfLeaderOn 5 = .ok (.getfield 18, 3) := by decide +kernel
theorem dX9_weightOfLeaderOn_8 : decode cX9_weightOfLeaderOn 8 = .ok (.invokevirtual 29, 3) := by decide +kernel
theorem dX9_weightOfLeaderOn_11 : decode cX9_weightOfLeaderOn 11 = .ok (.aload_n 0, 1) := by decide +kernel
theorem dX9_weightOfLeaderOn_12 : decode cX9_weightOfLeaderOn 12 = .ok (.getfield 22, 3) := by decide +kernel
theorem dX9_weightOfLeaderOn_15 : decode cX9_weightOfLeaderOn 15 = .ok (.iload_n 1, 1) := by decide +kernel
theorem dX9_weightOfLeaderOn_16 : decode cX9_weightOfLeaderOn 16 = .ok (.iload_n 2, 1) := by decide +kernel
theorem dX9_weightOfLeaderOn_17 : decode cX9_weightOfLeaderOn 17 = .ok (.invokevirtual 91, 3) := by decide +kernel
theorem dX9_weightOfLeaderOn_20 : decode cX9_weightOfLeaderOn 20 = .ok (.iconst 0, 1) := by decide +kernel
theorem dX9_weightOfLeaderOn_21 : decode cX9_weightOfLeaderOn 21 = .ok (.istore_n 3, 1) := by decide +kernel
theorem dX9_weightOfLeaderOn_22 : decode cX9_weightOfLeaderOn 22 = .ok (.iload_n 3, 1) := by decide +kernel
theorem dX9_weightOfLeaderOn_23 : decode cX9_weightOfLeaderOn 23 = .ok (.bipush 30, 2) := by decide +kernel
theorem dX9_weightOfLeaderOn_25 : decode cX9_weightOfLeaderOn 25 = .ok (.if_icmp .gt 27, 3) := by decide +kernel
theorem dX9_weightOfLeaderOn_28 : decode cX9_weightOfLeaderOn 28 = .ok (.aload_n 0, 1) := by decide +kernel
theorem dX9_weightOfLeaderOn_29 : decode cX9_weightOfLeaderOn 29 = .ok (.getfield 22, 3) := by decide +kernel
theorem dX9_weightOfLeaderOn_32 : decode cX9_weightOfLeaderOn 32 = .ok (.iload_n 1, 1) := by decide +kernel
theorem dX9_weightOfLeaderOn_33 : decode cX9_weightOfLeaderOn 33 = .ok (.invokevirtual 61, 3) := by decide +kernel
theorem dX9_weightOfLeaderOn_36 : decode cX9_weightOfLeaderOn 36 = .ok (.ifCond .eq 16, 3) := by decide +kernel
theorem dX9_weightOfLeaderOn_39 : decode cX9_weightOfLeaderOn 39 = .ok (.aload_n 0, 1) := by decide +kernel
theorem dX9_weightOfLeaderOn_40 : decode cX9_weightOfLeaderOn 40 = .ok (.getfield 22, 3) := by decide +kernel
theorem dX9_weightOfLeaderOn_43 : decode cX9_weightOfLeaderOn 43 = .ok (.invokevirtual 35, 3) := by decide +kernel
theorem dX9_weightOfLeaderOn_46 : decode cX9_weightOfLeaderOn 46 = .ok (.iinc 3 1, 3) := by decide +kernel
theorem dX9_weightOfLeaderOn_49 : decode cX9_weightOfLeaderOn 49 = .ok (.goto (-27), 3) := by decide +kernel
theorem dX9_weightOfLeaderOn_52 : decode cX9_weightOfLeaderOn 52 = .ok (.aload_n 0, 1) := by decide +kernel
theorem dX9_weightOfLeaderOn_53 : decode cX9_weightOfLeaderOn 53 = .ok (.getfield 22, 3) := by decide +kernel
theorem dX9_weightOfLeaderOn_56 : decode cX9_weightOfLeaderOn 56 = .ok (.iload_n 1, 1) := by decide +kernel
theorem dX9_weightOfLeaderOn_57 : decode cX9_weightOfLeaderOn 57 = .ok (.invokevirtual 94, 3) := by decide +kernel
theorem dX9_weightOfLeaderOn_60 : decode cX9_weightOfLeaderOn 60 = .ok (.ireturn, 1) := by decide +kernel
theorem dX9_isSeenInTrial_0 : decode cX9_isSeenInTrial 0 = .ok (.aload_n 0, 1) := by decide +kernel
theorem dX9_isSeenInTrial_1 : decode cX9_isSeenInTrial 1 = .ok (.getfield 25, 3) := by decide +kernel
theorem dX9_isSeenInTrial_4 : decode cX9_isSeenInTrial 4 = .ok (.invokevirtual 97, 3) := by decide +kernel
theorem dX9_isSeenInTrial_7 : decode cX9_isSeenInTrial 7 = .ok (.istore_n 1, 1) := by decide +kernel
theorem dX9_isSeenInTrial_8 : decode cX9_isSeenInTrial 8 = .ok (.iconst 0, 1) := by decide +kernel
theorem dX9_isSeenInTrial_9 : decode cX9_isSeenInTrial 9 = .ok (.istore_n 2, 1) := by decide +kernel
theorem dX9_isSeenInTrial_10 : decode cX9_isSeenInTrial 10 = .ok (.iload_n 2, 1) := by decide +kernel
theorem dX9_isSeenInTrial_11 : decode cX9_isSeenInTrial 11 = .ok (.iload_n 1, 1) := by decide +kernel
theorem dX9_isSeenInTrial_12 : decode cX9_isSeenInTrial 12 = .ok (.if_icmp .gt 38, 3) := by decide +kernel
theorem dX9_isSeenInTrial_15 : decode cX9_isSeenInTrial 15 = .ok (.aload_n 0, 1) := by decide +kernel
theorem dX9_isSeenInTrial_16 : decode cX9_isSeenInTrial 16 = .ok (.getfield 25, 3) := by decide +kernel
theorem dX9_isSeenInTrial_19 : decode cX9_isSeenInTrial 19 = .ok (.aload_n 0, 1) := by decide +kernel
theorem dX9_isSeenInTrial_20 : decode cX9_isSeenInTrial 20 = .ok (.getfield 22, 3) := by decide +kernel
theorem dX9_isSeenInTrial_23 : decode cX9_isSeenInTrial 23 = .ok (.iload_n 2, 1) := by decide +kernel
theorem dX9_isSeenInTrial_24 : decode cX9_isSeenInTrial 24 = .ok (.invokevirtual 102, 3) := by decide +kernel
theorem dX9_isSeenInTrial_27 : decode cX9_isSeenInTrial 27 = .ok (.ifCond .ne 5, 3) := by decide +kernel
theorem dX9_isSeenInTrial_30 : decode cX9_isSeenInTrial 30 = .ok (.iconst 0, 1) := by decide +kernel
theorem dX9_isSeenInTrial_31 : decode cX9_isSeenInTrial 31 = .ok (.ireturn, 1) := by decide +kernel
theorem dX9_isSeenInTrial_32 : decode cX9_isSeenInTrial 32 = .ok (.iload_n 2, 1) := by decide +kernel
theorem dX9_isSeenInTrial_33 : decode cX9_isSeenInTrial 33 = .ok (.iload_n 1, 1) := by decide +kernel
theorem dX9_isSeenInTrial_34 : decode cX9_isSeenInTrial 34 = .ok (.if_icmp .ge 10, 3) := by decide +kernel
theorem dX9_isSeenInTrial_37 : decode cX9_isSeenInTrial 37 = .ok (.aload_n 0, 1) := by decide +kernel
theorem dX9_isSeenInTrial_38 : decode cX9_isSeenInTrial 38 = .ok (.getfield 22, 3) := by decide +kernel
theorem dX9_isSeenInTrial_41 : decode cX9_isSeenInTrial 41 = .ok (.invokevirtual 35, 3) := by decide +kernel
theorem dX9_isSeenInTrial_44 : decode cX9_isSeenInTrial 44 = .ok (.iinc 2 1, 3) := by decide +kernel
theorem dX9_isSeenInTrial_47 : decode cX9_isSeenInTrial 47 = .ok (.goto (-37), 3) := by decide +kernel
theorem dX9_isSeenInTrial_50 : decode cX9_isSeenInTrial 50 = .ok (.iconst 1, 1) := by decide +kernel
theorem dX9_isSeenInTrial_51 : decode cX9_isSeenInTrial 51 = .ok (.ireturn, 1) := by decide +kernel
theorem dX9_seenAsItIs_0 : decode cX9_seenAsItIs 0 = .ok (.aload_n 0, 1) := by decide +kernel
theorem dX9_seenAsItIs_1 : decode cX9_seenAsItIs 1 = .ok (.getfield 22, 3) := by decide +kernel
theorem dX9_seenAsItIs_4 : decode cX9_seenAsItIs 4 = .ok (.aload_n 0, 1) := by decide +kernel
theorem dX9_seenAsItIs_5 : decode cX9_seenAsItIs 5 = .ok (.getfield 18, 3) := by decide +kernel
theorem dX9_seenAsItIs_8 : decode cX9_seenAsItIs 8 = .ok (.invokevirtual 29, 3) := by decide +kernel
theorem dX9_seenAsItIs_11 : decode cX9_seenAsItIs 11 = .ok (.aload_n 0, 1) := by decide +kernel
theorem dX9_seenAsItIs_12 : decode cX9_seenAsItIs 12 = .ok (.invokevirtual 106, 3) := by decide +kernel
theorem dX9_seenAsItIs_15 : decode cX9_seenAsItIs 15 = .ok (.ireturn, 1) := by decide +kernel
theorem dX9_suppose_0 : decode cX9_suppose 0 = .ok (.iload_n 1, 1) := by decide +kernel
theorem dX9_suppose_1 : decode cX9_suppose 1 = .ok (.bipush 10, 2) := by decide +kernel
theorem dX9_suppose_3 : decode cX9_suppose 3 = .ok (.idiv, 1) := by decide +kernel
theorem dX9_suppose_4 : decode cX9_suppose 4 = .ok (.istore_n 2, 1) := by decide +kernel
theorem dX9_suppose_5 : decode cX9_suppose 5 = .ok (.iload_n 1, 1) := by decide +kernel
theorem dX9_suppose_6 : decode cX9_suppose 6 = .ok (.bipush 10, 2) := by decide +kernel
theorem dX9_suppose_8 : decode cX9_suppose 8 = .ok (.irem, 1) := by decide +kernel
theorem dX9_suppose_9 : decode cX9_suppose 9 = .ok (.istore_n 3, 1) := by decide +kernel
theorem dX9_suppose_10 : decode cX9_suppose 10 = .ok (.aload_n 0, 1) := by decide +kernel
theorem dX9_suppose_11 : decode cX9_suppose 11 = .ok (.getfield 22, 3) := by decide +kernel
theorem dX9_suppose_14 : decode cX9_suppose 14 = .ok (.aload_n 0, 1) := by decide +kernel
theorem dX9_suppose_15 : decode cX9_suppose 15 = .ok (.getfield 18, 3) := by decide +kernel
theorem dX9_suppose_18 : decode cX9_suppose 18 = .ok (.invokevirtual 29, 3) := by decide +kernel
theorem dX9_suppose_21 : decode cX9_suppose 21 = .ok (.aload_n 0, 1) := by decide +kernel
theorem dX9_suppose_22 : decode cX9_suppose 22 = .ok (.getfield 22, 3) := by decide +kernel
theorem dX9_suppose_25 : decode cX9_suppose 25 = .ok (.iload_n 2, 1) := by decide +kernel
theorem dX9_suppose_26 : decode cX9_suppose 26 = .ok (.iload_n 3, 1) := by decide +kernel
theorem dX9_suppose_27 : decode cX9_suppose 27 = .ok (.invokevirtual 110, 3) := by decide +kernel
theorem dX9_suppose_30 : decode cX9_suppose 30 = .ok (.aload_n 0, 1) := by decide +kernel
theorem dX9_suppose_31 : decode cX9_suppose 31 = .ok (.getfield 18, 3) := by decide +kernel
theorem dX9_suppose_34 : decode cX9_suppose 34 = .ok (.iload_n 2, 1) := by decide +kernel
theorem dX9_suppose_35 : decode cX9_suppose 35 = .ok (.invokevirtual 113, 3) := by decide +kernel
theorem dX9_suppose_38 : decode cX9_suppose 38 = .ok (.iload_n 3, 1) := by decide +kernel
theorem dX9_suppose_39 : decode cX9_suppose 39 = .ok (.if_icmp .eq 7, 3) := by decide +kernel
theorem dX9_suppose_42 : decode cX9_suppose 42 = .ok (.iconst 1, 1) := by decide +kernel
theorem dX9_suppose_43 : decode cX9_suppose 43 = .ok (.goto 4, 3) := by decide +kernel
theorem dX9_suppose_46 : decode cX9_suppose 46 = .ok (.iconst 0, 1) := by decide +kernel
theorem dX9_suppose_47 : decode cX9_suppose 47 = .ok (.ireturn, 1) := by decide +kernel
theorem dX9_hiddenCount_0 : decode cX9_hiddenCount 0 = .ok (.iconst 0, 1) := by decide +kernel
theorem dX9_hiddenCount_1 : decode cX9_hiddenCount 1 = .ok (.istore_n 1, 1) := by decide +kernel
theorem dX9_hiddenCount_2 : decode cX9_hiddenCount 2 = .ok (.iconst 0, 1) := by decide +kernel
theorem dX9_hiddenCount_3 : decode cX9_hiddenCount 3 = .ok (.istore_n 2, 1) := by decide +kernel
theorem dX9_hiddenCount_4 : decode cX9_hiddenCount 4 = .ok (.iload_n 2, 1) := by decide +kernel
theorem dX9_hiddenCount_5 : decode cX9_hiddenCount 5 = .ok (.bipush 10, 2) := by decide +kernel
theorem dX9_hiddenCount_7 : decode cX9_hiddenCount 7 = .ok (.aload_n 0, 1) := by decide +kernel
theorem dX9_hiddenCount_8 : decode cX9_hiddenCount 8 = .ok (.getfield 18, 3) := by decide +kernel
theorem dX9_hiddenCount_11 : decode cX9_hiddenCount 11 = .ok (.getfield 68, 3) := by decide +kernel
theorem dX9_hiddenCount_14 : decode cX9_hiddenCount 14 = .ok (.getfield 116, 3) := by decide +kernel
theorem dX9_hiddenCount_17 : decode cX9_hiddenCount 17 = .ok (.imul, 1) := by decide +kernel
theorem dX9_hiddenCount_18 : decode cX9_hiddenCount 18 = .ok (.if_icmp .ge 27, 3) := by decide +kernel
theorem dX9_hiddenCount_21 : decode cX9_hiddenCount 21 = .ok (.aload_n 0, 1) := by decide +kernel
theorem dX9_hiddenCount_22 : decode cX9_hiddenCount 22 = .ok (.iload_n 2, 1) := by decide +kernel
theorem dX9_hiddenCount_23 : decode cX9_hiddenCount 23 = .ok (.invokevirtual 119, 3) := by decide +kernel
theorem dX9_hiddenCount_26 : decode cX9_hiddenCount 26 = .ok (.ifCond .eq 13, 3) := by decide +kernel
theorem dX9_hiddenCount_29 : decode cX9_hiddenCount 29 = .ok (.aload_n 0, 1) := by decide +kernel
theorem dX9_hiddenCount_30 : decode cX9_hiddenCount 30 = .ok (.invokevirtual 106, 3) := by decide +kernel
theorem dX9_hiddenCount_33 : decode cX9_hiddenCount 33 = .ok (.ifCond .eq 6, 3) := by decide +kernel
theorem dX9_hiddenCount_36 : decode cX9_hiddenCount 36 = .ok (.iinc 1 1, 3) := by decide +kernel
theorem dX9_hiddenCount_39 : decode cX9_hiddenCount 39 = .ok (.iinc 2 1, 3) := by decide +kernel
theorem dX9_hiddenCount_42 : decode cX9_hiddenCount 42 = .ok (.goto (-38), 3) := by decide +kernel
theorem dX9_hiddenCount_45 : decode cX9_hiddenCount 45 = .ok (.iload_n 1, 1) := by decide +kernel
theorem dX9_hiddenCount_46 : decode cX9_hiddenCount 46 = .ok (.ireturn, 1) := by decide +kernel
theorem dX9_firstHidden_0 : decode cX9_firstHidden 0 = .ok (.iconst 0, 1) := by decide +kernel
theorem dX9_firstHidden_1 : decode cX9_firstHidden 1 = .ok (.istore_n 1, 1) := by decide +kernel
theorem dX9_firstHidden_2 : decode cX9_firstHidden 2 = .ok (.iload_n 1, 1) := by decide +kernel
theorem dX9_firstHidden_3 : decode cX9_firstHidden 3 = .ok (.bipush 10, 2) := by decide +kernel
theorem dX9_firstHidden_5 : decode cX9_firstHidden 5 = .ok (.aload_n 0, 1) := by decide +kernel
theorem dX9_firstHidden_6 : decode cX9_firstHidden 6 = .ok (.getfield 18, 3) := by decide +kernel
theorem dX9_firstHidden_9 : decode cX9_firstHidden 9 = .ok (.getfield 68, 3) := by decide +kernel
theorem dX9_firstHidden_12 : decode cX9_firstHidden 12 = .ok (.getfield 116, 3) := by decide +kernel
theorem dX9_firstHidden_15 : decode cX9_firstHidden 15 = .ok (.imul, 1) := by decide +kernel
theorem dX9_firstHidden_16 : decode cX9_firstHidden 16 = .ok (.if_icmp .ge 26, 3) := by decide +kernel
theorem dX9_firstHidden_19 : decode cX9_firstHidden 19 = .ok (.aload_n 0, 1) := by decide +kernel
theorem dX9_firstHidden_20 : decode cX9_firstHidden 20 = .ok (.iload_n 1, 1) := by decide +kernel
theorem dX9_firstHidden_21 : decode cX9_firstHidden 21 = .ok (.invokevirtual 119, 3) := by decide +kernel
theorem dX9_firstHidden_24 : decode cX9_firstHidden 24 = .ok (.ifCond .eq 12, 3) := by decide +kernel
theorem dX9_firstHidden_27 : decode cX9_firstHidden 27 = .ok (.aload_n 0, 1) := by decide +kernel
theorem dX9_firstHidden_28 : decode cX9_firstHidden 28 = .ok (.invokevirtual 106, 3) := by decide +kernel
theorem dX9_firstHidden_31 : decode cX9_firstHidden 31 = .ok (.ifCond .eq 5, 3) := by decide +kernel
theorem dX9_firstHidden_34 : decode cX9_firstHidden 34 = .ok (.iload_n 1, 1) := by decide +kernel
theorem dX9_firstHidden_35 : decode cX9_firstHidden 35 = .ok (.ireturn, 1) := by decide +kernel
theorem dX9_firstHidden_36 : decode cX9_firstHidden 36 = .ok (.iinc 1 1, 3) := by decide +kernel
theorem dX9_firstHidden_39 : decode cX9_firstHidden 39 = .ok (.goto (-37), 3) := by decide +kernel
theorem dX9_firstHidden_42 : decode cX9_firstHidden 42 = .ok (.iconst (-1), 1) := by decide +kernel
theorem dX9_firstHidden_43 : decode cX9_firstHidden 43 = .ok (.ireturn, 1) := by decide +kernel
theorem dX9_weighNext_0 : decode cX9_weighNext 0 = .ok (.iconst 0, 1) := by decide +kernel
theorem dX9_weighNext_1 : decode cX9_weighNext 1 = .ok (.istore_n 2, 1) := by decide +kernel
theorem dX9_weighNext_2 : decode cX9_weighNext 2 = .ok (.iload_n 2, 1) := by decide +kernel
theorem dX9_weighNext_3 : decode cX9_weighNext 3 = .ok (.bipush 6, 2) := by decide +kernel
theorem dX9_weighNext_5 : decode cX9_weighNext 5 = .ok (.if_icmp .ge 16, 3) := by decide +kernel
theorem dX9_weighNext_8 : decode cX9_weighNext 8 = .ok (.aload_n 0, 1) := by decide +kernel
theorem dX9_weighNext_9 : decode cX9_weighNext 9 = .ok (.getfield 9, 3) := by decide +kernel
theorem dX9_weighNext_12 : decode cX9_weighNext 12 = .ok (.iload_n 2, 1) := by decide +kernel
theorem dX9_weighNext_13 : decode cX9_weighNext 13 = .ok (.iconst 0, 1) := by decide +kernel
theorem dX9_weighNext_14 : decode cX9_weighNext 14 = .ok (.iastore, 1) := by decide +kernel
theorem dX9_weighNext_15 : decode cX9_weighNext 15 = .ok (.iinc 2 1, 3) := by decide +kernel
theorem dX9_weighNext_18 : decode cX9_weighNext 18 = .ok (.goto (-16), 3) := by decide +kernel
theorem dX9_weighNext_21 : decode cX9_weighNext 21 = .ok (.iconst 0, 1) := by decide +kernel
theorem dX9_weighNext_22 : decode cX9_weighNext 22 = .ok (.istore_n 2, 1) := by decide +kernel
theorem dX9_weighNext_23 : decode cX9_weighNext 23 = .ok (.iload_n 2, 1) := by decide +kernel
theorem dX9_weighNext_24 : decode cX9_weighNext 24 = .ok (.bipush 10, 2) := by decide +kernel
theorem dX9_weighNext_26 : decode cX9_weighNext 26 = .ok (.aload_n 0, 1) := by decide +kernel
theorem dX9_weighNext_27 : decode cX9_weighNext 27 = .ok (.getfield 18, 3) := by decide +kernel
theorem dX9_weighNext_30 : decode cX9_weighNext 30 = .ok (.getfield 68, 3) := by decide +kernel
theorem dX9_weighNext_33 : decode cX9_weighNext 33 = .ok (.getfield 116, 3) := by decide +kernel
theorem dX9_weighNext_36 : decode cX9_weighNext 36 = .ok (.imul, 1) := by decide +kernel
theorem dX9_weighNext_37 : decode cX9_weighNext 37 = .ok (.if_icmp .ge 32, 3) := by decide +kernel
theorem dX9_weighNext_40 : decode cX9_weighNext 40 = .ok (.aload_n 0, 1) := by decide +kernel
theorem dX9_weighNext_41 : decode cX9_weighNext 41 = .ok (.iload_n 2, 1) := by decide +kernel
theorem dX9_weighNext_42 : decode cX9_weighNext 42 = .ok (.invokevirtual 119, 3) := by decide +kernel
theorem dX9_weighNext_45 : decode cX9_weighNext 45 = .ok (.ifCond .eq 18, 3) := by decide +kernel
theorem dX9_weighNext_48 : decode cX9_weighNext 48 = .ok (.aload_n 0, 1) := by decide +kernel
theorem dX9_weighNext_49 : decode cX9_weighNext 49 = .ok (.invokevirtual 106, 3) := by decide +kernel
theorem dX9_weighNext_52 : decode cX9_weighNext 52 = .ok (.ifCond .eq 11, 3) := by decide +kernel
theorem dX9_weighNext_55 : decode cX9_weighNext 55 = .ok (.aload_n 0, 1) := by decide +kernel
theorem dX9_weighNext_56 : decode cX9_weighNext 56 = .ok (.invokevirtual 46, 3) := by decide +kernel
theorem dX9_weighNext_59 : decode cX9_weighNext 59 = .ok (.aload_n 0, 1) := by decide +kernel
theorem dX9_weighNext_60 : decode cX9_weighNext 60 = .ok (.invokevirtual 122, 3) := by decide +kernel
theorem dX9_weighNext_63 : decode cX9_weighNext 63 = .ok (.iinc 2 1, 3) := by decide +kernel
theorem dX9_weighNext_66 : decode cX9_weighNext 66 = .ok (.goto (-43), 3) := by decide +kernel
theorem dX9_weighNext_69 : decode cX9_weighNext 69 = .ok (.iconst (-1), 1) := by decide +kernel
theorem dX9_weighNext_70 : decode cX9_weighNext 70 = .ok (.istore_n 2, 1) := by decide +kernel
theorem dX9_weighNext_71 : decode cX9_weighNext 71 = .ok (.iconst 0, 1) := by decide +kernel
theorem dX9_weighNext_72 : decode cX9_weighNext 72 = .ok (.istore_n 3, 1) := by decide +kernel
theorem dX9_weighNext_73 : decode cX9_weighNext 73 = .ok (.iconst 0, 1) := by decide +kernel
theorem dX9_weighNext_74 : decode cX9_weighNext 74 = .ok (.istore 4, 2) := by decide +kernel
theorem dX9_weighNext_76 : decode cX9_weighNext 76 = .ok (.iload 4, 2) := by decide +kernel
theorem dX9_weighNext_78 : decode cX9_weighNext 78 = .ok (.aload_n 0, 1) := by decide +kernel
theorem dX9_weighNext_79 : decode cX9_weighNext 79 = .ok (.getfield 18, 3) := by decide +kernel
theorem dX9_weighNext_82 : decode cX9_weighNext 82 = .ok (.getfield 68, 3) := by decide +kernel
theorem dX9_weighNext_85 : decode cX9_weighNext 85 = .ok (.getfield 72, 3) := by decide +kernel
theorem dX9_weighNext_88 : decode cX9_weighNext 88 = .ok (.if_icmp .ge 33, 3) := by decide +kernel
theorem dX9_weighNext_91 : decode cX9_weighNext 91 = .ok (.aload_n 0, 1) := by decide +kernel
theorem dX9_weighNext_92 : decode cX9_weighNext 92 = .ok (.getfield 9, 3) := by decide +kernel
theorem dX9_weighNext_95 : decode cX9_weighNext 95 = .ok (.iload 4, 2) := by decide +kernel
theorem dX9_weighNext_97 : decode cX9_weighNext 97 = .ok (.iaload, 1) := by decide +kernel
theorem dX9_weighNext_98 : decode cX9_weighNext 98 = .ok (.invokestatic 56, 3) := by decide +kernel
theorem dX9_weighNext_101 : decode cX9_weighNext 101 = .ok (.istore 5, 2) := by decide +kernel
theorem dX9_weighNext_103 : decode cX9_weighNext 103 = .ok (.iload 5, 2) := by decide +kernel
theorem dX9_weighNext_105 : decode cX9_weighNext 105 = .ok (.iload_n 3, 1) := by decide +kernel
theorem dX9_weighNext_106 : decode cX9_weighNext 106 = .ok (.if_icmp .le 9, 3) := by decide +kernel
theorem dX9_weighNext_109 : decode cX9_weighNext 109 = .ok (.iload 5, 2) := by decide +kernel
theorem dX9_weighNext_111 : decode cX9_weighNext 111 = .ok (.istore_n 3, 1) := by decide +kernel
theorem dX9_weighNext_112 : decode cX9_weighNext 112 = .ok (.iload 4, 2) := by decide +kernel
theorem dX9_weighNext_114 : decode cX9_weighNext 114 = .ok (.istore_n 2, 1) := by decide +kernel
theorem dX9_weighNext_115 : decode cX9_weighNext 115 = .ok (.iinc 4 1, 3) := by decide +kernel
theorem dX9_weighNext_118 : decode cX9_weighNext 118 = .ok (.goto (-42), 3) := by decide +kernel
theorem dX9_weighNext_121 : decode cX9_weighNext 121 = .ok (.iload_n 1, 1) := by decide +kernel
theorem dX9_weighNext_122 : decode cX9_weighNext 122 = .ok (.ifCond .eq 7, 3) := by decide +kernel
theorem dX9_weighNext_125 : decode cX9_weighNext 125 = .ok (.iload_n 3, 1) := by decide +kernel
theorem dX9_weighNext_126 : decode cX9_weighNext 126 = .ok (.goto 4, 3) := by decide +kernel
theorem dX9_weighNext_129 : decode cX9_weighNext 129 = .ok (.iload_n 2, 1) := by decide +kernel
theorem dX9_weighNext_130 : decode cX9_weighNext 130 = .ok (.ireturn, 1) := by decide +kernel
theorem dX9_noteLeaders_0 : decode cX9_noteLeaders 0 = .ok (.iconst 0, 1) := by decide +kernel
theorem dX9_noteLeaders_1 : decode cX9_noteLeaders 1 = .ok (.istore_n 1, 1) := by decide +kernel
theorem dX9_noteLeaders_2 : decode cX9_noteLeaders 2 = .ok (.iload_n 1, 1) := by decide +kernel
theorem dX9_noteLeaders_3 : decode cX9_noteLeaders 3 = .ok (.aload_n 0, 1) := by decide +kernel
theorem dX9_noteLeaders_4 : decode cX9_noteLeaders 4 = .ok (.getfield 18, 3) := by decide +kernel
theorem dX9_noteLeaders_7 : decode cX9_noteLeaders 7 = .ok (.getfield 68, 3) := by decide +kernel
theorem dX9_noteLeaders_10 : decode cX9_noteLeaders 10 = .ok (.getfield 72, 3) := by decide +kernel
theorem dX9_noteLeaders_13 : decode cX9_noteLeaders 13 = .ok (.if_icmp .ge 30, 3) := by decide +kernel
theorem dX9_noteLeaders_16 : decode cX9_noteLeaders 16 = .ok (.aload_n 0, 1) := by decide +kernel
theorem dX9_noteLeaders_17 : decode cX9_noteLeaders 17 = .ok (.getfield 9, 3) := by decide +kernel
theorem dX9_noteLeaders_20 : decode cX9_noteLeaders 20 = .ok (.iload_n 1, 1) := by decide +kernel
theorem dX9_noteLeaders_21 : decode cX9_noteLeaders 21 = .ok (.dup2, 1) := by decide +kernel
theorem dX9_noteLeaders_22 : decode cX9_noteLeaders 22 = .ok (.iaload, 1) := by decide +kernel
theorem dX9_noteLeaders_23 : decode cX9_noteLeaders 23 = .ok (.iconst 1, 1) := by decide +kernel
theorem dX9_noteLeaders_24 : decode cX9_noteLeaders 24 = .ok (.aload_n 0, 1) := by decide +kernel
theorem dX9_noteLeaders_25 : decode cX9_noteLeaders 25 = .ok (.getfield 22, 3) := by decide +kernel
theorem dX9_noteLeaders_28 : decode cX9_noteLeaders 28 = .ok (.iload_n 1, 1) := by decide +kernel
theorem dX9_noteLeaders_29 : decode cX9_noteLeaders 29 = .ok (.invokevirtual 49, 3) := by decide +kernel
theorem dX9_noteLeaders_32 : decode cX9_noteLeaders 32 = .ok (.iconst 1, 1) := by decide +kernel
theorem dX9_noteLeaders_33 : decode cX9_noteLeaders 33 = .ok (.iadd, 1) := by decide +kernel
theorem dX9_noteLeaders_34 : decode cX9_noteLeaders 34 = .ok (.ishl, 1) := by decide +kernel
theorem dX9_noteLeaders_35 : decode cX9_noteLeaders 35 = .ok (.ior, 1) := by decide +kernel
theorem dX9_noteLeaders_36 : decode cX9_noteLeaders 36 = .ok (.iastore, 1) := by decide +kernel
theorem dX9_noteLeaders_37 : decode cX9_noteLeaders 37 = .ok (.iinc 1 1, 3) := by decide +kernel
theorem dX9_noteLeaders_40 : decode cX9_noteLeaders 40 = .ok (.goto (-38), 3) := by decide +kernel
theorem dX9_noteLeaders_43 : decode cX9_noteLeaders 43 = .ok (.return_, 1) := by decide +kernel
theorem dX9_playAll_0 : decode cX9_playAll 0 = .ok (.iconst 0, 1) := by decide +kernel
theorem dX9_playAll_1 : decode cX9_playAll 1 = .ok (.istore 4, 2) := by decide +kernel
theorem dX9_playAll_3 : decode cX9_playAll 3 = .ok (.iload 4, 2) := by decide +kernel
theorem dX9_playAll_5 : decode cX9_playAll 5 = .ok (.iconst 2, 1) := by decide +kernel
theorem dX9_playAll_6 : decode cX9_playAll 6 = .ok (.if_icmp .ge 73, 3) := by decide +kernel
theorem dX9_playAll_9 : decode cX9_playAll 9 = .ok (.iconst 0, 1) := by decide +kernel
theorem dX9_playAll_10 : decode cX9_playAll 10 = .ok (.istore 5, 2) := by decide +kernel
theorem dX9_playAll_12 : decode cX9_playAll 12 = .ok (.iload 5, 2) := by decide +kernel
theorem dX9_playAll_14 : decode cX9_playAll 14 = .ok (.iconst 2, 1) := by decide +kernel
theorem dX9_playAll_15 : decode cX9_playAll 15 = .ok (.if_icmp .ge 58, 3) := by decide +kernel
theorem dX9_playAll_18 : decode cX9_playAll 18 = .ok (.aload_n 0, 1) := by decide +kernel
theorem dX9_playAll_19 : decode cX9_playAll 19 = .ok (.getfield 22, 3) := by decide +kernel
theorem dX9_playAll_22 : decode cX9_playAll 22 = .ok (.aload_n 0, 1) := by decide +kernel
theorem dX9_playAll_23 : decode cX9_playAll 23 = .ok (.getfield 18, 3) := by decide +kernel
theorem dX9_playAll_26 : decode cX9_playAll 26 = .ok (.invokevirtual 29, 3) := by decide +kernel
theorem dX9_playAll_29 : decode cX9_playAll 29 = .ok (.aload_n 0, 1) := by decide +kernel
theorem dX9_playAll_30 : decode cX9_playAll 30 = .ok (.iload_n 1, 1) := by decide +kernel
theorem dX9_playAll_31 : decode cX9_playAll 31 = .ok (.iload 4, 2) := by decide +kernel
theorem dX9_playAll_33 : decode cX9_playAll 33 = .ok (.invokevirtual 125, 3) := by decide +kernel
theorem dX9_playAll_36 : decode cX9_playAll 36 = .ok (.aload_n 0, 1) := by decide +kernel
theorem dX9_playAll_37 : decode cX9_playAll 37 = .ok (.iload_n 2, 1) := by decide +kernel
theorem dX9_playAll_38 : decode cX9_playAll 38 = .ok (.iload 5, 2) := by decide +kernel
theorem dX9_playAll_40 : decode cX9_playAll 40 = .ok (.invokevirtual 125, 3) := by decide +kernel
theorem dX9_playAll_43 : decode cX9_playAll 43 = .ok (.aload_n 0, 1) := by decide +kernel
theorem dX9_playAll_44 : decode cX9_playAll 44 = .ok (.invokevirtual 46, 3) := by decide +kernel
theorem dX9_playAll_47 : decode cX9_playAll 47 = .ok (.aload_n 0, 1) := by decide +kernel
theorem dX9_playAll_48 : decode cX9_playAll 48 = .ok (.getfield 15, 3) := by decide +kernel
theorem dX9_playAll_51 : decode cX9_playAll 51 = .ok (.iconst 2, 1) := by decide +kernel
theorem dX9_playAll_52 : decode cX9_playAll 52 = .ok (.iload 4, 2) := by decide +kernel
theorem dX9_playAll_54 : decode cX9_playAll 54 = .ok (.imul, 1) := by decide +kernel
theorem dX9_playAll_55 : decode cX9_playAll 55 = .ok (.iload 5, 2) := by decide +kernel
theorem dX9_playAll_57 : decode cX9_playAll 57 = .ok (.iadd, 1) := by decide +kernel
theorem dX9_playAll_58 : decode cX9_playAll 58 = .ok (.aload_n 0, 1) := by decide +kernel
theorem dX9_playAll_59 : decode cX9_playAll 59 = .ok (.getfield 22, 3) := by decide +kernel
theorem dX9_playAll_62 : decode cX9_playAll 62 = .ok (.iload_n 3, 1) := by decide +kernel
theorem dX9_playAll_63 : decode cX9_playAll 63 = .ok (.invokevirtual 49, 3) := by decide +kernel
theorem dX9_playAll_66 : decode cX9_playAll 66 = .ok (.iastore, 1) := by decide +kernel
theorem dX9_playAll_67 : decode cX9_playAll 67 = .ok (.iinc 5 1, 3) := by decide +kernel
theorem dX9_playAll_70 : decode cX9_playAll 70 = .ok (.goto (-58), 3) := by decide +kernel
theorem dX9_playAll_73 : decode cX9_playAll 73 = .ok (.iinc 4 1, 3) := by decide +kernel
theorem dX9_playAll_76 : decode cX9_playAll 76 = .ok (.goto (-73), 3) := by decide +kernel
theorem dX9_playAll_79 : decode cX9_playAll 79 = .ok (.return_, 1) := by decide +kernel
theorem dX9_choose_0 : decode cX9_choose 0 = .ok (.iload_n 2, 1) := by decide +kernel
theorem dX9_choose_1 : decode cX9_choose 1 = .ok (.ifCond .ne 29, 3) := by decide +kernel
theorem dX9_choose_4 : decode cX9_choose 4 = .ok (.aload_n 0, 1) := by decide +kernel
theorem dX9_choose_5 : decode cX9_choose 5 = .ok (.getfield 22, 3) := by decide +kernel
theorem dX9_choose_8 : decode cX9_choose 8 = .ok (.iload_n 1, 1) := by decide +kernel
theorem dX9_choose_9 : decode cX9_choose 9 = .ok (.bipush 9, 2) := by decide +kernel
theorem dX9_choose_11 : decode cX9_choose 11 = .ok (.aload_n 0, 1) := by decide +kernel
theorem dX9_choose_12 : decode cX9_choose 12 = .ok (.getfield 22, 3) := by decide +kernel
theorem dX9_choose_15 : decode cX9_choose 15 = .ok (.iload_n 1, 1) := by decide +kernel
theorem dX9_choose_16 : decode cX9_choose 16 = .ok (.invokevirtual 113, 3) := by decide +kernel
theorem dX9_choose_19 : decode cX9_choose 19 = .ok (.iconst 3, 1) := by decide +kernel
theorem dX9_choose_20 : decode cX9_choose 20 = .ok (.iadd, 1) := by decide +kernel
theorem dX9_choose_21 : decode cX9_choose 21 = .ok (.invokestatic 82, 3) := by decide +kernel
theorem dX9_choose_24 : decode cX9_choose 24 = .ok (.invokevirtual 110, 3) := by decide +kernel
theorem dX9_choose_27 : decode cX9_choose 27 = .ok (.goto 26, 3) := by decide +kernel
theorem dX9_choose_30 : decode cX9_choose 30 = .ok (.aload_n 0, 1) := by decide +kernel
theorem dX9_choose_31 : decode cX9_choose 31 = .ok (.getfield 22, 3) := by decide +kernel
theorem dX9_choose_34 : decode cX9_choose 34 = .ok (.iload_n 1, 1) := by decide +kernel
theorem dX9_choose_35 : decode cX9_choose 35 = .ok (.bipush 9, 2) := by decide +kernel
theorem dX9_choose_37 : decode cX9_choose 37 = .ok (.aload_n 0, 1) := by decide +kernel
theorem dX9_choose_38 : decode cX9_choose 38 = .ok (.getfield 22, 3) := by decide +kernel
theorem dX9_choose_41 : decode cX9_choose 41 = .ok (.iload_n 1, 1) := by decide +kernel
theorem dX9_choose_42 : decode cX9_choose 42 = .ok (.invokevirtual 128, 3) := by decide +kernel
theorem dX9_choose_45 : decode cX9_choose 45 = .ok (.iconst 3, 1) := by decide +kernel
theorem dX9_choose_46 : decode cX9_choose 46 = .ok (.iadd, 1) := by decide +kernel
theorem dX9_choose_47 : decode cX9_choose 47 = .ok (.invokestatic 82, 3) := by decide +kernel
theorem dX9_choose_50 : decode cX9_choose 50 = .ok (.invokevirtual 64, 3) := by decide +kernel
theorem dX9_choose_53 : decode cX9_choose 53 = .ok (.return_, 1) := by decide +kernel
theorem dX9_gainOf_0 : decode cX9_gainOf 0 = .ok (.iload_n 2, 1) := by decide +kernel
theorem dX9_gainOf_1 : decode cX9_gainOf 1 = .ok (.iload_n 0, 1) := by decide +kernel
theorem dX9_gainOf_2 : decode cX9_gainOf 2 = .ok (.if_icmp .ne 8, 3) := by decide +kernel
theorem dX9_gainOf_5 : decode cX9_gainOf 5 = .ok (.bipush 10, 2) := by decide +kernel
theorem dX9_gainOf_7 : decode cX9_gainOf 7 = .ok (.goto 4, 3) := by decide +kernel
theorem dX9_gainOf_10 : decode cX9_gainOf 10 = .ok (.iconst 0, 1) := by decide +kernel
theorem dX9_gainOf_11 : decode cX9_gainOf 11 = .ok (.iload_n 1, 1) := by decide +kernel
theorem dX9_gainOf_12 : decode cX9_gainOf 12 = .ok (.ifCond .ne 7, 3) := by decide +kernel
theorem dX9_gainOf_15 : decode cX9_gainOf 15 = .ok (.iconst 1, 1) := by decide +kernel
theorem dX9_gainOf_16 : decode cX9_gainOf 16 = .ok (.goto 5, 3) := by decide +kernel
theorem dX9_gainOf_19 : decode cX9_gainOf 19 = .ok (.bipush (-2), 2) := by decide +kernel
theorem dX9_gainOf_21 : decode cX9_gainOf 21 = .ok (.iadd, 1) := by decide +kernel
theorem dX9_gainOf_22 : decode cX9_gainOf 22 = .ok (.ireturn, 1) := by decide +kernel
theorem dX9_rests_0 : decode cX9_rests 0 = .ok (.aload_n 0, 1) := by decide +kernel
theorem dX9_rests_1 : decode cX9_rests 1 = .ok (.getfield 15, 3) := by decide +kernel
theorem dX9_rests_4 : decode cX9_rests 4 = .ok (.iconst 2, 1) := by decide +kernel
theorem dX9_rests_5 : decode cX9_rests 5 = .ok (.iload_n 3, 1) := by decide +kernel
theorem dX9_rests_6 : decode cX9_rests 6 = .ok (.imul, 1) := by decide +kernel
theorem dX9_rests_7 : decode cX9_rests 7 = .ok (.iload 4, 2) := by decide +kernel
theorem dX9_rests_9 : decode cX9_rests 9 = .ok (.iadd, 1) := by decide +kernel
theorem dX9_rests_10 : decode cX9_rests 10 = .ok (.iaload, 1) := by decide +kernel
theorem dX9_rests_11 : decode cX9_rests 11 = .ok (.istore 5, 2) := by decide +kernel
theorem dX9_rests_13 : decode cX9_rests 13 = .ok (.iload_n 1, 1) := by decide +kernel
theorem dX9_rests_14 : decode cX9_rests 14 = .ok (.iconst 1, 1) := by decide +kernel
theorem dX9_rests_15 : decode cX9_rests 15 = .ok (.iload_n 3, 1) := by decide +kernel
theorem dX9_rests_16 : decode cX9_rests 16 = .ok (.isub, 1) := by decide +kernel
theorem dX9_rests_17 : decode cX9_rests 17 = .ok (.aload_n 0, 1) := by decide +kernel
theorem dX9_rests_18 : decode cX9_rests 18 = .ok (.getfield 15, 3) := by decide +kernel
theorem dX9_rests_21 : decode cX9_rests 21 = .ok (.iconst 2, 1) := by decide +kernel
theorem dX9_rests_22 : decode cX9_rests 22 = .ok (.iconst 1, 1) := by decide +kernel
theorem dX9_rests_23 : decode cX9_rests 23 = .ok (.iload_n 3, 1) := by decide +kernel
theorem dX9_rests_24 : decode cX9_rests 24 = .ok (.isub, 1) := by decide +kernel
theorem dX9_rests_25 : decode cX9_rests 25 = .ok (.imul, 1) := by decide +kernel
theorem dX9_rests_26 : decode cX9_rests 26 = .ok (.iload 4, 2) := by decide +kernel
theorem dX9_rests_28 : decode cX9_rests 28 = .ok (.iadd, 1) := by decide +kernel
theorem dX9_rests_29 : decode cX9_rests 29 = .ok (.iaload, 1) := by decide +kernel
theorem dX9_rests_30 : decode cX9_rests 30 = .ok (.invokestatic 131, 3) := by decide +kernel
theorem dX9_rests_33 : decode cX9_rests 33 = .ok (.istore 6, 2) := by decide +kernel
theorem dX9_rests_35 : decode cX9_rests 35 = .ok (.iload_n 2, 1) := by decide +kernel
theorem dX9_rests_36 : decode cX9_rests 36 = .ok (.iconst 1, 1) := by decide +kernel
theorem dX9_rests_37 : decode cX9_rests 37 = .ok (.iload 4, 2) := by decide +kernel
theorem dX9_rests_39 : decode cX9_rests 39 = .ok (.isub, 1) := by decide +kernel
theorem dX9_rests_40 : decode cX9_rests 40 = .ok (.aload_n 0, 1) := by decide +kernel
theorem dX9_rests_41 : decode cX9_rests 41 = .ok (.getfield 15, 3) := by decide +kernel
theorem dX9_rests_44 : decode cX9_rests 44 = .ok (.iconst 2, 1) := by decide +kernel
theorem dX9_rests_45 : decode cX9_rests 45 = .ok (.iload_n 3, 1) := by decide +kernel
theorem dX9_rests_46 : decode cX9_rests 46 = .ok (.imul, 1) := by decide +kernel
theorem dX9_rests_47 : decode cX9_rests 47 = .ok (.iconst 1, 1) := by decide +kernel
theorem dX9_rests_48 : decode cX9_rests 48 = .ok (.iadd, 1) := by decide +kernel
theorem dX9_rests_49 : decode cX9_rests 49 = .ok (.iload 4, 2) := by decide +kernel
theorem dX9_rests_51 : decode cX9_rests 51 = .ok (.isub, 1) := by decide +kernel
theorem dX9_rests_52 : decode cX9_rests 52 = .ok (.iaload, 1) := by decide +kernel
theorem dX9_rests_53 : decode cX9_rests 53 = .ok (.invokestatic 131, 3) := by decide +kernel
theorem dX9_rests_56 : decode cX9_rests 56 = .ok (.istore 7, 2) := by decide +kernel
theorem dX9_rests_58 : decode cX9_rests 58 = .ok (.iload 6, 2) := by decide +kernel
theorem dX9_rests_60 : decode cX9_rests 60 = .ok (.iload_n 1, 1) := by decide +kernel
theorem dX9_rests_61 : decode cX9_rests 61 = .ok (.iload_n 3, 1) := by decide +kernel
theorem dX9_rests_62 : decode cX9_rests 62 = .ok (.iload 5, 2) := by decide +kernel
theorem dX9_rests_64 : decode cX9_rests 64 = .ok (.invokestatic 131, 3) := by decide +kernel
theorem dX9_rests_67 : decode cX9_rests 67 = .ok (.if_icmp .gt 20, 3) := by decide +kernel
theorem dX9_rests_70 : decode cX9_rests 70 = .ok (.iload 7, 2) := by decide +kernel
theorem dX9_rests_72 : decode cX9_rests 72 = .ok (.iload_n 2, 1) := by decide +kernel
theorem dX9_rests_73 : decode cX9_rests 73 = .ok (.iload 4, 2) := by decide +kernel
theorem dX9_rests_75 : decode cX9_rests 75 = .ok (.iload 5, 2) := by decide +kernel
theorem dX9_rests_77 : decode cX9_rests 77 = .ok (.invokestatic 131, 3) := by decide +kernel
theorem dX9_rests_80 : decode cX9_rests 80 = .ok (.if_icmp .gt 7, 3) := by decide +kernel
theorem dX9_rests_83 : decode cX9_rests 83 = .ok (.iconst 1, 1) := by decide +kernel
theorem dX9_rests_84 : decode cX9_rests 84 = .ok (.goto 4, 3) := by decide +kernel
theorem dX9_rests_87 : decode cX9_rests 87 = .ok (.iconst 0, 1) := by decide +kernel
theorem dX9_rests_88 : decode cX9_rests 88 = .ok (.ireturn, 1) := by decide +kernel
theorem dX9_restingCount_0 : decode cX9_restingCount 0 = .ok (.iconst 0, 1) := by decide +kernel
theorem dX9_restingCount_1 : decode cX9_restingCount 1 = .ok (.istore_n 3, 1) := by decide +kernel
theorem dX9_restingCount_2 : decode cX9_restingCount 2 = .ok (.iconst 0, 1) := by decide +kernel
theorem dX9_restingCount_3 : decode cX9_restingCount 3 = .ok (.istore 4, 2) := by decide +kernel
theorem dX9_restingCount_5 : decode cX9_restingCount 5 = .ok (.iload 4, 2) := by decide +kernel
theorem dX9_restingCount_7 : decode cX9_restingCount 7 = .ok (.iconst 4, 1) := by decide +kernel
theorem dX9_restingCount_8 : decode cX9_restingCount 8 = .ok (.if_icmp .ge 29, 3) := by decide +kernel
theorem dX9_restingCount_11 : decode cX9_restingCount 11 = .ok (.aload_n 0, 1) := by decide +kernel
theorem dX9_restingCount_12 : decode cX9_restingCount 12 = .ok (.iload_n 1, 1) := by decide +kernel
theorem dX9_restingCount_13 : decode cX9_restingCount 13 = .ok (.iload_n 2, 1) := by decide +kernel
theorem dX9_restingCount_14 : decode cX9_restingCount 14 = .ok (.iload 4, 2) := by decide +kernel
theorem dX9_restingCount_16 : decode cX9_restingCount 16 = .ok (.iconst 2, 1) := by decide +kernel
theorem dX9_restingCount_17 : decode cX9_restingCount 17 = .ok (.idiv, 1) := by decide +kernel
theorem dX9_restingCount_18 : decode cX9_restingCount 18 = .ok (.iload 4, 2) := by decide +kernel
theorem dX9_restingCount_20 : decode cX9_restingCount 20 = .ok (.iconst 2, 1) := by decide +kernel
theorem dX9_restingCount_21 : decode cX9_restingCount 21 = .ok (.irem, 1) := by decide +kernel
theorem dX9_restingCount_22 : decode cX9_restingCount 22 = .ok (.invokevirtual 135, 3) := by decide +kernel
theorem dX9_restingCount_25 : decode cX9_restingCount 25 = .ok (.ifCond .eq 6, 3) := by decide +kernel
theorem dX9_restingCount_28 : decode cX9_restingCount 28 = .ok (.iinc 3 1, 3) := by decide +kernel
theorem dX9_restingCount_31 : decode cX9_restingCount 31 = .ok (.iinc 4 1, 3) := by decide +kernel
theorem dX9_restingCount_34 : decode cX9_restingCount 34 = .ok (.goto (-29), 3) := by decide +kernel
theorem dX9_restingCount_37 : decode cX9_restingCount 37 = .ok (.iload_n 3, 1) := by decide +kernel
theorem dX9_restingCount_38 : decode cX9_restingCount 38 = .ok (.ireturn, 1) := by decide +kernel
theorem dX9_firstResting_0 : decode cX9_firstResting 0 = .ok (.iconst 0, 1) := by decide +kernel
theorem dX9_firstResting_1 : decode cX9_firstResting 1 = .ok (.istore_n 3, 1) := by decide +kernel
theorem dX9_firstResting_2 : decode cX9_firstResting 2 = .ok (.iload_n 3, 1) := by decide +kernel
theorem dX9_firstResting_3 : decode cX9_firstResting 3 = .ok (.iconst 4, 1) := by decide +kernel
theorem dX9_firstResting_4 : decode cX9_firstResting 4 = .ok (.if_icmp .ge 35, 3) := by decide +kernel
theorem dX9_firstResting_7 : decode cX9_firstResting 7 = .ok (.aload_n 0, 1) := by decide +kernel
theorem dX9_firstResting_8 : decode cX9_firstResting 8 = .ok (.iload_n 1, 1) := by decide +kernel
theorem dX9_firstResting_9 : decode cX9_firstResting 9 = .ok (.iload_n 2, 1) := by decide +kernel
theorem dX9_firstResting_10 : decode cX9_firstResting 10 = .ok (.iload_n 3, 1) := by decide +kernel
theorem dX9_firstResting_11 : decode cX9_firstResting 11 = .ok (.iconst 2, 1) := by decide +kernel
theorem dX9_firstResting_12 : decode cX9_firstResting 12 = .ok (.idiv, 1) := by decide +kernel
theorem dX9_firstResting_13 : decode cX9_firstResting 13 = .ok (.iload_n 3, 1) := by decide +kernel
theorem dX9_firstResting_14 : decode cX9_firstResting 14 = .ok (.iconst 2, 1) := by decide +kernel
theorem dX9_firstResting_15 : decode cX9_firstResting 15 = .ok (.irem, 1) := by decide +kernel
theorem dX9_firstResting_16 : decode cX9_firstResting 16 = .ok (.invokevirtual 135, 3) := by decide +kernel
theorem dX9_firstResting_19 : decode cX9_firstResting 19 = .ok (.ifCond .eq 14, 3) := by decide +kernel
theorem dX9_firstResting_22 : decode cX9_firstResting 22 = .ok (.bipush 10, 2) := by decide +kernel
theorem dX9_firstResting_24 : decode cX9_firstResting 24 = .ok (.iload_n 3, 1) := by decide +kernel
theorem dX9_firstResting_25 : decode cX9_firstResting 25 = .ok (.iconst 2, 1) := by decide +kernel
theorem dX9_firstResting_26 : decode cX9_firstResting 26 = .ok (.idiv, 1) := by decide +kernel
theorem dX9_firstResting_27 : decode cX9_firstResting 27 = .ok (.imul, 1) := by decide +kernel
theorem dX9_firstResting_28 : decode cX9_firstResting 28 = .ok (.iload_n 3, 1) := by decide +kernel
theorem dX9_firstResting_29 : decode cX9_firstResting 29 = .ok (.iconst 2, 1) := by decide +kernel
theorem dX9_firstResting_30 : decode cX9_firstResting 30 = .ok (.irem, 1) := by decide +kernel
theorem dX9_firstResting_31 : decode cX9_firstResting 31 = .ok (.iadd, 1) := by decide +kernel
theorem dX9_firstResting_32 : decode cX9_firstResting 32 = .ok (.ireturn, 1) := by decide +kernel
theorem dX9_firstResting_33 : decode cX9_firstResting 33 = .ok (.iinc 3 1, 3) := by decide +kernel
theorem dX9_firstResting_36 : decode cX9_firstResting 36 = .ok (.goto (-34), 3) := by decide +kernel
theorem dX9_firstResting_39 : decode cX9_firstResting 39 = .ok (.iconst (-1), 1) := by decide +kernel
theorem dX9_firstResting_40 : decode cX9_firstResting 40 = .ok (.ireturn, 1) := by decide +kernel
theorem dX9_drawYears_0 : decode cX9_drawYears 0 = .ok (.aload_n 0, 1) := by decide +kernel
theorem dX9_drawYears_1 : decode cX9_drawYears 1 = .ok (.iload_n 1, 1) := by decide +kernel
theorem dX9_drawYears_2 : decode cX9_drawYears 2 = .ok (.putfield 139, 3) := by decide +kernel
theorem dX9_drawYears_5 : decode cX9_drawYears 5 = .ok (.aload_n 0, 1) := by decide +kernel
theorem dX9_drawYears_6 : decode cX9_drawYears 6 = .ok (.getfield 22, 3) := by decide +kernel
theorem dX9_drawYears_9 : decode cX9_drawYears 9 = .ok (.aload_n 0, 1) := by decide +kernel
theorem dX9_drawYears_10 : decode cX9_drawYears 10 = .ok (.getfield 18, 3) := by decide +kernel
theorem dX9_drawYears_13 : decode cX9_drawYears 13 = .ok (.invokevirtual 29, 3) := by decide +kernel
theorem dX9_drawYears_16 : decode cX9_drawYears 16 = .ok (.iconst 0, 1) := by decide +kernel
theorem dX9_drawYears_17 : decode cX9_drawYears 17 = .ok (.istore_n 3, 1) := by decide +kernel
theorem dX9_drawYears_18 : decode cX9_drawYears 18 = .ok (.iload_n 3, 1) := by decide +kernel
theorem dX9_drawYears_19 : decode cX9_drawYears 19 = .ok (.iload_n 2, 1) := by decide +kernel
theorem dX9_drawYears_20 : decode cX9_drawYears 20 = .ok (.if_icmp .ge 20, 3) := by decide +kernel
theorem dX9_drawYears_23 : decode cX9_drawYears 23 = .ok (.aload_n 0, 1) := by decide +kernel
theorem dX9_drawYears_24 : decode cX9_drawYears 24 = .ok (.invokevirtual 142, 3) := by decide +kernel
theorem dX9_drawYears_27 : decode cX9_drawYears 27 = .ok (.aload_n 0, 1) := by decide +kernel
theorem dX9_drawYears_28 : decode cX9_drawYears 28 = .ok (.getfield 22, 3) := by decide +kernel
theorem dX9_drawYears_31 : decode cX9_drawYears 31 = .ok (.invokevirtual 35, 3) := by decide +kernel
theorem dX9_drawYears_34 : decode cX9_drawYears 34 = .ok (.iinc 3 1, 3) := by decide +kernel
theorem dX9_drawYears_37 : decode cX9_drawYears 37 = .ok (.goto (-19), 3) := by decide +kernel
theorem dX9_drawYears_40 : decode cX9_drawYears 40 = .ok (.return_, 1) := by decide +kernel
theorem dX9_takeChance_0 : decode cX9_takeChance 0 = .ok (.aload_n 0, 1) := by decide +kernel
theorem dX9_takeChance_1 : decode cX9_takeChance 1 = .ok (.bipush 6, 2) := by decide +kernel
theorem dX9_takeChance_3 : decode cX9_takeChance 3 = .ok (.invokevirtual 145, 3) := by decide +kernel
theorem dX9_takeChance_6 : decode cX9_takeChance 6 = .ok (.istore_n 1, 1) := by decide +kernel
theorem dX9_takeChance_7 : decode cX9_takeChance 7 = .ok (.iload_n 1, 1) := by decide +kernel
theorem dX9_takeChance_8 : decode cX9_takeChance 8 = .ok (.ifCond .ne 58, 3) := by decide +kernel
theorem dX9_takeChance_11 : decode cX9_takeChance 11 = .ok (.aload_n 0, 1) := by decide +kernel
theorem dX9_takeChance_12 : decode cX9_takeChance 12 = .ok (.getfield 18, 3) := by decide +kernel
theorem dX9_takeChance_15 : decode cX9_takeChance 15 = .ok (.getfield 68, 3) := by decide +kernel
theorem dX9_takeChance_18 : decode cX9_takeChance 18 = .ok (.getfield 116, 3) := by decide +kernel
theorem dX9_takeChance_21 : decode cX9_takeChance 21 = .ok (.ifCond .le 45, 3) := by decide +kernel
theorem dX9_takeChance_24 : decode cX9_takeChance 24 = .ok (.aload_n 0, 1) := by decide +kernel
theorem dX9_takeChance_25 : decode cX9_takeChance 25 = .ok (.aload_n 0, 1) := by decide +kernel
theorem dX9_takeChance_26 : decode cX9_takeChance 26 = .ok (.getfield 18, 3) := by decide +kernel
theorem dX9_takeChance_29 : decode cX9_takeChance 29 = .ok (.getfield 68, 3) := by decide +kernel
theorem dX9_takeChance_32 : decode cX9_takeChance 32 = .ok (.getfield 116, 3) := by decide +kernel
theorem dX9_takeChance_35 : decode cX9_takeChance 35 = .ok (.invokevirtual 145, 3) := by decide +kernel
theorem dX9_takeChance_38 : decode cX9_takeChance 38 = .ok (.istore_n 2, 1) := by decide +kernel
theorem dX9_takeChance_39 : decode cX9_takeChance 39 = .ok (.aload_n 0, 1) := by decide +kernel
theorem dX9_takeChance_40 : decode cX9_takeChance 40 = .ok (.getfield 22, 3) := by decide +kernel
theorem dX9_takeChance_43 : decode cX9_takeChance 43 = .ok (.iload_n 2, 1) := by decide +kernel
theorem dX9_takeChance_44 : decode cX9_takeChance 44 = .ok (.bipush 99, 2) := by decide +kernel
theorem dX9_takeChance_46 : decode cX9_takeChance 46 = .ok (.aload_n 0, 1) := by decide +kernel
theorem dX9_takeChance_47 : decode cX9_takeChance 47 = .ok (.getfield 22, 3) := by decide +kernel
theorem dX9_takeChance_50 : decode cX9_takeChance 50 = .ok (.iload_n 2, 1) := by decide +kernel
theorem dX9_takeChance_51 : decode cX9_takeChance 51 = .ok (.invokevirtual 148, 3) := by decide +kernel
theorem dX9_takeChance_54 : decode cX9_takeChance 54 = .ok (.bipush 15, 2) := by decide +kernel
theorem dX9_takeChance_56 : decode cX9_takeChance 56 = .ok (.iadd, 1) := by decide +kernel
theorem dX9_takeChance_57 : decode cX9_takeChance 57 = .ok (.invokestatic 82, 3) := by decide +kernel
theorem dX9_takeChance_60 : decode cX9_takeChance 60 = .ok (.invokevirtual 151, 3) := by decide +kernel
theorem dX9_takeChance_63 : decode cX9_takeChance 63 = .ok (.goto 83, 3) := by decide +kernel
theorem dX9_takeChance_66 : decode cX9_takeChance 66 = .ok (.iload_n 1, 1) := by decide +kernel
theorem dX9_takeChance_67 : decode cX9_takeChance 67 = .ok (.iconst 1, 1) := by decide +kernel
theorem dX9_takeChance_68 : decode cX9_takeChance 68 = .ok (.if_icmp .ne 78, 3) := by decide +kernel
theorem dX9_takeChance_71 : decode cX9_takeChance 71 = .ok (.aload_n 0, 1) := by decide +kernel
theorem dX9_takeChance_72 : decode cX9_takeChance 72 = .ok (.getfield 18, 3) := by decide +kernel
theorem dX9_takeChance_75 : decode cX9_takeChance 75 = .ok (.getfield 68, 3) := by decide +kernel
theorem dX9_takeChance_78 : decode cX9_takeChance 78 = .ok (.getfield 72, 3) := by decide +kernel
theorem dX9_takeChance_81 : decode cX9_takeChance 81 = .ok (.ifCond .le 65, 3) := by decide +kernel
theorem dX9_takeChance_84 : decode cX9_takeChance 84 = .ok (.aload_n 0, 1) := by decide +kernel
theorem dX9_takeChance_85 : decode cX9_takeChance 85 = .ok (.aload_n 0, 1) := by decide +kernel
theorem dX9_takeChance_86 : decode cX9_takeChance 86 = .ok (.getfield 18, 3) := by decide +kernel
theorem dX9_takeChance_89 : decode cX9_takeChance 89 = .ok (.getfield 68, 3) := by decide +kernel
theorem dX9_takeChance_92 : decode cX9_takeChance 92 = .ok (.getfield 72, 3) := by decide +kernel
theorem dX9_takeChance_95 : decode cX9_takeChance 95 = .ok (.invokevirtual 145, 3) := by decide +kernel
theorem dX9_takeChance_98 : decode cX9_takeChance 98 = .ok (.istore_n 2, 1) := by decide +kernel
theorem dX9_takeChance_99 : decode cX9_takeChance 99 = .ok (.aload_n 0, 1) := by decide +kernel
theorem dX9_takeChance_100 : decode cX9_takeChance 100 = .ok (.getfield 22, 3) := by decide +kernel
theorem dX9_takeChance_103 : decode cX9_takeChance 103 = .ok (.iload_n 2, 1) := by decide +kernel
theorem dX9_takeChance_104 : decode cX9_takeChance 104 = .ok (.invokevirtual 61, 3) := by decide +kernel
theorem dX9_takeChance_107 : decode cX9_takeChance 107 = .ok (.ifCond .eq 39, 3) := by decide +kernel
theorem dX9_takeChance_110 : decode cX9_takeChance 110 = .ok (.aload_n 0, 1) := by decide +kernel
theorem dX9_takeChance_111 : decode cX9_takeChance 111 = .ok (.getfield 22, 3) := by decide +kernel
theorem dX9_takeChance_114 : decode cX9_takeChance 114 = .ok (.iload_n 2, 1) := by decide +kernel
theorem dX9_takeChance_115 : decode cX9_takeChance 115 = .ok (.invokevirtual 154, 3) := by decide +kernel
theorem dX9_takeChance_118 : decode cX9_takeChance 118 = .ok (.aload_n 0, 1) := by decide +kernel
theorem dX9_takeChance_119 : decode cX9_takeChance 119 = .ok (.getfield 22, 3) := by decide +kernel
theorem dX9_takeChance_122 : decode cX9_takeChance 122 = .ok (.invokevirtual 38, 3) := by decide +kernel
theorem dX9_takeChance_125 : decode cX9_takeChance 125 = .ok (.if_icmp .lt 21, 3) := by decide +kernel
theorem dX9_takeChance_128 : decode cX9_takeChance 128 = .ok (.aload_n 0, 1) := by decide +kernel
theorem dX9_takeChance_129 : decode cX9_takeChance 129 = .ok (.getfield 22, 3) := by decide +kernel
theorem dX9_takeChance_132 : decode cX9_takeChance 132 = .ok (.iload_n 2, 1) := by decide +kernel
theorem dX9_takeChance_133 : decode cX9_takeChance 133 = .ok (.aload_n 0, 1) := by decide +kernel
theorem dX9_takeChance_134 : decode cX9_takeChance 134 = .ok (.getfield 22, 3) := by decide +kernel
theorem dX9_takeChance_137 : decode cX9_takeChance 137 = .ok (.iload_n 2, 1) := by decide +kernel
theorem dX9_takeChance_138 : decode cX9_takeChance 138 = .ok (.invokevirtual 154, 3) := by decide +kernel
theorem dX9_takeChance_141 : decode cX9_takeChance 141 = .ok (.iconst 2, 1) := by decide +kernel
theorem dX9_takeChance_142 : decode cX9_takeChance 142 = .ok (.iadd, 1) := by decide +kernel
theorem dX9_takeChance_143 : decode cX9_takeChance 143 = .ok (.invokevirtual 91, 3) := by decide +kernel
theorem dX9_takeChance_146 : decode cX9_takeChance 146 = .ok (.return_, 1) := by decide +kernel
theorem dX9_draw_0 : decode cX9_draw 0 = .ok (.aload_n 0, 1) := by decide +kernel
theorem dX9_draw_1 : decode cX9_draw 1 = .ok (.aload_n 0, 1) := by decide +kernel
theorem dX9_draw_2 : decode cX9_draw 2 = .ok (.getfield 139, 3) := by decide +kernel
theorem dX9_draw_5 : decode cX9_draw 5 = .ok (.ldc 157, 2) := by decide +kernel
theorem dX9_draw_7 : decode cX9_draw 7 = .ok (.imul, 1) := by decide +kernel
theorem dX9_draw_8 : decode cX9_draw 8 = .ok (.sipush 12345, 3) := by decide +kernel
theorem dX9_draw_11 : decode cX9_draw 11 = .ok (.iadd, 1) := by decide +kernel
theorem dX9_draw_12 : decode cX9_draw 12 = .ok (.putfield 139, 3) := by decide +kernel
theorem dX9_draw_15 : decode cX9_draw 15 = .ok (.iload_n 1, 1) := by decide +kernel
theorem dX9_draw_16 : decode cX9_draw 16 = .ok (.ifCond .gt 7, 3) := by decide +kernel
theorem dX9_draw_19 : decode cX9_draw 19 = .ok (.iconst 0, 1) := by decide +kernel
theorem dX9_draw_20 : decode cX9_draw 20 = .ok (.goto 16, 3) := by decide +kernel
theorem dX9_draw_23 : decode cX9_draw 23 = .ok (.aload_n 0, 1) := by decide +kernel
theorem dX9_draw_24 : decode cX9_draw 24 = .ok (.getfield 139, 3) := by decide +kernel
theorem dX9_draw_27 : decode cX9_draw 27 = .ok (.bipush 16, 2) := by decide +kernel
theorem dX9_draw_29 : decode cX9_draw 29 = .ok (.iushr, 1) := by decide +kernel
theorem dX9_draw_30 : decode cX9_draw 30 = .ok (.sipush 32767, 3) := by decide +kernel
theorem dX9_draw_33 : decode cX9_draw 33 = .ok (.iand, 1) := by decide +kernel
theorem dX9_draw_34 : decode cX9_draw 34 = .ok (.iload_n 1, 1) := by decide +kernel
theorem dX9_draw_35 : decode cX9_draw 35 = .ok (.irem, 1) := by decide +kernel
theorem dX9_draw_36 : decode cX9_draw 36 = .ok (.ireturn, 1) := by decide +kernel
theorem dX10_find_0 : decode cX10_find 0 = .ok (.iconst 0, 1) := by decide +kernel
theorem dX10_find_1 : decode cX10_find 1 = .ok (.istore_n 3, 1) := by decide +kernel
theorem dX10_find_2 : decode cX10_find 2 = .ok (.iload_n 3, 1) := by decide +kernel
theorem dX10_find_3 : decode cX10_find 3 = .ok (.getstatic 93, 3) := by decide +kernel
theorem dX10_find_6 : decode cX10_find 6 = .ok (.arraylength, 1) := by decide +kernel
theorem dX10_find_7 : decode cX10_find 7 = .ok (.if_icmp .ge 29, 3) := by decide +kernel
theorem dX10_find_10 : decode cX10_find 10 = .ok (.getstatic 93, 3) := by decide +kernel
theorem dX10_find_13 : decode cX10_find 13 = .ok (.iload_n 3, 1) := by decide +kernel
theorem dX10_find_14 : decode cX10_find 14 = .ok (.aaload, 1) := by decide +kernel
theorem dX10_find_15 : decode cX10_find 15 = .ok (.aload_n 0, 1) := by decide +kernel
theorem dX10_find_16 : decode cX10_find 16 = .ok (.iload_n 1, 1) := by decide +kernel
theorem dX10_find_17 : decode cX10_find 17 = .ok (.iload_n 2, 1) := by decide +kernel
theorem dX10_find_18 : decode cX10_find 18 = .ok (.invokevirtual 96, 3) := by decide +kernel
theorem dX10_find_21 : decode cX10_find 21 = .ok (.ifCond .eq 9, 3) := by decide +kernel
theorem dX10_find_24 : decode cX10_find 24 = .ok (.getstatic 93, 3) := by decide +kernel
theorem dX10_find_27 : decode cX10_find 27 = .ok (.iload_n 3, 1) := by decide +kernel
theorem dX10_find_28 : decode cX10_find 28 = .ok (.aaload, 1) := by decide +kernel
theorem dX10_find_29 : decode cX10_find 29 = .ok (.areturn, 1) := by decide +kernel
theorem dX10_find_30 : decode cX10_find 30 = .ok (.iinc 3 1, 3) := by decide +kernel
theorem dX10_find_33 : decode cX10_find 33 = .ok (.goto (-31), 3) := by decide +kernel
theorem dX10_find_36 : decode cX10_find 36 = .ok (.aconst_null, 1) := by decide +kernel
theorem dX10_find_37 : decode cX10_find 37 = .ok (.areturn, 1) := by decide +kernel
theorem dX10_stands_0 : decode cX10_stands 0 = .ok (.iload_n 3, 1) := by decide +kernel
theorem dX10_stands_1 : decode cX10_stands 1 = .ok (.iload_n 2, 1) := by decide +kernel
theorem dX10_stands_2 : decode cX10_stands 2 = .ok (.isub, 1) := by decide +kernel
theorem dX10_stands_3 : decode cX10_stands 3 = .ok (.aload_n 0, 1) := by decide +kernel
theorem dX10_stands_4 : decode cX10_stands 4 = .ok (.getfield 82, 3) := by decide +kernel
theorem dX10_stands_7 : decode cX10_stands 7 = .ok (.invokevirtual 100, 3) := by decide +kernel
theorem dX10_stands_10 : decode cX10_stands 10 = .ok (.if_icmp .eq 5, 3) := by decide +kernel
theorem dX10_stands_13 : decode cX10_stands 13 = .ok (.iconst 0, 1) := by decide +kernel
theorem dX10_stands_14 : decode cX10_stands 14 = .ok (.ireturn, 1) := by decide +kernel
theorem dX10_stands_15 : decode cX10_stands 15 = .ok (.iconst 0, 1) := by decide +kernel
theorem dX10_stands_16 : decode cX10_stands 16 = .ok (.istore 4, 2) := by decide +kernel
theorem dX10_stands_18 : decode cX10_stands 18 = .ok (.iload 4, 2) := by decide +kernel
theorem dX10_stands_20 : decode cX10_stands 20 = .ok (.aload_n 0, 1) := by decide +kernel
theorem dX10_stands_21 : decode cX10_stands 21 = .ok (.getfield 82, 3) := by decide +kernel
theorem dX10_stands_24 : decode cX10_stands 24 = .ok (.invokevirtual 100, 3) := by decide +kernel
theorem dX10_stands_27 : decode cX10_stands 27 = .ok (.if_icmp .ge 29, 3) := by decide +kernel
theorem dX10_stands_30 : decode cX10_stands 30 = .ok (.aload_n 1, 1) := by decide +kernel
theorem dX10_stands_31 : decode cX10_stands 31 = .ok (.iload_n 2, 1) := by decide +kernel
theorem dX10_stands_32 : decode cX10_stands 32 = .ok (.iload 4, 2) := by decide +kernel
theorem dX10_stands_34 : decode cX10_stands 34 = .ok (.iadd, 1) := by decide +kernel
theorem dX10_stands_35 : decode cX10_stands 35 = .ok (.iaload, 1) := by decide +kernel
theorem dX10_stands_36 : decode cX10_stands 36 = .ok (.aload_n 0, 1) := by decide +kernel
theorem dX10_stands_37 : decode cX10_stands 37 = .ok (.getfield 82, 3) := by decide +kernel
theorem dX10_stands_40 : decode cX10_stands 40 = .ok (.iload 4, 2) := by decide +kernel
theorem dX10_stands_42 : decode cX10_stands 42 = .ok (.invokevirtual 106, 3) := by decide +kernel
theorem dX10_stands_45 : decode cX10_stands 45 = .ok (.if_icmp .eq 5, 3) := by decide +kernel
theorem dX10_stands_48 : decode cX10_stands 48 = .ok (.iconst 0, 1) := by decide +kernel
theorem dX10_stands_49 : decode cX10_stands 49 = .ok (.ireturn, 1) := by decide +kernel
theorem dX10_stands_50 : decode cX10_stands 50 = .ok (.iinc 4 1, 3) := by decide +kernel
theorem dX10_stands_53 : decode cX10_stands 53 = .ok (.goto (-35), 3) := by decide +kernel
theorem dX10_stands_56 : decode cX10_stands 56 = .ok (.iconst 1, 1) := by decide +kernel
theorem dX10_stands_57 : decode cX10_stands 57 = .ok (.ireturn, 1) := by decide +kernel
theorem dX11_init_0 : decode cX11_init 0 = .ok (.aload_n 0, 1) := by decide +kernel
theorem dX11_init_1 : decode cX11_init 1 = .ok (.invokespecial 1, 3) := by decide +kernel
theorem dX11_init_4 : decode cX11_init 4 = .ok (.aload_n 0, 1) := by decide +kernel
theorem dX11_init_5 : decode cX11_init 5 = .ok (.sipush 700, 3) := by decide +kernel
theorem dX11_init_8 : decode cX11_init 8 = .ok (.newarray .int, 2) := by decide +kernel
theorem dX11_init_10 : decode cX11_init 10 = .ok (.putfield 9, 3) := by decide +kernel
theorem dX11_init_13 : decode cX11_init 13 = .ok (.new 13, 3) := by decide +kernel
theorem dX11_init_16 : decode cX11_init 16 = .ok (.dup, 1) := by decide +kernel
theorem dX11_init_17 : decode cX11_init 17 = .ok (.invokespecial 15, 3) := by decide +kernel
theorem dX11_init_20 : decode cX11_init 20 = .ok (.astore_n 1, 1) := by decide +kernel
theorem dX11_init_21 : decode cX11_init 21 = .ok (.aload_n 0, 1) := by decide +kernel
theorem dX11_init_22 : decode cX11_init 22 = .ok (.new 13, 3) := by decide +kernel
theorem dX11_init_25 : decode cX11_init 25 = .ok (.dup, 1) := by decide +kernel
theorem dX11_init_26 : decode cX11_init 26 = .ok (.invokespecial 15, 3) := by decide +kernel
theorem dX11_init_29 : decode cX11_init 29 = .ok (.putfield 16, 3) := by decide +kernel
theorem dX11_init_32 : decode cX11_init 32 = .ok (.aload_n 0, 1) := by decide +kernel
theorem dX11_init_33 : decode cX11_init 33 = .ok (.new 20, 3) := by decide +kernel
theorem dX11_init_36 : decode cX11_init 36 = .ok (.dup, 1) := by decide +kernel
theorem dX11_init_37 : decode cX11_init 37 = .ok (.aload_n 1, 1) := by decide +kernel
theorem dX11_init_38 : decode cX11_init 38 = .ok (.invokespecial 22, 3) := by decide +kernel
theorem dX11_init_41 : decode cX11_init 41 = .ok (.putfield 25, 3) := by decide +kernel
theorem dX11_init_44 : decode cX11_init 44 = .ok (.aload_n 0, 1) := by decide +kernel
theorem dX11_init_45 : decode cX11_init 45 = .ok (.new 20, 3) := by decide +kernel
theorem dX11_init_48 : decode cX11_init 48 = .ok (.dup, 1) := by decide +kernel
theorem dX11_init_49 : decode cX11_init 49 = .ok (.aload_n 1, 1) := by decide +kernel
theorem dX11_init_50 : decode cX11_init 50 = .ok (.invokespecial 22, 3) := by decide +kernel
theorem dX11_init_53 : decode cX11_init 53 = .ok (.putfield 29, 3) := by decide +kernel
theorem dX11_init_56 : decode cX11_init 56 = .ok (.aload_n 0, 1) := by decide +kernel
theorem dX11_init_57 : decode cX11_init 57 = .ok (.aload_n 0, 1) := by decide +kernel
theorem dX11_init_58 : decode cX11_init 58 = .ok (.getfield 25, 3) := by decide +kernel
theorem dX11_init_61 : decode cX11_init 61 = .ok (.getfield 32, 3) := by decide +kernel
theorem dX11_init_64 : decode cX11_init 64 = .ok (.putfield 36, 3) := by decide +kernel
theorem dX11_init_67 : decode cX11_init 67 = .ok (.aload_n 0, 1) := by decide +kernel
theorem dX11_init_68 : decode cX11_init 68 = .ok (.new 39, 3) := by decide +kernel
theorem dX11_init_71 : decode cX11_init 71 = .ok (.dup, 1) := by decide +kernel
theorem dX11_init_72 : decode cX11_init 72 = .ok (.aload_n 1, 1) := by decide +kernel
theorem dX11_init_73 : decode cX11_init 73 = .ok (.invokespecial 41, 3) := by decide +kernel
theorem dX11_init_76 : decode cX11_init 76 = .ok (.putfield 42, 3) := by decide +kernel
theorem dX11_init_79 : decode cX11_init 79 = .ok (.aload_n 0, 1) := by decide +kernel
theorem dX11_init_80 : decode cX11_init 80 = .ok (.new 45, 3) := by decide +kernel
theorem dX11_init_83 : decode cX11_init 83 = .ok (.dup, 1) := by decide +kernel
theorem dX11_init_84 : decode cX11_init 84 = .ok (.aload_n 0, 1) := by decide +kernel
theorem dX11_init_85 : decode cX11_init 85 = .ok (.getfield 42, 3) := by decide +kernel
theorem dX11_init_88 : decode cX11_init 88 = .ok (.aload_n 0, 1) := by decide +kernel
theorem dX11_init_89 : decode cX11_init 89 = .ok (.getfield 9, 3) := by decide +kernel
theorem dX11_init_92 : decode cX11_init 92 = .ok (.invokespecial 47, 3) := by decide +kernel
theorem dX11_init_95 : decode cX11_init 95 = .ok (.putfield 50, 3) := by decide +kernel
theorem dX11_init_98 : decode cX11_init 98 = .ok (.aload_n 0, 1) := by decide +kernel
theorem dX11_init_99 : decode cX11_init 99 = .ok (.new 54, 3) := by decide +kernel
theorem dX11_init_102 : decode cX11_init 102 = .ok (.dup, 1) := by decide +kernel
theorem dX11_init_103 : decode cX11_init 103 = .ok (.aload_n 0, 1) := by decide +kernel
theorem dX11_init_104 : decode cX11_init 104 = .ok (.getfield 36, 3) := by decide +kernel
theorem dX11_init_107 : decode cX11_init 107 = .ok (.aload_n 0, 1) := by decide +kernel
theorem dX11_init_108 : decode cX11_init 108 = .ok (.getfield 42, 3) := by decide +kernel
theorem dX11_init_111 : decode cX11_init 111 = .ok (.aload_n 0, 1) := by decide +kernel
theorem dX11_init_112 : decode cX11_init 112 = .ok (.getfield 25, 3) := by decide +kernel
theorem dX11_init_115 : decode cX11_init 115 = .ok (.getfield 56, 3) := by decide +kernel
theorem dX11_init_118 : decode cX11_init 118 = .ok (.invokespecial 60, 3) := by decide +kernel
theorem dX11_init_121 : decode cX11_init 121 = .ok (.putfield 63, 3) := by decide +kernel
theorem dX11_init_124 : decode cX11_init 124 = .ok (.aload_n 0, 1) := by decide +kernel
theorem dX11_init_125 : decode cX11_init 125 = .ok (.new 67, 3) := by decide +kernel
theorem dX11_init_128 : decode cX11_init 128 = .ok (.dup, 1) := by decide +kernel
theorem dX11_init_129 : decode cX11_init 129 = .ok (.aload_n 0, 1) := by decide +kernel
theorem dX11_init_130 : decode cX11_init 130 = .ok (.getfield 36, 3) := by decide +kernel
theorem dX11_init_133 : decode cX11_init 133 = .ok (.invokespecial 69, 3) := by decide +kernel
theorem dX11_init_136 : decode cX11_init 136 = .ok (.putfield 72, 3) := by decide +kernel
theorem dX11_init_139 : decode cX11_init 139 = .ok (.aload_n 0, 1) := by decide +kernel
theorem dX11_init_140 : decode cX11_init 140 = .ok (.iconst (-1), 1) := by decide +kernel
theorem dX11_init_141 : decode cX11_init 141 = .ok (.putfield 76, 3) := by decide +kernel
theorem dX11_init_144 : decode cX11_init 144 = .ok (.return_, 1) := by decide +kernel
theorem dX11_feed_0 : decode cX11_feed 0 = .ok (.aload_n 0, 1) := by decide +kernel
theorem dX11_feed_1 : decode cX11_feed 1 = .ok (.getfield 80, 3) := by decide +kernel
theorem dX11_feed_4 : decode cX11_feed 4 = .ok (.bipush 20, 2) := by decide +kernel
theorem dX11_feed_6 : decode cX11_feed 6 = .ok (.iadd, 1) := by decide +kernel
theorem dX11_feed_7 : decode cX11_feed 7 = .ok (.sipush 700, 3) := by decide +kernel
theorem dX11_feed_10 : decode cX11_feed 10 = .ok (.if_icmp .le 5, 3) := by decide +kernel
theorem dX11_feed_13 : decode cX11_feed 13 = .ok (.iconst (-1), 1) := by decide +kernel
theorem dX11_feed_14 : decode cX11_feed 14 = .ok (.ireturn, 1) := by decide +kernel
theorem dX11_feed_15 : decode cX11_feed 15 = .ok (.aload_n 0, 1) := by decide +kernel
theorem dX11_feed_16 : decode cX11_feed 16 = .ok (.iload_n 1, 1) := by decide +kernel
theorem dX11_feed_17 : decode cX11_feed 17 = .ok (.invokevirtual 83, 3) := by decide +kernel
theorem dX11_feed_20 : decode cX11_feed 20 = .ok (.aload_n 0, 1) := by decide +kernel
theorem dX11_feed_21 : decode cX11_feed 21 = .ok (.iload_n 2, 1) := by decide +kernel
theorem dX11_feed_22 : decode cX11_feed 22 = .ok (.invokevirtual 83, 3) := by decide +kernel
theorem dX11_feed_25 : decode cX11_feed 25 = .ok (.aload_n 0, 1) := by decide +kernel
theorem dX11_feed_26 : decode cX11_feed 26 = .ok (.iload_n 3, 1) := by decide +kernel
theorem dX11_feed_27 : decode cX11_feed 27 = .ok (.invokevirtual 83, 3) := by decide +kernel
theorem dX11_feed_30 : decode cX11_feed 30 = .ok (.aload_n 0, 1) := by decide +kernel
theorem dX11_feed_31 : decode cX11_feed 31 = .ok (.iload 4, 2) := by decide +kernel
theorem dX11_feed_33 : decode cX11_feed 33 = .ok (.invokevirtual 83, 3) := by decide +kernel
theorem dX11_feed_36 : decode cX11_feed 36 = .ok (.aload_n 0, 1) := by decide +kernel
theorem dX11_feed_37 : decode cX11_feed 37 = .ok (.iload 5, 2) := by decide +kernel
theorem dX11_feed_39 : decode cX11_feed 39 = .ok (.invokevirtual 83, 3) := by decide +kernel
theorem dX11_feed_42 : decode cX11_feed 42 = .ok (.aload_n 0, 1) := by decide +kernel
theorem dX11_feed_43 : decode cX11_feed 43 = .ok (.getfield 80, 3) := by decide +kernel
theorem dX11_feed_46 : decode cX11_feed 46 = .ok (.ireturn, 1) := by decide +kernel
theorem dX11_feedNumber_0 : decode cX11_feedNumber 0 = .ok (.bipush 24, 2) := by decide +kernel
theorem dX11_feedNumber_2 : decode cX11_feedNumber 2 = .ok (.istore_n 2, 1) := by decide +kernel
theorem dX11_feedNumber_3 : decode cX11_feedNumber 3 = .ok (.iload_n 2, 1) := by decide +kernel
theorem dX11_feedNumber_4 : decode cX11_feedNumber 4 = .ok (.ifCond .lt 45, 3) := by decide +kernel
theorem dX11_feedNumber_7 : decode cX11_feedNumber 7 = .ok (.aload_n 0, 1) := by decide +kernel
theorem dX11_feedNumber_8 : decode cX11_feedNumber 8 = .ok (.getfield 80, 3) := by decide +kernel
theorem dX11_feedNumber_11 : decode cX11_feedNumber 11 = .ok (.sipush 700, 3) := by decide +kernel
theorem dX11_feedNumber_14 : decode cX11_feedNumber 14 = .ok (.if_icmp .ge 35, 3) := by decide +kernel
theorem dX11_feedNumber_17 : decode cX11_feedNumber 17 = .ok (.aload_n 0, 1) := by decide +kernel
theorem dX11_feedNumber_18 : decode cX11_feedNumber 18 = .ok (.getfield 9, 3) := by decide +kernel
theorem dX11_feedNumber_21 : decode cX11_feedNumber 21 = .ok (.aload_n 0, 1) := by decide +kernel
theorem dX11_feedNumber_22 : decode cX11_feedNumber 22 = .ok (.getfield 80, 3) := by decide +kernel
theorem dX11_feedNumber_25 : decode cX11_feedNumber 25 = .ok (.iload_n 1, 1) := by decide +kernel
theorem dX11_feedNumber_26 : decode cX11_feedNumber 26 = .ok (.iload_n 2, 1) := by decide +kernel
theorem dX11_feedNumber_27 : decode cX11_feedNumber 27 = .ok (.iushr, 1) := by decide +kernel
theorem dX11_feedNumber_28 : decode cX11_feedNumber 28 = .ok (.sipush 255, 3) := by decide +kernel
theorem dX11_feedNumber_31 : decode cX11_feedNumber 31 = .ok (.iand, 1) := by decide +kernel
theorem dX11_feedNumber_32 : decode cX11_feedNumber 32 = .ok (.iastore, 1) := by decide +kernel
theorem dX11_feedNumber_33 : decode cX11_feedNumber 33 = .ok (.aload_n 0, 1) := by decide +kernel
theorem dX11_feedNumber_34 : decode cX11_feedNumber 34 = .ok (.dup, 1) := by decide +kernel
theorem dX11_feedNumber_35 : decode cX11_feedNumber 35 = .ok (.getfield 80, 3) := by decide +kernel
theorem dX11_feedNumber_38 : decode cX11_feedNumber 38 = .ok (.iconst 1, 1) := by decide +kernel
theorem dX11_feedNumber_39 : decode cX11_feedNumber 39 = .ok (.iadd, 1) := by decide +kernel
theorem dX11_feedNumber_40 : decode cX11_feedNumber 40 = .ok (.putfield 80, 3) := by decide +kernel
theorem dX11_feedNumber_43 : decode cX11_feedNumber 43 = .ok (.iinc 2 (-8), 3) := by decide +kernel
theorem dX11_feedNumber_46 : decode cX11_feedNumber 46 = .ok (.goto (-43), 3) := by decide +kernel
theorem dX11_feedNumber_49 : decode cX11_feedNumber 49 = .ok (.return_, 1) := by decide +kernel
theorem dX11_dale_0 : decode cX11_dale 0 = .ok (.iload_n 1, 1) := by decide +kernel
theorem dX11_dale_1 : decode cX11_dale 1 = .ok (.ifCond .lt 11, 3) := by decide +kernel
theorem dX11_dale_4 : decode cX11_dale 4 = .ok (.iload_n 1, 1) := by decide +kernel
theorem dX11_dale_5 : decode cX11_dale 5 = .ok (.aload_n 0, 1) := by decide +kernel
theorem dX11_dale_6 : decode cX11_dale 6 = .ok (.getfield 80, 3) := by decide +kernel
theorem dX11_dale_9 : decode cX11_dale 9 = .ok (.if_icmp .le 13, 3) := by decide +kernel
theorem dX11_dale_12 : decode cX11_dale 12 = .ok (.new 87, 3) := by decide +kernel
theorem dX11_dale_15 : decode cX11_dale 15 = .ok (.dup, 1) := by decide +kernel
theorem dX11_dale_16 : decode cX11_dale 16 = .ok (.ldc 89, 2) := by decide +kernel
theorem dX11_dale_18 : decode cX11_dale 18 = .ok (.invokespecial 91, 3) := by decide +kernel
theorem dX11_dale_21 : decode cX11_dale 21 = .ok (.athrow, 1) := by decide +kernel
theorem dX11_dale_22 : decode cX11_dale 22 = .ok (.aload_n 0, 1) := by decide +kernel
theorem dX11_dale_23 : decode cX11_dale 23 = .ok (.iconst 0, 1) := by decide +kernel
theorem dX11_dale_24 : decode cX11_dale 24 = .ok (.putfield 80, 3) := by decide +kernel
theorem dX11_dale_27 : decode cX11_dale 27 = .ok (.aload_n 0, 1) := by decide +kernel
theorem dX11_dale_28 : decode cX11_dale 28 = .ok (.getfield 42, 3) := by decide +kernel
theorem dX11_dale_31 : decode cX11_dale 31 = .ok (.aload_n 0, 1) := by decide +kernel
theorem dX11_dale_32 : decode cX11_dale 32 = .ok (.getfield 16, 3) := by decide +kernel
theorem dX11_dale_35 : decode cX11_dale 35 = .ok (.invokevirtual 94, 3) := by decide +kernel
theorem dX11_dale_38 : decode cX11_dale 38 = .ok (.aload_n 0, 1) := by decide +kernel
theorem dX11_dale_39 : decode cX11_dale 39 = .ok (.getfield 50, 3) := by decide +kernel
theorem dX11_dale_42 : decode cX11_dale 42 = .ok (.iload_n 1, 1) := by decide +kernel
theorem dX11_dale_43 : decode cX11_dale 43 = .ok (.invokevirtual 97, 3) := by decide +kernel
theorem dX11_dale_46 : decode cX11_dale 46 = .ok (.istore_n 2, 1) := by decide +kernel
theorem dX11_dale_47 : decode cX11_dale 47 = .ok (.iload_n 2, 1) := by decide +kernel
theorem dX11_dale_48 : decode cX11_dale 48 = .ok (.ifCond .eq 22, 3) := by decide +kernel
theorem dX11_dale_51 : decode cX11_dale 51 = .ok (.aload_n 0, 1) := by decide +kernel
theorem dX11_dale_52 : decode cX11_dale 52 = .ok (.aload_n 0, 1) := by decide +kernel
theorem dX11_dale_53 : decode cX11_dale 53 = .ok (.getfield 50, 3) := by decide +kernel
theorem dX11_dale_56 : decode cX11_dale 56 = .ok (.invokevirtual 101, 3) := by decide +kernel
theorem dX11_dale_59 : decode cX11_dale 59 = .ok (.putfield 76, 3) := by decide +kernel
theorem dX11_dale_62 : decode cX11_dale 62 = .ok (.aload_n 0, 1) := by decide +kernel
theorem dX11_dale_63 : decode cX11_dale 63 = .ok (.iconst 0, 1) := by decide +kernel
theorem dX11_dale_64 : decode cX11_dale 64 = .ok (.invokevirtual 105, 3) := by decide +kernel
theorem dX11_dale_67 : decode cX11_dale 67 = .ok (.pop, 1) := by decide +kernel
theorem dX11_dale_68 : decode cX11_dale 68 = .ok (.iload_n 2, 1) := by decide +kernel
theorem dX11_dale_69 : decode cX11_dale 69 = .ok (.ireturn, 1) := by decide +kernel
theorem dX11_dale_70 : decode cX11_dale 70 = .ok (.aload_n 0, 1) := by decide +kernel
theorem dX11_dale_71 : decode cX11_dale 71 = .ok (.aload_n 0, 1) := by decide +kernel
theorem dX11_dale_72 : decode cX11_dale 72 = .ok (.getfield 36, 3) := by decide +kernel
theorem dX11_dale_75 : decode cX11_dale 75 = .ok (.getfield 108, 3) := by decide +kernel
theorem dX11_dale_78 : decode cX11_dale 78 = .ok (.putfield 16, 3) := by decide +kernel
theorem dX11_dale_81 : decode cX11_dale 81 = .ok (.aload_n 0, 1) := by decide +kernel
theorem dX11_dale_82 : decode cX11_dale 82 = .ok (.getfield 36, 3) := by decide +kernel
theorem dX11_dale_85 : decode cX11_dale 85 = .ok (.aload_n 0, 1) := by decide +kernel
theorem dX11_dale_86 : decode cX11_dale 86 = .ok (.getfield 42, 3) := by decide +kernel
theorem dX11_dale_89 : decode cX11_dale 89 = .ok (.invokevirtual 111, 3) := by decide +kernel
theorem dX11_dale_92 : decode cX11_dale 92 = .ok (.aload_n 0, 1) := by decide +kernel
theorem dX11_dale_93 : decode cX11_dale 93 = .ok (.iconst (-1), 1) := by decide +kernel
theorem dX11_dale_94 : decode cX11_dale 94 = .ok (.putfield 76, 3) := by decide +kernel
theorem dX11_dale_97 : decode cX11_dale 97 = .ok (.aload_n 0, 1) := by decide +kernel
theorem dX11_dale_98 : decode cX11_dale 98 = .ok (.getfield 25, 3) := by decide +kernel
theorem dX11_dale_101 : decode cX11_dale 101 = .ok (.getfield 114, 3) := by decide +kernel
theorem dX11_dale_104 : decode cX11_dale 104 = .ok (.invokevirtual 118, 3) := by decide +kernel
theorem dX11_dale_107 : decode cX11_dale 107 = .ok (.aload_n 0, 1) := by decide +kernel
theorem dX11_dale_108 : decode cX11_dale 108 = .ok (.getfield 25, 3) := by decide +kernel
theorem dX11_dale_111 : decode cX11_dale 111 = .ok (.getfield 56, 3) := by decide +kernel
theorem dX11_dale_114 : decode cX11_dale 114 = .ok (.invokevirtual 123, 3) := by decide +kernel
theorem dX11_dale_117 : decode cX11_dale 117 = .ok (.aload_n 0, 1) := by decide +kernel
theorem dX11_dale_118 : decode cX11_dale 118 = .ok (.iconst 0, 1) := by decide +kernel
theorem dX11_dale_119 : decode cX11_dale 119 = .ok (.putfield 126, 3) := by decide +kernel
theorem dX11_dale_122 : decode cX11_dale 122 = .ok (.iconst 0, 1) := by decide +kernel
theorem dX11_dale_123 : decode cX11_dale 123 = .ok (.ireturn, 1) := by decide +kernel
theorem dX11_fault_0 : decode cX11_fault 0 = .ok (.aload_n 0, 1) := by decide +kernel
theorem dX11_fault_1 : decode cX11_fault 1 = .ok (.getfield 76, 3) := by decide +kernel
theorem dX11_fault_4 : decode cX11_fault 4 = .ok (.ireturn, 1) := by decide +kernel
theorem dX11_count_0 : decode cX11_count 0 = .ok (.aload_n 0, 1) := by decide +kernel
theorem dX11_count_1 : decode cX11_count 1 = .ok (.iload_n 1, 1) := by decide +kernel
theorem dX11_count_2 : decode cX11_count 2 = .ok (.bipush 12, 2) := by decide +kernel
theorem dX11_count_4 : decode cX11_count 4 = .ok (.invokevirtual 130, 3) := by decide +kernel
theorem dX11_count_7 : decode cX11_count 7 = .ok (.iload_n 1, 1) := by decide +kernel
theorem dX11_count_8 : decode cX11_count 8 = .ok (.tableswitch 145 0 9 #[56, 67, 78, 86, 94, 102, 110, 118, 129, 140], 56) := by decide +kernel
theorem dX11_count_64 : decode cX11_count 64 = .ok (.aload_n 0, 1) := by decide +kernel
theorem dX11_count_65 : decode cX11_count 65 = .ok (.getfield 36, 3) := by decide +kernel
theorem dX11_count_68 : decode cX11_count 68 = .ok (.getfield 108, 3) := by decide +kernel
theorem dX11_count_71 : decode cX11_count 71 = .ok (.getfield 134, 3) := by decide +kernel
theorem dX11_count_74 : decode cX11_count 74 = .ok (.ireturn, 1) := by decide +kernel
theorem dX11_count_75 : decode cX11_count 75 = .ok (.aload_n 0, 1) := by decide +kernel
theorem dX11_count_76 : decode cX11_count 76 = .ok (.getfield 36, 3) := by decide +kernel
theorem dX11_count_79 : decode cX11_count 79 = .ok (.getfield 108, 3) := by decide +kernel
theorem dX11_count_82 : decode cX11_count 82 = .ok (.getfield 137, 3) := by decide +kernel
theorem dX11_count_85 : decode cX11_count 85 = .ok (.ireturn, 1) := by decide +kernel
theorem dX11_count_86 : decode cX11_count 86 = .ok (.aload_n 0, 1) := by decide +kernel
theorem dX11_count_87 : decode cX11_count 87 = .ok (.getfield 36, 3) := by decide +kernel
theorem dX11_count_90 : decode cX11_count 90 = .ok (.invokevirtual 140, 3) := by decide +kernel
theorem dX11_count_93 : decode cX11_count 93 = .ok (.ireturn, 1) := by decide +kernel
theorem dX11_count_94 : decode cX11_count 94 = .ok (.aload_n 0, 1) := by decide +kernel
theorem dX11_count_95 : decode cX11_count 95 = .ok (.getfield 36, 3) := by decide +kernel
theorem dX11_count_98 : decode cX11_count 98 = .ok (.invokevirtual 143, 3) := by decide +kernel
theorem dX11_count_101 : decode cX11_count 101 = .ok (.ireturn, 1) := by decide +kernel
theorem dX11_count_102 : decode cX11_count 102 = .ok (.aload_n 0, 1) := by decide +kernel
theorem dX11_count_103 : decode cX11_count 103 = .ok (.getfield 36, 3) := by decide +kernel
theorem dX11_count_106 : decode cX11_count 106 = .ok (.invokevirtual 146, 3) := by decide +kernel
theorem dX11_count_109 : decode cX11_count 109 = .ok (.ireturn, 1) := by decide +kernel
theorem dX11_count_110 : decode cX11_count 110 = .ok (.aload_n 0, 1) := by decide +kernel
theorem dX11_count_111 : decode cX11_count 111 = .ok (.getfield 36, 3) := by decide +kernel
theorem dX11_count_114 : decode cX11_count 114 = .ok (.invokevirtual 149, 3) := by decide +kernel
theorem dX11_count_117 : decode cX11_count 117 = .ok (.ireturn, 1) := by decide +kernel
theorem dX11_count_118 : decode cX11_count 118 = .ok (.aload_n 0, 1) := by decide +kernel
theorem dX11_count_119 : decode cX11_count 119 = .ok (.getfield 36, 3) := by decide +kernel
theorem dX11_count_122 : decode cX11_count 122 = .ok (.invokevirtual 152, 3) := by decide +kernel
theorem dX11_count_125 : decode cX11_count 125 = .ok (.ireturn, 1) := by decide +kernel
theorem dX11_count_126 : decode cX11_count 126 = .ok (.aload_n 0, 1) := by decide +kernel
theorem dX11_count_127 : decode cX11_count 127 = .ok (.getfield 25, 3) := by decide +kernel
theorem dX11_count_130 : decode cX11_count 130 = .ok (.getfield 114, 3) := by decide +kernel
theorem dX11_count_133 : decode cX11_count 133 = .ok (.getfield 155, 3) := by decide +kernel
theorem dX11_count_136 : decode cX11_count 136 = .ok (.ireturn, 1) := by decide +kernel
theorem dX11_count_137 : decode cX11_count 137 = .ok (.aload_n 0, 1) := by decide +kernel
theorem dX11_count_138 : decode cX11_count 138 = .ok (.getfield 25, 3) := by decide +kernel
theorem dX11_count_141 : decode cX11_count 141 = .ok (.getfield 56, 3) := by decide +kernel
theorem dX11_count_144 : decode cX11_count 144 = .ok (.getfield 158, 3) := by decide +kernel
theorem dX11_count_147 : decode cX11_count 147 = .ok (.ireturn, 1) := by decide +kernel
theorem dX11_count_148 : decode cX11_count 148 = .ok (.aload_n 0, 1) := by decide +kernel
theorem dX11_count_149 : decode cX11_count 149 = .ok (.getfield 80, 3) := by decide +kernel
theorem dX11_count_152 : decode cX11_count 152 = .ok (.ireturn, 1) := by decide +kernel
theorem dX11_count_153 : decode cX11_count 153 = .ok (.aload_n 0, 1) := by decide +kernel
theorem dX11_count_154 : decode cX11_count 154 = .ok (.getfield 25, 3) := by decide +kernel
theorem dX11_count_157 : decode cX11_count 157 = .ok (.getfield 159, 3) := by decide +kernel
theorem dX11_count_160 : decode cX11_count 160 = .ok (.iload_n 1, 1) := by decide +kernel
theorem dX11_count_161 : decode cX11_count 161 = .ok (.bipush 10, 2) := by decide +kernel
theorem dX11_count_163 : decode cX11_count 163 = .ok (.isub, 1) := by decide +kernel
theorem dX11_count_164 : decode cX11_count 164 = .ok (.iaload, 1) := by decide +kernel
theorem dX11_count_165 : decode cX11_count 165 = .ok (.ireturn, 1) := by decide +kernel
theorem dX11_person_0 : decode cX11_person 0 = .ok (.aload_n 0, 1) := by decide +kernel
theorem dX11_person_1 : decode cX11_person 1 = .ok (.iload_n 1, 1) := by decide +kernel
theorem dX11_person_2 : decode cX11_person 2 = .ok (.invokevirtual 162, 3) := by decide +kernel
theorem dX11_person_5 : decode cX11_person 5 = .ok (.aload_n 0, 1) := by decide +kernel
theorem dX11_person_6 : decode cX11_person 6 = .ok (.iload_n 2, 1) := by decide +kernel
theorem dX11_person_7 : decode cX11_person 7 = .ok (.iconst 5, 1) := by decide +kernel
theorem dX11_person_8 : decode cX11_person 8 = .ok (.invokevirtual 130, 3) := by decide +kernel
theorem dX11_person_11 : decode cX11_person 11 = .ok (.iload_n 2, 1) := by decide +kernel
theorem dX11_person_12 : decode cX11_person 12 = .ok (.tableswitch 85 0 4 #[36, 49, 58, 67, 76], 36) := by decide +kernel
theorem dX11_person_48 : decode cX11_person 48 = .ok (.aload_n 0, 1) := by decide +kernel
theorem dX11_person_49 : decode cX11_person 49 = .ok (.getfield 36, 3) := by decide +kernel
theorem dX11_person_52 : decode cX11_person 52 = .ok (.getfield 108, 3) := by decide +kernel
theorem dX11_person_55 : decode cX11_person 55 = .ok (.getfield 165, 3) := by decide +kernel
theorem dX11_person_58 : decode cX11_person 58 = .ok (.iload_n 1, 1) := by decide +kernel
theorem dX11_person_59 : decode cX11_person 59 = .ok (.iaload, 1) := by decide +kernel
theorem dX11_person_60 : decode cX11_person 60 = .ok (.ireturn, 1) := by decide +kernel
theorem dX11_person_61 : decode cX11_person 61 = .ok (.aload_n 0, 1) := by decide +kernel
theorem dX11_person_62 : decode cX11_person 62 = .ok (.getfield 36, 3) := by decide +kernel
theorem dX11_person_65 : decode cX11_person 65 = .ok (.iload_n 1, 1) := by decide +kernel
theorem dX11_person_66 : decode cX11_person 66 = .ok (.invokevirtual 168, 3) := by decide +kernel
theorem dX11_person_69 : decode cX11_person 69 = .ok (.ireturn, 1) := by decide +kernel
theorem dX11_person_70 : decode cX11_person 70 = .ok (.aload_n 0, 1) := by decide +kernel
theorem dX11_person_71 : decode cX11_person 71 = .ok (.getfield 36, 3) := by decide +kernel
theorem dX11_person_74 : decode cX11_person 74 = .ok (.iload_n 1, 1) := by decide +kernel
theorem dX11_person_75 : decode cX11_person 75 = .ok (.invokevirtual 171, 3) := by decide +kernel
theorem dX11_person_78 : decode cX11_person 78 = .ok (.ireturn, 1) := by decide +kernel
theorem dX11_person_79 : decode cX11_person 79 = .ok (.aload_n 0, 1) := by decide +kernel
theorem dX11_person_80 : decode cX11_person 80 = .ok (.getfield 36, 3) := by decide +kernel
theorem dX11_person_83 : decode cX11_person 83 = .ok (.iload_n 1, 1) := by decide +kernel
theorem dX11_person_84 : decode cX11_person 84 = .ok (.invokevirtual 174, 3) := by decide +kernel
theorem dX11_person_87 : decode cX11_person 87 = .ok (.ireturn, 1) := by decide +kernel
theorem dX11_person_88 : decode cX11_person 88 = .ok (.aload_n 0, 1) := by decide +kernel
theorem dX11_person_89 : decode cX11_person 89 = .ok (.getfield 36, 3) := by decide +kernel
theorem dX11_person_92 : decode cX11_person 92 = .ok (.iload_n 1, 1) := by decide +kernel
theorem dX11_person_93 : decode cX11_person 93 = .ok (.invokevirtual 177, 3) := by decide +kernel
theorem dX11_person_96 : decode cX11_person 96 = .ok (.ireturn, 1) := by decide +kernel
theorem dX11_person_97 : decode cX11_person 97 = .ok (.aload_n 0, 1) := by decide +kernel
theorem dX11_person_98 : decode cX11_person 98 = .ok (.getfield 36, 3) := by decide +kernel
theorem dX11_person_101 : decode cX11_person 101 = .ok (.iload_n 1, 1) := by decide +kernel
theorem dX11_person_102 : decode cX11_person 102 = .ok (.invokevirtual 180, 3) := by decide +kernel
theorem dX11_person_105 : decode cX11_person 105 = .ok (.ireturn, 1) := by decide +kernel
theorem dX11_bride_0 : decode cX11_bride 0 = .ok (.aload_n 0, 1) := by decide +kernel
theorem dX11_bride_1 : decode cX11_bride 1 = .ok (.iload_n 1, 1) := by decide +kernel
theorem dX11_bride_2 : decode cX11_bride 2 = .ok (.invokevirtual 183, 3) := by decide +kernel
theorem dX11_bride_5 : decode cX11_bride 5 = .ok (.aload_n 0, 1) := by decide +kernel
theorem dX11_bride_6 : decode cX11_bride 6 = .ok (.iload_n 2, 1) := by decide +kernel
theorem dX11_bride_7 : decode cX11_bride 7 = .ok (.iconst 5, 1) := by decide +kernel
theorem dX11_bride_8 : decode cX11_bride 8 = .ok (.invokevirtual 130, 3) := by decide +kernel
theorem dX11_bride_11 : decode cX11_bride 11 = .ok (.iload_n 2, 1) := by decide +kernel
theorem dX11_bride_12 : decode cX11_bride 12 = .ok (.tableswitch 89 0 4 #[36, 45, 62, 71, 80], 36) := by decide +kernel
theorem dX11_bride_48 : decode cX11_bride 48 = .ok (.aload_n 0, 1) := by decide +kernel
theorem dX11_bride_49 : decode cX11_bride 49 = .ok (.getfield 36, 3) := by decide +kernel
theorem dX11_bride_52 : decode cX11_bride 52 = .ok (.iload_n 1, 1) := by decide +kernel
theorem dX11_bride_53 : decode cX11_bride 53 = .ok (.invokevirtual 186, 3) := by decide +kernel
theorem dX11_bride_56 : decode cX11_bride 56 = .ok (.ireturn, 1) := by decide +kernel
theorem dX11_bride_57 : decode cX11_bride 57 = .ok (.aload_n 0, 1) := by decide +kernel
theorem dX11_bride_58 : decode cX11_bride 58 = .ok (.getfield 36, 3) := by decide +kernel
theorem dX11_bride_61 : decode cX11_bride 61 = .ok (.iload_n 1, 1) := by decide +kernel
theorem dX11_bride_62 : decode cX11_bride 62 = .ok (.invokevirtual 189, 3) := by decide +kernel
theorem dX11_bride_65 : decode cX11_bride 65 = .ok (.ifCond .eq 7, 3) := by decide +kernel
theorem dX11_bride_68 : decode cX11_bride 68 = .ok (.iconst 1, 1) := by decide +kernel
theorem dX11_bride_69 : decode cX11_bride 69 = .ok (.goto 4, 3) := by decide +kernel
theorem dX11_bride_72 : decode cX11_bride 72 = .ok (.iconst 0, 1) := by decide +kernel
theorem dX11_bride_73 : decode cX11_bride 73 = .ok (.ireturn, 1) := by decide +kernel
theorem dX11_bride_74 : decode cX11_bride 74 = .ok (.aload_n 0, 1) := by decide +kernel
theorem dX11_bride_75 : decode cX11_bride 75 = .ok (.getfield 36, 3) := by decide +kernel
theorem dX11_bride_78 : decode cX11_bride 78 = .ok (.iload_n 1, 1) := by decide +kernel
theorem dX11_bride_79 : decode cX11_bride 79 = .ok (.invokevirtual 193, 3) := by decide +kernel
theorem dX11_bride_82 : decode cX11_bride 82 = .ok (.ireturn, 1) := by decide +kernel
theorem dX11_bride_83 : decode cX11_bride 83 = .ok (.aload_n 0, 1) := by decide +kernel
theorem dX11_bride_84 : decode cX11_bride 84 = .ok (.getfield 36, 3) := by decide +kernel
theorem dX11_bride_87 : decode cX11_bride 87 = .ok (.iload_n 1, 1) := by decide +kernel
theorem dX11_bride_88 : decode cX11_bride 88 = .ok (.invokevirtual 196, 3) := by decide +kernel
theorem dX11_bride_91 : decode cX11_bride 91 = .ok (.ireturn, 1) := by decide +kernel
theorem dX11_bride_92 : decode cX11_bride 92 = .ok (.aload_n 0, 1) := by decide +kernel
theorem dX11_bride_93 : decode cX11_bride 93 = .ok (.getfield 36, 3) := by decide +kernel
theorem dX11_bride_96 : decode cX11_bride 96 = .ok (.iload_n 1, 1) := by decide +kernel
theorem dX11_bride_97 : decode cX11_bride 97 = .ok (.invokevirtual 199, 3) := by decide +kernel
theorem dX11_bride_100 : decode cX11_bride 100 = .ok (.ireturn, 1) := by decide +kernel
theorem dX11_bride_101 : decode cX11_bride 101 = .ok (.aload_n 0, 1) := by decide +kernel
theorem dX11_bride_102 : decode cX11_bride 102 = .ok (.getfield 36, 3) := by decide +kernel
theorem dX11_bride_105 : decode cX11_bride 105 = .ok (.iload_n 1, 1) := by decide +kernel
theorem dX11_bride_106 : decode cX11_bride 106 = .ok (.invokevirtual 202, 3) := by decide +kernel
theorem dX11_bride_109 : decode cX11_bride 109 = .ok (.ireturn, 1) := by decide +kernel
theorem dX11_years_0 : decode cX11_years 0 = .ok (.aload_n 0, 1) := by decide +kernel
theorem dX11_years_1 : decode cX11_years 1 = .ok (.iload_n 1, 1) := by decide +kernel
theorem dX11_years_2 : decode cX11_years 2 = .ok (.invokevirtual 162, 3) := by decide +kernel
theorem dX11_years_5 : decode cX11_years 5 = .ok (.aload_n 0, 1) := by decide +kernel
theorem dX11_years_6 : decode cX11_years 6 = .ok (.iload_n 2, 1) := by decide +kernel
theorem dX11_years_7 : decode cX11_years 7 = .ok (.invokevirtual 183, 3) := by decide +kernel
theorem dX11_years_10 : decode cX11_years 10 = .ok (.aload_n 0, 1) := by decide +kernel
theorem dX11_years_11 : decode cX11_years 11 = .ok (.getfield 36, 3) := by decide +kernel
theorem dX11_years_14 : decode cX11_years 14 = .ok (.iload_n 1, 1) := by decide +kernel
theorem dX11_years_15 : decode cX11_years 15 = .ok (.iload_n 2, 1) := by decide +kernel
theorem dX11_years_16 : decode cX11_years 16 = .ok (.invokevirtual 205, 3) := by decide +kernel
theorem dX11_years_19 : decode cX11_years 19 = .ok (.ireturn, 1) := by decide +kernel
theorem dX11_weight_0 : decode cX11_weight 0 = .ok (.aload_n 0, 1) := by decide +kernel
theorem dX11_weight_1 : decode cX11_weight 1 = .ok (.iload_n 1, 1) := by decide +kernel
theorem dX11_weight_2 : decode cX11_weight 2 = .ok (.invokevirtual 162, 3) := by decide +kernel
theorem dX11_weight_5 : decode cX11_weight 5 = .ok (.aload_n 0, 1) := by decide +kernel
theorem dX11_weight_6 : decode cX11_weight 6 = .ok (.iload_n 2, 1) := by decide +kernel
theorem dX11_weight_7 : decode cX11_weight 7 = .ok (.invokevirtual 183, 3) := by decide +kernel
theorem dX11_weight_10 : decode cX11_weight 10 = .ok (.aload_n 0, 1) := by decide +kernel
theorem dX11_weight_11 : decode cX11_weight 11 = .ok (.getfield 36, 3) := by decide +kernel
theorem dX11_weight_14 : decode cX11_weight 14 = .ok (.iload_n 1, 1) := by decide +kernel
theorem dX11_weight_15 : decode cX11_weight 15 = .ok (.iload_n 2, 1) := by decide +kernel
theorem dX11_weight_16 : decode cX11_weight 16 = .ok (.invokevirtual 209, 3) := by decide +kernel
theorem dX11_weight_19 : decode cX11_weight 19 = .ok (.ireturn, 1) := by decide +kernel
theorem dX11_days_0 : decode cX11_days 0 = .ok (.iload_n 1, 1) := by decide +kernel
theorem dX11_days_1 : decode cX11_days 1 = .ok (.iconst 1, 1) := by decide +kernel
theorem dX11_days_2 : decode cX11_days 2 = .ok (.if_icmp .lt 24, 3) := by decide +kernel
theorem dX11_days_5 : decode cX11_days 5 = .ok (.iload_n 1, 1) := by decide +kernel
theorem dX11_days_6 : decode cX11_days 6 = .ok (.bipush 20, 2) := by decide +kernel
theorem dX11_days_8 : decode cX11_days 8 = .ok (.if_icmp .gt 18, 3) := by decide +kernel
theorem dX11_days_11 : decode cX11_days 11 = .ok (.aload_n 0, 1) := by decide +kernel
theorem dX11_days_12 : decode cX11_days 12 = .ok (.getfield 36, 3) := by decide +kernel
theorem dX11_days_15 : decode cX11_days 15 = .ok (.invokevirtual 143, 3) := by decide +kernel
theorem dX11_days_18 : decode cX11_days 18 = .ok (.iload_n 1, 1) := by decide +kernel
theorem dX11_days_19 : decode cX11_days 19 = .ok (.iadd, 1) := by decide +kernel
theorem dX11_days_20 : decode cX11_days 20 = .ok (.sipush 999, 3) := by decide +kernel
theorem dX11_days_23 : decode cX11_days 23 = .ok (.if_icmp .le 9, 3) := by decide +kernel
theorem dX11_days_26 : decode cX11_days 26 = .ok (.aload_n 0, 1) := by decide +kernel
theorem dX11_days_27 : decode cX11_days 27 = .ok (.iconst 1, 1) := by decide +kernel
theorem dX11_days_28 : decode cX11_days 28 = .ok (.invokevirtual 105, 3) := by decide +kernel
theorem dX11_days_31 : decode cX11_days 31 = .ok (.ireturn, 1) := by decide +kernel
theorem dX11_days_32 : decode cX11_days 32 = .ok (.aload_n 0, 1) := by decide +kernel
theorem dX11_days_33 : decode cX11_days 33 = .ok (.getfield 25, 3) := by decide +kernel
theorem dX11_days_36 : decode cX11_days 36 = .ok (.invokevirtual 212, 3) := by decide +kernel
theorem dX11_days_39 : decode cX11_days 39 = .ok (.iconst 0, 1) := by decide +kernel
theorem dX11_days_40 : decode cX11_days 40 = .ok (.istore_n 2, 1) := by decide +kernel
theorem dX11_days_41 : decode cX11_days 41 = .ok (.iload_n 2, 1) := by decide +kernel
theorem dX11_days_42 : decode cX11_days 42 = .ok (.iload_n 1, 1) := by decide +kernel
theorem dX11_days_43 : decode cX11_days 43 = .ok (.if_icmp .ge 16, 3) := by decide +kernel
theorem dX11_days_46 : decode cX11_days 46 = .ok (.aload_n 0, 1) := by decide +kernel
theorem dX11_days_47 : decode cX11_days 47 = .ok (.getfield 36, 3) := by decide +kernel
theorem dX11_days_50 : decode cX11_days 50 = .ok (.invokevirtual 215, 3) := by decide +kernel
theorem dX11_days_53 : decode cX11_days 53 = .ok (.iinc 2 1, 3) := by decide +kernel
theorem dX11_days_56 : decode cX11_days 56 = .ok (.goto (-15), 3) := by decide +kernel
theorem dX11_days_59 : decode cX11_days 59 = .ok (.aload_n 0, 1) := by decide +kernel
theorem dX11_days_60 : decode cX11_days 60 = .ok (.getfield 36, 3) := by decide +kernel
theorem dX11_days_63 : decode cX11_days 63 = .ok (.invokevirtual 143, 3) := by decide +kernel
theorem dX11_days_66 : decode cX11_days 66 = .ok (.ireturn, 1) := by decide +kernel
theorem dX11_train_0 : decode cX11_train 0 = .ok (.aload_n 0, 1) := by decide +kernel
theorem dX11_train_1 : decode cX11_train 1 = .ok (.iload_n 1, 1) := by decide +kernel
theorem dX11_train_2 : decode cX11_train 2 = .ok (.invokevirtual 162, 3) := by decide +kernel
theorem dX11_train_5 : decode cX11_train 5 = .ok (.iload_n 2, 1) := by decide +kernel
theorem dX11_train_6 : decode cX11_train 6 = .ok (.ifCond .lt 9, 3) := by decide +kernel
theorem dX11_train_9 : decode cX11_train 9 = .ok (.iload_n 2, 1) := by decide +kernel
theorem dX11_train_10 : decode cX11_train 10 = .ok (.bipush 9, 2) := by decide +kernel
theorem dX11_train_12 : decode cX11_train 12 = .ok (.if_icmp .le 9, 3) := by decide +kernel
theorem dX11_train_15 : decode cX11_train 15 = .ok (.aload_n 0, 1) := by decide +kernel
theorem dX11_train_16 : decode cX11_train 16 = .ok (.iconst 1, 1) := by decide +kernel
theorem dX11_train_17 : decode cX11_train 17 = .ok (.invokevirtual 105, 3) := by decide +kernel
theorem dX11_train_20 : decode cX11_train 20 = .ok (.ireturn, 1) := by decide +kernel
theorem dX11_train_21 : decode cX11_train 21 = .ok (.aload_n 0, 1) := by decide +kernel
theorem dX11_train_22 : decode cX11_train 22 = .ok (.getfield 25, 3) := by decide +kernel
theorem dX11_train_25 : decode cX11_train 25 = .ok (.invokevirtual 212, 3) := by decide +kernel
theorem dX11_train_28 : decode cX11_train 28 = .ok (.aload_n 0, 1) := by decide +kernel
theorem dX11_train_29 : decode cX11_train 29 = .ok (.getfield 36, 3) := by decide +kernel
theorem dX11_train_32 : decode cX11_train 32 = .ok (.iload_n 1, 1) := by decide +kernel
theorem dX11_train_33 : decode cX11_train 33 = .ok (.invokevirtual 171, 3) := by decide +kernel
theorem dX11_train_36 : decode cX11_train 36 = .ok (.istore_n 3, 1) := by decide +kernel
theorem dX11_train_37 : decode cX11_train 37 = .ok (.aload_n 0, 1) := by decide +kernel
theorem dX11_train_38 : decode cX11_train 38 = .ok (.getfield 36, 3) := by decide +kernel
theorem dX11_train_41 : decode cX11_train 41 = .ok (.iload_n 1, 1) := by decide +kernel
theorem dX11_train_42 : decode cX11_train 42 = .ok (.iload_n 2, 1) := by decide +kernel
theorem dX11_train_43 : decode cX11_train 43 = .ok (.invokevirtual 218, 3) := by decide +kernel
theorem dX11_train_46 : decode cX11_train 46 = .ok (.iload_n 3, 1) := by decide +kernel
theorem dX11_train_47 : decode cX11_train 47 = .ok (.ireturn, 1) := by decide +kernel
theorem dX11_onions_0 : decode cX11_onions 0 = .ok (.aload_n 0, 1) := by decide +kernel
theorem dX11_onions_1 : decode cX11_onions 1 = .ok (.iload_n 1, 1) := by decide +kernel
theorem dX11_onions_2 : decode cX11_onions 2 = .ok (.invokevirtual 162, 3) := by decide +kernel
theorem dX11_onions_5 : decode cX11_onions 5 = .ok (.iload_n 2, 1) := by decide +kernel
theorem dX11_onions_6 : decode cX11_onions 6 = .ok (.iconst 1, 1) := by decide +kernel
theorem dX11_onions_7 : decode cX11_onions 7 = .ok (.if_icmp .lt 9, 3) := by decide +kernel
theorem dX11_onions_10 : decode cX11_onions 10 = .ok (.iload_n 2, 1) := by decide +kernel
theorem dX11_onions_11 : decode cX11_onions 11 = .ok (.bipush 9, 2) := by decide +kernel
theorem dX11_onions_13 : decode cX11_onions 13 = .ok (.if_icmp .le 9, 3) := by decide +kernel
theorem dX11_onions_16 : decode cX11_onions 16 = .ok (.aload_n 0, 1) := by decide +kernel
theorem dX11_onions_17 : decode cX11_onions 17 = .ok (.iconst 1, 1) := by decide +kernel
theorem dX11_onions_18 : decode cX11_onions 18 = .ok (.invokevirtual 105, 3) := by decide +kernel
theorem dX11_onions_21 : decode cX11_onions 21 = .ok (.ireturn, 1) := by decide +kernel
theorem dX11_onions_22 : decode cX11_onions 22 = .ok (.aload_n 0, 1) := by decide +kernel
theorem dX11_onions_23 : decode cX11_onions 23 = .ok (.getfield 25, 3) := by decide +kernel
theorem dX11_onions_26 : decode cX11_onions 26 = .ok (.invokevirtual 212, 3) := by decide +kernel
theorem dX11_onions_29 : decode cX11_onions 29 = .ok (.aload_n 0, 1) := by decide +kernel
theorem dX11_onions_30 : decode cX11_onions 30 = .ok (.getfield 36, 3) := by decide +kernel
theorem dX11_onions_33 : decode cX11_onions 33 = .ok (.iload_n 1, 1) := by decide +kernel
theorem dX11_onions_34 : decode cX11_onions 34 = .ok (.bipush 9, 2) := by decide +kernel
theorem dX11_onions_36 : decode cX11_onions 36 = .ok (.aload_n 0, 1) := by decide +kernel
theorem dX11_onions_37 : decode cX11_onions 37 = .ok (.getfield 36, 3) := by decide +kernel
theorem dX11_onions_40 : decode cX11_onions 40 = .ok (.iload_n 1, 1) := by decide +kernel
theorem dX11_onions_41 : decode cX11_onions 41 = .ok (.invokevirtual 174, 3) := by decide +kernel
theorem dX11_onions_44 : decode cX11_onions 44 = .ok (.iload_n 2, 1) := by decide +kernel
theorem dX11_onions_45 : decode cX11_onions 45 = .ok (.iadd, 1) := by decide +kernel
theorem dX11_onions_46 : decode cX11_onions 46 = .ok (.invokestatic 221, 3) := by decide +kernel
theorem dX11_onions_49 : decode cX11_onions 49 = .ok (.invokevirtual 226, 3) := by decide +kernel
theorem dX11_onions_52 : decode cX11_onions 52 = .ok (.aload_n 0, 1) := by decide +kernel
theorem dX11_onions_53 : decode cX11_onions 53 = .ok (.getfield 36, 3) := by decide +kernel
theorem dX11_onions_56 : decode cX11_onions 56 = .ok (.iload_n 1, 1) := by decide +kernel
theorem dX11_onions_57 : decode cX11_onions 57 = .ok (.invokevirtual 174, 3) := by decide +kernel
theorem dX11_onions_60 : decode cX11_onions 60 = .ok (.ireturn, 1) := by decide +kernel
theorem dX11_putOff_0 : decode cX11_putOff 0 = .ok (.aload_n 0, 1) := by decide +kernel
theorem dX11_putOff_1 : decode cX11_putOff 1 = .ok (.iload_n 1, 1) := by decide +kernel
theorem dX11_putOff_2 : decode cX11_putOff 2 = .ok (.invokevirtual 183, 3) := by decide +kernel
theorem dX11_putOff_5 : decode cX11_putOff 5 = .ok (.aload_n 0, 1) := by decide +kernel
theorem dX11_putOff_6 : decode cX11_putOff 6 = .ok (.getfield 36, 3) := by decide +kernel
theorem dX11_putOff_9 : decode cX11_putOff 9 = .ok (.iload_n 1, 1) := by decide +kernel
theorem dX11_putOff_10 : decode cX11_putOff 10 = .ok (.invokevirtual 189, 3) := by decide +kernel
theorem dX11_putOff_13 : decode cX11_putOff 13 = .ok (.ifCond .eq 21, 3) := by decide +kernel
theorem dX11_putOff_16 : decode cX11_putOff 16 = .ok (.iload_n 2, 1) := by decide +kernel
theorem dX11_putOff_17 : decode cX11_putOff 17 = .ok (.aload_n 0, 1) := by decide +kernel
theorem dX11_putOff_18 : decode cX11_putOff 18 = .ok (.getfield 36, 3) := by decide +kernel
theorem dX11_putOff_21 : decode cX11_putOff 21 = .ok (.invokevirtual 143, 3) := by decide +kernel
theorem dX11_putOff_24 : decode cX11_putOff 24 = .ok (.if_icmp .lt 10, 3) := by decide +kernel
theorem dX11_putOff_27 : decode cX11_putOff 27 = .ok (.iload_n 2, 1) := by decide +kernel
theorem dX11_putOff_28 : decode cX11_putOff 28 = .ok (.sipush 999, 3) := by decide +kernel
theorem dX11_putOff_31 : decode cX11_putOff 31 = .ok (.if_icmp .le 9, 3) := by decide +kernel
theorem dX11_putOff_34 : decode cX11_putOff 34 = .ok (.aload_n 0, 1) := by decide +kernel
theorem dX11_putOff_35 : decode cX11_putOff 35 = .ok (.iconst 1, 1) := by decide +kernel
theorem dX11_putOff_36 : decode cX11_putOff 36 = .ok (.invokevirtual 105, 3) := by decide +kernel
theorem dX11_putOff_39 : decode cX11_putOff 39 = .ok (.ireturn, 1) := by decide +kernel
theorem dX11_putOff_40 : decode cX11_putOff 40 = .ok (.aload_n 0, 1) := by decide +kernel
theorem dX11_putOff_41 : decode cX11_putOff 41 = .ok (.getfield 25, 3) := by decide +kernel
theorem dX11_putOff_44 : decode cX11_putOff 44 = .ok (.invokevirtual 212, 3) := by decide +kernel
theorem dX11_putOff_47 : decode cX11_putOff 47 = .ok (.aload_n 0, 1) := by decide +kernel
theorem dX11_putOff_48 : decode cX11_putOff 48 = .ok (.getfield 36, 3) := by decide +kernel
theorem dX11_putOff_51 : decode cX11_putOff 51 = .ok (.iload_n 1, 1) := by decide +kernel
theorem dX11_putOff_52 : decode cX11_putOff 52 = .ok (.invokevirtual 186, 3) := by decide +kernel
theorem dX11_putOff_55 : decode cX11_putOff 55 = .ok (.istore_n 3, 1) := by decide +kernel
theorem dX11_putOff_56 : decode cX11_putOff 56 = .ok (.aload_n 0, 1) := by decide +kernel
theorem dX11_putOff_57 : decode cX11_putOff 57 = .ok (.getfield 36, 3) := by decide +kernel
theorem dX11_putOff_60 : decode cX11_putOff 60 = .ok (.iload_n 1, 1) := by decide +kernel
theorem dX11_putOff_61 : decode cX11_putOff 61 = .ok (.iload_n 2, 1) := by decide +kernel
theorem dX11_putOff_62 : decode cX11_putOff 62 = .ok (.invokevirtual 229, 3) := by decide +kernel
theorem dX11_putOff_65 : decode cX11_putOff 65 = .ok (.iload_n 3, 1) := by decide +kernel
theorem dX11_putOff_66 : decode cX11_putOff 66 = .ok (.ireturn, 1) := by decide +kernel
theorem dX11_tie_0 : decode cX11_tie 0 = .ok (.aload_n 0, 1) := by decide +kernel
theorem dX11_tie_1 : decode cX11_tie 1 = .ok (.iload_n 1, 1) := by decide +kernel
theorem dX11_tie_2 : decode cX11_tie 2 = .ok (.invokevirtual 162, 3) := by decide +kernel
theorem dX11_tie_5 : decode cX11_tie 5 = .ok (.aload_n 0, 1) := by decide +kernel
theorem dX11_tie_6 : decode cX11_tie 6 = .ok (.iload_n 2, 1) := by decide +kernel
theorem dX11_tie_7 : decode cX11_tie 7 = .ok (.invokevirtual 183, 3) := by decide +kernel
theorem dX11_tie_10 : decode cX11_tie 10 = .ok (.iload_n 3, 1) := by decide +kernel
theorem dX11_tie_11 : decode cX11_tie 11 = .ok (.iconst 1, 1) := by decide +kernel
theorem dX11_tie_12 : decode cX11_tie 12 = .ok (.if_icmp .lt 9, 3) := by decide +kernel
theorem dX11_tie_15 : decode cX11_tie 15 = .ok (.iload_n 3, 1) := by decide +kernel
theorem dX11_tie_16 : decode cX11_tie 16 = .ok (.bipush 40, 2) := by decide +kernel
theorem dX11_tie_18 : decode cX11_tie 18 = .ok (.if_icmp .le 9, 3) := by decide +kernel
theorem dX11_tie_21 : decode cX11_tie 21 = .ok (.aload_n 0, 1) := by decide +kernel
theorem dX11_tie_22 : decode cX11_tie 22 = .ok (.iconst 1, 1) := by decide +kernel
theorem dX11_tie_23 : decode cX11_tie 23 = .ok (.invokevirtual 105, 3) := by decide +kernel
theorem dX11_tie_26 : decode cX11_tie 26 = .ok (.ireturn, 1) := by decide +kernel
theorem dX11_tie_27 : decode cX11_tie 27 = .ok (.aload_n 0, 1) := by decide +kernel
theorem dX11_tie_28 : decode cX11_tie 28 = .ok (.getfield 25, 3) := by decide +kernel
theorem dX11_tie_31 : decode cX11_tie 31 = .ok (.invokevirtual 212, 3) := by decide +kernel
theorem dX11_tie_34 : decode cX11_tie 34 = .ok (.aload_n 0, 1) := by decide +kernel
theorem dX11_tie_35 : decode cX11_tie 35 = .ok (.getfield 36, 3) := by decide +kernel
theorem dX11_tie_38 : decode cX11_tie 38 = .ok (.iload_n 1, 1) := by decide +kernel
theorem dX11_tie_39 : decode cX11_tie 39 = .ok (.iload_n 2, 1) := by decide +kernel
theorem dX11_tie_40 : decode cX11_tie 40 = .ok (.invokevirtual 205, 3) := by decide +kernel
theorem dX11_tie_43 : decode cX11_tie 43 = .ok (.istore 4, 2) := by decide +kernel
theorem dX11_tie_45 : decode cX11_tie 45 = .ok (.aload_n 0, 1) := by decide +kernel
theorem dX11_tie_46 : decode cX11_tie 46 = .ok (.getfield 36, 3) := by decide +kernel
theorem dX11_tie_49 : decode cX11_tie 49 = .ok (.iload_n 1, 1) := by decide +kernel
theorem dX11_tie_50 : decode cX11_tie 50 = .ok (.iload_n 2, 1) := by decide +kernel
theorem dX11_tie_51 : decode cX11_tie 51 = .ok (.iload_n 3, 1) := by decide +kernel
theorem dX11_tie_52 : decode cX11_tie 52 = .ok (.invokevirtual 232, 3) := by decide +kernel
theorem dX11_tie_55 : decode cX11_tie 55 = .ok (.iload 4, 2) := by decide +kernel
theorem dX11_tie_57 : decode cX11_tie 57 = .ok (.ireturn, 1) := by decide +kernel
theorem dX11_undo_0 : decode cX11_undo 0 = .ok (.aload_n 0, 1) := by decide +kernel
theorem dX11_undo_1 : decode cX11_undo 1 = .ok (.getfield 25, 3) := by decide +kernel
theorem dX11_undo_4 : decode cX11_undo 4 = .ok (.invokevirtual 236, 3) := by decide +kernel
theorem dX11_undo_7 : decode cX11_undo 7 = .ok (.ireturn, 1) := by decide +kernel
theorem dX11_leader_0 : decode cX11_leader 0 = .ok (.aload_n 0, 1) := by decide +kernel
theorem dX11_leader_1 : decode cX11_leader 1 = .ok (.iload_n 1, 1) := by decide +kernel
theorem dX11_leader_2 : decode cX11_leader 2 = .ok (.invokevirtual 183, 3) := by decide +kernel
theorem dX11_leader_5 : decode cX11_leader 5 = .ok (.aload_n 0, 1) := by decide +kernel
theorem dX11_leader_6 : decode cX11_leader 6 = .ok (.getfield 63, 3) := by decide +kernel
theorem dX11_leader_9 : decode cX11_leader 9 = .ok (.iload_n 1, 1) := by decide +kernel
theorem dX11_leader_10 : decode cX11_leader 10 = .ok (.invokevirtual 239, 3) := by decide +kernel
theorem dX11_leader_13 : decode cX11_leader 13 = .ok (.ireturn, 1) := by decide +kernel
theorem dX11_then_0 : decode cX11_then 0 = .ok (.aload_n 0, 1) := by decide +kernel
theorem dX11_then_1 : decode cX11_then 1 = .ok (.iload_n 1, 1) := by decide +kernel
theorem dX11_then_2 : decode cX11_then 2 = .ok (.invokevirtual 162, 3) := by decide +kernel
theorem dX11_then_5 : decode cX11_then 5 = .ok (.aload_n 0, 1) := by decide +kernel
theorem dX11_then_6 : decode cX11_then 6 = .ok (.iload_n 2, 1) := by decide +kernel
theorem dX11_then_7 : decode cX11_then 7 = .ok (.invokevirtual 242, 3) := by decide +kernel
theorem dX11_then_10 : decode cX11_then 10 = .ok (.aload_n 0, 1) := by decide +kernel
theorem dX11_then_11 : decode cX11_then 11 = .ok (.getfield 63, 3) := by decide +kernel
theorem dX11_then_14 : decode cX11_then 14 = .ok (.iload_n 2, 1) := by decide +kernel
theorem dX11_then_15 : decode cX11_then 15 = .ok (.invokevirtual 245, 3) := by decide +kernel
theorem dX11_then_18 : decode cX11_then 18 = .ok (.aload_n 0, 1) := by decide +kernel
theorem dX11_then_19 : decode cX11_then 19 = .ok (.getfield 42, 3) := by decide +kernel
theorem dX11_then_22 : decode cX11_then 22 = .ok (.iload_n 1, 1) := by decide +kernel
theorem dX11_then_23 : decode cX11_then 23 = .ok (.invokevirtual 168, 3) := by decide +kernel
theorem dX11_then_26 : decode cX11_then 26 = .ok (.ireturn, 1) := by decide +kernel
theorem dX11_led_0 : decode cX11_led 0 = .ok (.aload_n 0, 1) := by decide +kernel
theorem dX11_led_1 : decode cX11_led 1 = .ok (.iload_n 1, 1) := by decide +kernel
theorem dX11_led_2 : decode cX11_led 2 = .ok (.invokevirtual 162, 3) := by decide +kernel
theorem dX11_led_5 : decode cX11_led 5 = .ok (.aload_n 0, 1) := by decide +kernel
theorem dX11_led_6 : decode cX11_led 6 = .ok (.iload_n 2, 1) := by decide +kernel
theorem dX11_led_7 : decode cX11_led 7 = .ok (.invokevirtual 242, 3) := by decide +kernel
theorem dX11_led_10 : decode cX11_led 10 = .ok (.aload_n 0, 1) := by decide +kernel
theorem dX11_led_11 : decode cX11_led 11 = .ok (.getfield 63, 3) := by decide +kernel
theorem dX11_led_14 : decode cX11_led 14 = .ok (.iload_n 2, 1) := by decide +kernel
theorem dX11_led_15 : decode cX11_led 15 = .ok (.invokevirtual 245, 3) := by decide +kernel
theorem dX11_led_18 : decode cX11_led 18 = .ok (.aload_n 0, 1) := by decide +kernel
theorem dX11_led_19 : decode cX11_led 19 = .ok (.getfield 63, 3) := by decide +kernel
theorem dX11_led_22 : decode cX11_led 22 = .ok (.iload_n 1, 1) := by decide +kernel
theorem dX11_led_23 : decode cX11_led 23 = .ok (.invokevirtual 248, 3) := by decide +kernel
theorem dX11_led_26 : decode cX11_led 26 = .ok (.ireturn, 1) := by decide +kernel
theorem dX11_dog_0 : decode cX11_dog 0 = .ok (.aload_n 0, 1) := by decide +kernel
theorem dX11_dog_1 : decode cX11_dog 1 = .ok (.getfield 63, 3) := by decide +kernel
theorem dX11_dog_4 : decode cX11_dog 4 = .ok (.bipush 60, 2) := by decide +kernel
theorem dX11_dog_6 : decode cX11_dog 6 = .ok (.invokevirtual 245, 3) := by decide +kernel
theorem dX11_dog_9 : decode cX11_dog 9 = .ok (.aload_n 0, 1) := by decide +kernel
theorem dX11_dog_10 : decode cX11_dog 10 = .ok (.getfield 42, 3) := by decide +kernel
theorem dX11_dog_13 : decode cX11_dog 13 = .ok (.invokevirtual 149, 3) := by decide +kernel
theorem dX11_dog_16 : decode cX11_dog 16 = .ok (.aload_n 0, 1) := by decide +kernel
theorem dX11_dog_17 : decode cX11_dog 17 = .ok (.getfield 36, 3) := by decide +kernel
theorem dX11_dog_20 : decode cX11_dog 20 = .ok (.invokevirtual 149, 3) := by decide +kernel
theorem dX11_dog_23 : decode cX11_dog 23 = .ok (.isub, 1) := by decide +kernel
theorem dX11_dog_24 : decode cX11_dog 24 = .ok (.ireturn, 1) := by decide +kernel
theorem dX11_rank_0 : decode cX11_rank 0 = .ok (.aload_n 0, 1) := by decide +kernel
theorem dX11_rank_1 : decode cX11_rank 1 = .ok (.iload_n 1, 1) := by decide +kernel
theorem dX11_rank_2 : decode cX11_rank 2 = .ok (.invokevirtual 162, 3) := by decide +kernel
theorem dX11_rank_5 : decode cX11_rank 5 = .ok (.aload_n 0, 1) := by decide +kernel
theorem dX11_rank_6 : decode cX11_rank 6 = .ok (.iload_n 2, 1) := by decide +kernel
theorem dX11_rank_7 : decode cX11_rank 7 = .ok (.invokevirtual 183, 3) := by decide +kernel
theorem dX11_rank_10 : decode cX11_rank 10 = .ok (.aload_n 0, 1) := by decide +kernel
theorem dX11_rank_11 : decode cX11_rank 11 = .ok (.getfield 72, 3) := by decide +kernel
theorem dX11_rank_14 : decode cX11_rank 14 = .ok (.iload_n 1, 1) := by decide +kernel
theorem dX11_rank_15 : decode cX11_rank 15 = .ok (.iload_n 2, 1) := by decide +kernel
theorem dX11_rank_16 : decode cX11_rank 16 = .ok (.invokevirtual 251, 3) := by decide +kernel
theorem dX11_rank_19 : decode cX11_rank 19 = .ok (.ireturn, 1) := by decide +kernel
theorem dX11_toTrain_0 : decode cX11_toTrain 0 = .ok (.aload_n 0, 1) := by decide +kernel
theorem dX11_toTrain_1 : decode cX11_toTrain 1 = .ok (.iload_n 1, 1) := by decide +kernel
theorem dX11_toTrain_2 : decode cX11_toTrain 2 = .ok (.invokevirtual 162, 3) := by decide +kernel
theorem dX11_toTrain_5 : decode cX11_toTrain 5 = .ok (.aload_n 0, 1) := by decide +kernel
theorem dX11_toTrain_6 : decode cX11_toTrain 6 = .ok (.iload_n 2, 1) := by decide +kernel
theorem dX11_toTrain_7 : decode cX11_toTrain 7 = .ok (.invokevirtual 183, 3) := by decide +kernel
theorem dX11_toTrain_10 : decode cX11_toTrain 10 = .ok (.aload_n 0, 1) := by decide +kernel
theorem dX11_toTrain_11 : decode cX11_toTrain 11 = .ok (.getfield 63, 3) := by decide +kernel
theorem dX11_toTrain_14 : decode cX11_toTrain 14 = .ok (.iload_n 1, 1) := by decide +kernel
theorem dX11_toTrain_15 : decode cX11_toTrain 15 = .ok (.iload_n 2, 1) := by decide +kernel
theorem dX11_toTrain_16 : decode cX11_toTrain 16 = .ok (.invokevirtual 254, 3) := by decide +kernel
theorem dX11_toTrain_19 : decode cX11_toTrain 19 = .ok (.ireturn, 1) := by decide +kernel
theorem dX11_instead_0 : decode cX11_instead 0 = .ok (.aload_n 0, 1) := by decide +kernel
theorem dX11_instead_1 : decode cX11_instead 1 = .ok (.iload_n 1, 1) := by decide +kernel
theorem dX11_instead_2 : decode cX11_instead 2 = .ok (.invokevirtual 162, 3) := by decide +kernel
theorem dX11_instead_5 : decode cX11_instead 5 = .ok (.aload_n 0, 1) := by decide +kernel
theorem dX11_instead_6 : decode cX11_instead 6 = .ok (.getfield 63, 3) := by decide +kernel
theorem dX11_instead_9 : decode cX11_instead 9 = .ok (.iload_n 1, 1) := by decide +kernel
theorem dX11_instead_10 : decode cX11_instead 10 = .ok (.invokevirtual 257, 3) := by decide +kernel
theorem dX11_instead_13 : decode cX11_instead 13 = .ok (.ireturn, 1) := by decide +kernel
theorem dX11_bestDay_0 : decode cX11_bestDay 0 = .ok (.aload_n 0, 1) := by decide +kernel
theorem dX11_bestDay_1 : decode cX11_bestDay 1 = .ok (.iload_n 1, 1) := by decide +kernel
theorem dX11_bestDay_2 : decode cX11_bestDay 2 = .ok (.invokevirtual 183, 3) := by decide +kernel
theorem dX11_bestDay_5 : decode cX11_bestDay 5 = .ok (.aload_n 0, 1) := by decide +kernel
theorem dX11_bestDay_6 : decode cX11_bestDay 6 = .ok (.iload_n 2, 1) := by decide +kernel
theorem dX11_bestDay_7 : decode cX11_bestDay 7 = .ok (.iconst 1, 1) := by decide +kernel
theorem dX11_bestDay_8 : decode cX11_bestDay 8 = .ok (.invokevirtual 130, 3) := by decide +kernel
theorem dX11_bestDay_11 : decode cX11_bestDay 11 = .ok (.aload_n 0, 1) := by decide +kernel
theorem dX11_bestDay_12 : decode cX11_bestDay 12 = .ok (.getfield 63, 3) := by decide +kernel
theorem dX11_bestDay_15 : decode cX11_bestDay 15 = .ok (.iload_n 1, 1) := by decide +kernel
theorem dX11_bestDay_16 : decode cX11_bestDay 16 = .ok (.iload_n 2, 1) := by decide +kernel
theorem dX11_bestDay_17 : decode cX11_bestDay 17 = .ok (.iconst 1, 1) := by decide +kernel
theorem dX11_bestDay_18 : decode cX11_bestDay 18 = .ok (.if_icmp .ne 7, 3) := by decide +kernel
theorem dX11_bestDay_21 : decode cX11_bestDay 21 = .ok (.iconst 1, 1) := by decide +kernel
theorem dX11_bestDay_22 : decode cX11_bestDay 22 = .ok (.goto 4, 3) := by decide +kernel
theorem dX11_bestDay_25 : decode cX11_bestDay 25 = .ok (.iconst 0, 1) := by decide +kernel
theorem dX11_bestDay_26 : decode cX11_bestDay 26 = .ok (.invokevirtual 260, 3) := by decide +kernel
theorem dX11_bestDay_29 : decode cX11_bestDay 29 = .ok (.ireturn, 1) := by decide +kernel
theorem dX11_choice_0 : decode cX11_choice 0 = .ok (.iload_n 1, 1) := by decide +kernel
theorem dX11_choice_1 : decode cX11_choice 1 = .ok (.iconst (-1), 1) := by decide +kernel
theorem dX11_choice_2 : decode cX11_choice 2 = .ok (.if_icmp .ne 11, 3) := by decide +kernel
theorem dX11_choice_5 : decode cX11_choice 5 = .ok (.aload_n 0, 1) := by decide +kernel
theorem dX11_choice_6 : decode cX11_choice 6 = .ok (.getfield 72, 3) := by decide +kernel
theorem dX11_choice_9 : decode cX11_choice 9 = .ok (.invokevirtual 264, 3) := by decide +kernel
theorem dX11_choice_12 : decode cX11_choice 12 = .ok (.ireturn, 1) := by decide +kernel
theorem dX11_choice_13 : decode cX11_choice 13 = .ok (.aload_n 0, 1) := by decide +kernel
theorem dX11_choice_14 : decode cX11_choice 14 = .ok (.iload_n 1, 1) := by decide +kernel
theorem dX11_choice_15 : decode cX11_choice 15 = .ok (.invokevirtual 183, 3) := by decide +kernel
theorem dX11_choice_18 : decode cX11_choice 18 = .ok (.aload_n 0, 1) := by decide +kernel
theorem dX11_choice_19 : decode cX11_choice 19 = .ok (.getfield 72, 3) := by decide +kernel
theorem dX11_choice_22 : decode cX11_choice 22 = .ok (.iload_n 1, 1) := by decide +kernel
theorem dX11_choice_23 : decode cX11_choice 23 = .ok (.invokevirtual 267, 3) := by decide +kernel
theorem dX11_choice_26 : decode cX11_choice 26 = .ok (.ireturn, 1) := by decide +kernel
theorem dX11_unloved_0 : decode cX11_unloved 0 = .ok (.iconst 0, 1) := by decide +kernel
theorem dX11_unloved_1 : decode cX11_unloved 1 = .ok (.istore_n 1, 1) := by decide +kernel
theorem dX11_unloved_2 : decode cX11_unloved 2 = .ok (.iconst 0, 1) := by decide +kernel
theorem dX11_unloved_3 : decode cX11_unloved 3 = .ok (.istore_n 2, 1) := by decide +kernel
theorem dX11_unloved_4 : decode cX11_unloved 4 = .ok (.iload_n 2, 1) := by decide +kernel
theorem dX11_unloved_5 : decode cX11_unloved 5 = .ok (.aload_n 0, 1) := by decide +kernel
theorem dX11_unloved_6 : decode cX11_unloved 6 = .ok (.getfield 36, 3) := by decide +kernel
theorem dX11_unloved_9 : decode cX11_unloved 9 = .ok (.getfield 108, 3) := by decide +kernel
theorem dX11_unloved_12 : decode cX11_unloved 12 = .ok (.getfield 137, 3) := by decide +kernel
theorem dX11_unloved_15 : decode cX11_unloved 15 = .ok (.if_icmp .ge 37, 3) := by decide +kernel
theorem dX11_unloved_18 : decode cX11_unloved 18 = .ok (.aload_n 0, 1) := by decide +kernel
theorem dX11_unloved_19 : decode cX11_unloved 19 = .ok (.getfield 36, 3) := by decide +kernel
theorem dX11_unloved_22 : decode cX11_unloved 22 = .ok (.iload_n 2, 1) := by decide +kernel
theorem dX11_unloved_23 : decode cX11_unloved 23 = .ok (.invokevirtual 189, 3) := by decide +kernel
theorem dX11_unloved_26 : decode cX11_unloved 26 = .ok (.ifCond .eq 20, 3) := by decide +kernel
theorem dX11_unloved_29 : decode cX11_unloved 29 = .ok (.aload_n 0, 1) := by decide +kernel
theorem dX11_unloved_30 : decode cX11_unloved 30 = .ok (.getfield 36, 3) := by decide +kernel
theorem dX11_unloved_33 : decode cX11_unloved 33 = .ok (.iload_n 2, 1) := by decide +kernel
theorem dX11_unloved_34 : decode cX11_unloved 34 = .ok (.invokevirtual 196, 3) := by decide +kernel
theorem dX11_unloved_37 : decode cX11_unloved 37 = .ok (.ifCond .ne 9, 3) := by decide +kernel
theorem dX11_unloved_40 : decode cX11_unloved 40 = .ok (.iload_n 1, 1) := by decide +kernel
theorem dX11_unloved_41 : decode cX11_unloved 41 = .ok (.iconst 1, 1) := by decide +kernel
theorem dX11_unloved_42 : decode cX11_unloved 42 = .ok (.iload_n 2, 1) := by decide +kernel
theorem dX11_unloved_43 : decode cX11_unloved 43 = .ok (.ishl, 1) := by decide +kernel
theorem dX11_unloved_44 : decode cX11_unloved 44 = .ok (.ior, 1) := by decide +kernel
theorem dX11_unloved_45 : decode cX11_unloved 45 = .ok (.istore_n 1, 1) := by decide +kernel
theorem dX11_unloved_46 : decode cX11_unloved 46 = .ok (.iinc 2 1, 3) := by decide +kernel
theorem dX11_unloved_49 : decode cX11_unloved 49 = .ok (.goto (-45), 3) := by decide +kernel
theorem dX11_unloved_52 : decode cX11_unloved 52 = .ok (.iload_n 1, 1) := by decide +kernel
theorem dX11_unloved_53 : decode cX11_unloved 53 = .ok (.ireturn, 1) := by decide +kernel
theorem dX11_tug_0 : decode cX11_tug 0 = .ok (.aload_n 0, 1) := by decide +kernel
theorem dX11_tug_1 : decode cX11_tug 1 = .ok (.iload_n 1, 1) := by decide +kernel
theorem dX11_tug_2 : decode cX11_tug 2 = .ok (.invokevirtual 183, 3) := by decide +kernel
theorem dX11_tug_5 : decode cX11_tug 5 = .ok (.aload_n 0, 1) := by decide +kernel
theorem dX11_tug_6 : decode cX11_tug 6 = .ok (.getfield 72, 3) := by decide +kernel
theorem dX11_tug_9 : decode cX11_tug 9 = .ok (.iload_n 1, 1) := by decide +kernel
theorem dX11_tug_10 : decode cX11_tug 10 = .ok (.invokevirtual 270, 3) := by decide +kernel
theorem dX11_tug_13 : decode cX11_tug 13 = .ok (.ireturn, 1) := by decide +kernel
theorem dX11_decisive_0 : decode cX11_decisive 0 = .ok (.aload_n 0, 1) := by decide +kernel
theorem dX11_decisive_1 : decode cX11_decisive 1 = .ok (.iload_n 1, 1) := by decide +kernel
theorem dX11_decisive_2 : decode cX11_decisive 2 = .ok (.invokevirtual 162, 3) := by decide +kernel
theorem dX11_decisive_5 : decode cX11_decisive 5 = .ok (.aload_n 0, 1) := by decide +kernel
theorem dX11_decisive_6 : decode cX11_decisive 6 = .ok (.iload_n 2, 1) := by decide +kernel
theorem dX11_decisive_7 : decode cX11_decisive 7 = .ok (.invokevirtual 183, 3) := by decide +kernel
theorem dX11_decisive_10 : decode cX11_decisive 10 = .ok (.aload_n 0, 1) := by decide +kernel
theorem dX11_decisive_11 : decode cX11_decisive 11 = .ok (.getfield 72, 3) := by decide +kernel
theorem dX11_decisive_14 : decode cX11_decisive 14 = .ok (.iload_n 1, 1) := by decide +kernel
theorem dX11_decisive_15 : decode cX11_decisive 15 = .ok (.iload_n 2, 1) := by decide +kernel
theorem dX11_decisive_16 : decode cX11_decisive 16 = .ok (.invokevirtual 273, 3) := by decide +kernel
theorem dX11_decisive_19 : decode cX11_decisive 19 = .ok (.ireturn, 1) := by decide +kernel
theorem dX11_steps_0 : decode cX11_steps 0 = .ok (.aload_n 0, 1) := by decide +kernel
theorem dX11_steps_1 : decode cX11_steps 1 = .ok (.iload_n 1, 1) := by decide +kernel
theorem dX11_steps_2 : decode cX11_steps 2 = .ok (.invokevirtual 162, 3) := by decide +kernel
theorem dX11_steps_5 : decode cX11_steps 5 = .ok (.aload_n 0, 1) := by decide +kernel
theorem dX11_steps_6 : decode cX11_steps 6 = .ok (.iload_n 2, 1) := by decide +kernel
theorem dX11_steps_7 : decode cX11_steps 7 = .ok (.invokevirtual 162, 3) := by decide +kernel
theorem dX11_steps_10 : decode cX11_steps 10 = .ok (.iconst 1, 1) := by decide +kernel
theorem dX11_steps_11 : decode cX11_steps 11 = .ok (.iload_n 1, 1) := by decide +kernel
theorem dX11_steps_12 : decode cX11_steps 12 = .ok (.ishl, 1) := by decide +kernel
theorem dX11_steps_13 : decode cX11_steps 13 = .ok (.istore_n 3, 1) := by decide +kernel
theorem dX11_steps_14 : decode cX11_steps 14 = .ok (.iconst 0, 1) := by decide +kernel
theorem dX11_steps_15 : decode cX11_steps 15 = .ok (.istore 4, 2) := by decide +kernel
theorem dX11_steps_17 : decode cX11_steps 17 = .ok (.iload 4, 2) := by decide +kernel
theorem dX11_steps_19 : decode cX11_steps 19 = .ok (.bipush 9, 2) := by decide +kernel
theorem dX11_steps_21 : decode cX11_steps 21 = .ok (.if_icmp .ge 32, 3) := by decide +kernel
theorem dX11_steps_24 : decode cX11_steps 24 = .ok (.iload_n 3, 1) := by decide +kernel
theorem dX11_steps_25 : decode cX11_steps 25 = .ok (.iload_n 2, 1) := by decide +kernel
theorem dX11_steps_26 : decode cX11_steps 26 = .ok (.ishr, 1) := by decide +kernel
theorem dX11_steps_27 : decode cX11_steps 27 = .ok (.iconst 1, 1) := by decide +kernel
theorem dX11_steps_28 : decode cX11_steps 28 = .ok (.iand, 1) := by decide +kernel
theorem dX11_steps_29 : decode cX11_steps 29 = .ok (.iconst 1, 1) := by decide +kernel
theorem dX11_steps_30 : decode cX11_steps 30 = .ok (.if_icmp .ne 6, 3) := by decide +kernel
theorem dX11_steps_33 : decode cX11_steps 33 = .ok (.iload 4, 2) := by decide +kernel
theorem dX11_steps_35 : decode cX11_steps 35 = .ok (.ireturn, 1) := by decide +kernel
theorem dX11_steps_36 : decode cX11_steps 36 = .ok (.iload_n 3, 1) := by decide +kernel
theorem dX11_steps_37 : decode cX11_steps 37 = .ok (.aload_n 0, 1) := by decide +kernel
theorem dX11_steps_38 : decode cX11_steps 38 = .ok (.getfield 36, 3) := by decide +kernel
theorem dX11_steps_41 : decode cX11_steps 41 = .ok (.iload_n 3, 1) := by decide +kernel
theorem dX11_steps_42 : decode cX11_steps 42 = .ok (.invokevirtual 276, 3) := by decide +kernel
theorem dX11_steps_45 : decode cX11_steps 45 = .ok (.ior, 1) := by decide +kernel
theorem dX11_steps_46 : decode cX11_steps 46 = .ok (.istore_n 3, 1) := by decide +kernel
theorem dX11_steps_47 : decode cX11_steps 47 = .ok (.iinc 4 1, 3) := by decide +kernel
theorem dX11_steps_50 : decode cX11_steps 50 = .ok (.goto (-33), 3) := by decide +kernel
theorem dX11_steps_53 : decode cX11_steps 53 = .ok (.iconst (-1), 1) := by decide +kernel
theorem dX11_steps_54 : decode cX11_steps 54 = .ok (.ireturn, 1) := by decide +kernel
theorem dX11_busiest_0 : decode cX11_busiest 0 = .ok (.aload_n 0, 1) := by decide +kernel
theorem dX11_busiest_1 : decode cX11_busiest 1 = .ok (.iload_n 1, 1) := by decide +kernel
theorem dX11_busiest_2 : decode cX11_busiest 2 = .ok (.invokevirtual 242, 3) := by decide +kernel
theorem dX11_busiest_5 : decode cX11_busiest 5 = .ok (.aload_n 0, 1) := by decide +kernel
theorem dX11_busiest_6 : decode cX11_busiest 6 = .ok (.getfield 63, 3) := by decide +kernel
theorem dX11_busiest_9 : decode cX11_busiest 9 = .ok (.iload_n 1, 1) := by decide +kernel
theorem dX11_busiest_10 : decode cX11_busiest 10 = .ok (.invokevirtual 245, 3) := by decide +kernel
theorem dX11_busiest_13 : decode cX11_busiest 13 = .ok (.iconst (-1), 1) := by decide +kernel
theorem dX11_busiest_14 : decode cX11_busiest 14 = .ok (.istore_n 2, 1) := by decide +kernel
theorem dX11_busiest_15 : decode cX11_busiest 15 = .ok (.iconst 0, 1) := by decide +kernel
theorem dX11_busiest_16 : decode cX11_busiest 16 = .ok (.istore_n 3, 1) := by decide +kernel
theorem dX11_busiest_17 : decode cX11_busiest 17 = .ok (.iconst 0, 1) := by decide +kernel
theorem dX11_busiest_18 : decode cX11_busiest 18 = .ok (.istore 4, 2) := by decide +kernel
theorem dX11_busiest_20 : decode cX11_busiest 20 = .ok (.iload 4, 2) := by decide +kernel
theorem dX11_busiest_22 : decode cX11_busiest 22 = .ok (.aload_n 0, 1) := by decide +kernel
theorem dX11_busiest_23 : decode cX11_busiest 23 = .ok (.getfield 36, 3) := by decide +kernel
theorem dX11_busiest_26 : decode cX11_busiest 26 = .ok (.getfield 108, 3) := by decide +kernel
theorem dX11_busiest_29 : decode cX11_busiest 29 = .ok (.getfield 134, 3) := by decide +kernel
theorem dX11_busiest_32 : decode cX11_busiest 32 = .ok (.if_icmp .ge 32, 3) := by decide +kernel
theorem dX11_busiest_35 : decode cX11_busiest 35 = .ok (.aload_n 0, 1) := by decide +kernel
theorem dX11_busiest_36 : decode cX11_busiest 36 = .ok (.getfield 63, 3) := by decide +kernel
theorem dX11_busiest_39 : decode cX11_busiest 39 = .ok (.iload 4, 2) := by decide +kernel
theorem dX11_busiest_41 : decode cX11_busiest 41 = .ok (.invokevirtual 248, 3) := by decide +kernel
theorem dX11_busiest_44 : decode cX11_busiest 44 = .ok (.istore 5, 2) := by decide +kernel
theorem dX11_busiest_46 : decode cX11_busiest 46 = .ok (.iload 5, 2) := by decide +kernel
theorem dX11_busiest_48 : decode cX11_busiest 48 = .ok (.iload_n 3, 1) := by decide +kernel
theorem dX11_busiest_49 : decode cX11_busiest 49 = .ok (.if_icmp .le 9, 3) := by decide +kernel
theorem dX11_busiest_52 : decode cX11_busiest 52 = .ok (.iload 5, 2) := by decide +kernel
theorem dX11_busiest_54 : decode cX11_busiest 54 = .ok (.istore_n 3, 1) := by decide +kernel
theorem dX11_busiest_55 : decode cX11_busiest 55 = .ok (.iload 4, 2) := by decide +kernel
theorem dX11_busiest_57 : decode cX11_busiest 57 = .ok (.istore_n 2, 1) := by decide +kernel
theorem dX11_busiest_58 : decode cX11_busiest 58 = .ok (.iinc 4 1, 3) := by decide +kernel
theorem dX11_busiest_61 : decode cX11_busiest 61 = .ok (.goto (-41), 3) := by decide +kernel
theorem dX11_busiest_64 : decode cX11_busiest 64 = .ok (.iload_n 2, 1) := by decide +kernel
theorem dX11_busiest_65 : decode cX11_busiest 65 = .ok (.ireturn, 1) := by decide +kernel
theorem dX11_crowd_0 : decode cX11_crowd 0 = .ok (.aload_n 0, 1) := by decide +kernel
theorem dX11_crowd_1 : decode cX11_crowd 1 = .ok (.iload_n 1, 1) := by decide +kernel
theorem dX11_crowd_2 : decode cX11_crowd 2 = .ok (.iconst 1, 1) := by decide +kernel
theorem dX11_crowd_3 : decode cX11_crowd 3 = .ok (.invokevirtual 130, 3) := by decide +kernel
theorem dX11_crowd_6 : decode cX11_crowd 6 = .ok (.iconst (-1), 1) := by decide +kernel
theorem dX11_crowd_7 : decode cX11_crowd 7 = .ok (.istore_n 2, 1) := by decide +kernel
theorem dX11_crowd_8 : decode cX11_crowd 8 = .ok (.iconst 0, 1) := by decide +kernel
theorem dX11_crowd_9 : decode cX11_crowd 9 = .ok (.istore_n 3, 1) := by decide +kernel
theorem dX11_crowd_10 : decode cX11_crowd 10 = .ok (.iconst 0, 1) := by decide +kernel
theorem dX11_crowd_11 : decode cX11_crowd 11 = .ok (.istore 4, 2) := by decide +kernel
theorem dX11_crowd_13 : decode cX11_crowd 13 = .ok (.iload 4, 2) := by decide +kernel
theorem dX11_crowd_15 : decode cX11_crowd 15 = .ok (.aload_n 0, 1) := by decide +kernel
theorem dX11_crowd_16 : decode cX11_crowd 16 = .ok (.getfield 36, 3) := by decide +kernel
theorem dX11_crowd_19 : decode cX11_crowd 19 = .ok (.getfield 108, 3) := by decide +kernel
theorem dX11_crowd_22 : decode cX11_crowd 22 = .ok (.getfield 137, 3) := by decide +kernel
theorem dX11_crowd_25 : decode cX11_crowd 25 = .ok (.if_icmp .ge 71, 3) := by decide +kernel
theorem dX11_crowd_28 : decode cX11_crowd 28 = .ok (.aload_n 0, 1) := by decide +kernel
theorem dX11_crowd_29 : decode cX11_crowd 29 = .ok (.getfield 36, 3) := by decide +kernel
theorem dX11_crowd_32 : decode cX11_crowd 32 = .ok (.iload 4, 2) := by decide +kernel
theorem dX11_crowd_34 : decode cX11_crowd 34 = .ok (.invokevirtual 186, 3) := by decide +kernel
theorem dX11_crowd_37 : decode cX11_crowd 37 = .ok (.istore 5, 2) := by decide +kernel
theorem dX11_crowd_39 : decode cX11_crowd 39 = .ok (.aload_n 0, 1) := by decide +kernel
theorem dX11_crowd_40 : decode cX11_crowd 40 = .ok (.getfield 36, 3) := by decide +kernel
theorem dX11_crowd_43 : decode cX11_crowd 43 = .ok (.iload 4, 2) := by decide +kernel
theorem dX11_crowd_45 : decode cX11_crowd 45 = .ok (.invokevirtual 189, 3) := by decide +kernel
theorem dX11_crowd_48 : decode cX11_crowd 48 = .ok (.ifCond .eq 15, 3) := by decide +kernel
theorem dX11_crowd_51 : decode cX11_crowd 51 = .ok (.aload_n 0, 1) := by decide +kernel
theorem dX11_crowd_52 : decode cX11_crowd 52 = .ok (.getfield 36, 3) := by decide +kernel
theorem dX11_crowd_55 : decode cX11_crowd 55 = .ok (.iload 5, 2) := by decide +kernel
theorem dX11_crowd_57 : decode cX11_crowd 57 = .ok (.invokevirtual 279, 3) := by decide +kernel
theorem dX11_crowd_60 : decode cX11_crowd 60 = .ok (.goto 4, 3) := by decide +kernel
theorem dX11_crowd_63 : decode cX11_crowd 63 = .ok (.iconst 0, 1) := by decide +kernel
theorem dX11_crowd_64 : decode cX11_crowd 64 = .ok (.istore 6, 2) := by decide +kernel
theorem dX11_crowd_66 : decode cX11_crowd 66 = .ok (.iload 6, 2) := by decide +kernel
theorem dX11_crowd_68 : decode cX11_crowd 68 = .ok (.iload_n 3, 1) := by decide +kernel
theorem dX11_crowd_69 : decode cX11_crowd 69 = .ok (.if_icmp .gt 15, 3) := by decide +kernel
theorem dX11_crowd_72 : decode cX11_crowd 72 = .ok (.iload 6, 2) := by decide +kernel
theorem dX11_crowd_74 : decode cX11_crowd 74 = .ok (.iload_n 3, 1) := by decide +kernel
theorem dX11_crowd_75 : decode cX11_crowd 75 = .ok (.if_icmp .ne 15, 3) := by decide +kernel
theorem dX11_crowd_78 : decode cX11_crowd 78 = .ok (.iload 5, 2) := by decide +kernel
theorem dX11_crowd_80 : decode cX11_crowd 80 = .ok (.iload_n 2, 1) := by decide +kernel
theorem dX11_crowd_81 : decode cX11_crowd 81 = .ok (.if_icmp .ge 9, 3) := by decide +kernel
theorem dX11_crowd_84 : decode cX11_crowd 84 = .ok (.iload 6, 2) := by decide +kernel
theorem dX11_crowd_86 : decode cX11_crowd 86 = .ok (.istore_n 3, 1) := by decide +kernel
theorem dX11_crowd_87 : decode cX11_crowd 87 = .ok (.iload 5, 2) := by decide +kernel
theorem dX11_crowd_89 : decode cX11_crowd 89 = .ok (.istore_n 2, 1) := by decide +kernel
theorem dX11_crowd_90 : decode cX11_crowd 90 = .ok (.iinc 4 1, 3) := by decide +kernel
theorem dX11_crowd_93 : decode cX11_crowd 93 = .ok (.goto (-80), 3) := by decide +kernel
theorem dX11_crowd_96 : decode cX11_crowd 96 = .ok (.iload_n 1, 1) := by decide +kernel
theorem dX11_crowd_97 : decode cX11_crowd 97 = .ok (.ifCond .ne 7, 3) := by decide +kernel
theorem dX11_crowd_100 : decode cX11_crowd 100 = .ok (.iload_n 2, 1) := by decide +kernel
theorem dX11_crowd_101 : decode cX11_crowd 101 = .ok (.goto 4, 3) := by decide +kernel
theorem dX11_crowd_104 : decode cX11_crowd 104 = .ok (.iload_n 3, 1) := by decide +kernel
theorem dX11_crowd_105 : decode cX11_crowd 105 = .ok (.ireturn, 1) := by decide +kernel
theorem dX11_common_0 : decode cX11_common 0 = .ok (.aload_n 0, 1) := by decide +kernel
theorem dX11_common_1 : decode cX11_common 1 = .ok (.iload_n 1, 1) := by decide +kernel
theorem dX11_common_2 : decode cX11_common 2 = .ok (.invokevirtual 162, 3) := by decide +kernel
theorem dX11_common_5 : decode cX11_common 5 = .ok (.aload_n 0, 1) := by decide +kernel
theorem dX11_common_6 : decode cX11_common 6 = .ok (.iload_n 2, 1) := by decide +kernel
theorem dX11_common_7 : decode cX11_common 7 = .ok (.invokevirtual 162, 3) := by decide +kernel
theorem dX11_common_10 : decode cX11_common 10 = .ok (.aload_n 0, 1) := by decide +kernel
theorem dX11_common_11 : decode cX11_common 11 = .ok (.getfield 36, 3) := by decide +kernel
theorem dX11_common_14 : decode cX11_common 14 = .ok (.iload_n 1, 1) := by decide +kernel
theorem dX11_common_15 : decode cX11_common 15 = .ok (.invokevirtual 180, 3) := by decide +kernel
theorem dX11_common_18 : decode cX11_common 18 = .ok (.aload_n 0, 1) := by decide +kernel
theorem dX11_common_19 : decode cX11_common 19 = .ok (.getfield 36, 3) := by decide +kernel
theorem dX11_common_22 : decode cX11_common 22 = .ok (.iload_n 2, 1) := by decide +kernel
theorem dX11_common_23 : decode cX11_common 23 = .ok (.invokevirtual 180, 3) := by decide +kernel
theorem dX11_common_26 : decode cX11_common 26 = .ok (.iand, 1) := by decide +kernel
theorem dX11_common_27 : decode cX11_common 27 = .ok (.ireturn, 1) := by decide +kernel
theorem dX11_see_0 : decode cX11_see 0 = .ok (.aload_n 0, 1) := by decide +kernel
theorem dX11_see_1 : decode cX11_see 1 = .ok (.iload_n 1, 1) := by decide +kernel
theorem dX11_see_2 : decode cX11_see 2 = .ok (.invokevirtual 183, 3) := by decide +kernel
theorem dX11_see_5 : decode cX11_see 5 = .ok (.aload_n 0, 1) := by decide +kernel
theorem dX11_see_6 : decode cX11_see 6 = .ok (.iload_n 3, 1) := by decide +kernel
theorem dX11_see_7 : decode cX11_see 7 = .ok (.invokevirtual 162, 3) := by decide +kernel
theorem dX11_see_10 : decode cX11_see 10 = .ok (.aload_n 0, 1) := by decide +kernel
theorem dX11_see_11 : decode cX11_see 11 = .ok (.iload 4, 2) := by decide +kernel
theorem dX11_see_13 : decode cX11_see 13 = .ok (.invokevirtual 162, 3) := by decide +kernel
theorem dX11_see_16 : decode cX11_see 16 = .ok (.aload_n 0, 1) := by decide +kernel
theorem dX11_see_17 : decode cX11_see 17 = .ok (.getfield 25, 3) := by decide +kernel
theorem dX11_see_20 : decode cX11_see 20 = .ok (.getfield 56, 3) := by decide +kernel
theorem dX11_see_23 : decode cX11_see 23 = .ok (.getfield 158, 3) := by decide +kernel
theorem dX11_see_26 : decode cX11_see 26 = .ok (.bipush 8, 2) := by decide +kernel
theorem dX11_see_28 : decode cX11_see 28 = .ok (.if_icmp .ge 19, 3) := by decide +kernel
theorem dX11_see_31 : decode cX11_see 31 = .ok (.iload_n 2, 1) := by decide +kernel
theorem dX11_see_32 : decode cX11_see 32 = .ok (.ifCond .lt 15, 3) := by decide +kernel
theorem dX11_see_35 : decode cX11_see 35 = .ok (.iload_n 2, 1) := by decide +kernel
theorem dX11_see_36 : decode cX11_see 36 = .ok (.bipush 20, 2) := by decide +kernel
theorem dX11_see_38 : decode cX11_see 38 = .ok (.if_icmp .gt 9, 3) := by decide +kernel
theorem dX11_see_41 : decode cX11_see 41 = .ok (.iload_n 3, 1) := by decide +kernel
theorem dX11_see_42 : decode cX11_see 42 = .ok (.iload 4, 2) := by decide +kernel
theorem dX11_see_44 : decode cX11_see 44 = .ok (.if_icmp .ne 9, 3) := by decide +kernel
theorem dX11_see_47 : decode cX11_see 47 = .ok (.aload_n 0, 1) := by decide +kernel
theorem dX11_see_48 : decode cX11_see 48 = .ok (.iconst 2, 1) := by decide +kernel
theorem dX11_see_49 : decode cX11_see 49 = .ok (.invokevirtual 105, 3) := by decide +kernel
theorem dX11_see_52 : decode cX11_see 52 = .ok (.ireturn, 1) := by decide +kernel
theorem dX11_see_53 : decode cX11_see 53 = .ok (.aload_n 0, 1) := by decide +kernel
theorem dX11_see_54 : decode cX11_see 54 = .ok (.getfield 25, 3) := by decide +kernel
theorem dX11_see_57 : decode cX11_see 57 = .ok (.getfield 56, 3) := by decide +kernel
theorem dX11_see_60 : decode cX11_see 60 = .ok (.iload_n 1, 1) := by decide +kernel
theorem dX11_see_61 : decode cX11_see 61 = .ok (.iload_n 2, 1) := by decide +kernel
theorem dX11_see_62 : decode cX11_see 62 = .ok (.iload_n 3, 1) := by decide +kernel
theorem dX11_see_63 : decode cX11_see 63 = .ok (.iload 4, 2) := by decide +kernel
theorem dX11_see_65 : decode cX11_see 65 = .ok (.iload 5, 2) := by decide +kernel
theorem dX11_see_67 : decode cX11_see 67 = .ok (.invokevirtual 282, 3) := by decide +kernel
theorem dX11_see_70 : decode cX11_see 70 = .ok (.aload_n 0, 1) := by decide +kernel
theorem dX11_see_71 : decode cX11_see 71 = .ok (.getfield 25, 3) := by decide +kernel
theorem dX11_see_74 : decode cX11_see 74 = .ok (.getfield 56, 3) := by decide +kernel
theorem dX11_see_77 : decode cX11_see 77 = .ok (.getfield 158, 3) := by decide +kernel
theorem dX11_see_80 : decode cX11_see 80 = .ok (.ireturn, 1) := by decide +kernel
theorem dX11_hidden_0 : decode cX11_hidden 0 = .ok (.aload_n 0, 1) := by decide +kernel
theorem dX11_hidden_1 : decode cX11_hidden 1 = .ok (.iload_n 1, 1) := by decide +kernel
theorem dX11_hidden_2 : decode cX11_hidden 2 = .ok (.iconst 2, 1) := by decide +kernel
theorem dX11_hidden_3 : decode cX11_hidden 3 = .ok (.invokevirtual 130, 3) := by decide +kernel
theorem dX11_hidden_6 : decode cX11_hidden 6 = .ok (.iload_n 1, 1) := by decide +kernel
theorem dX11_hidden_7 : decode cX11_hidden 7 = .ok (.lookupswitch 41 #[(0, 25), (1, 33)], 25) := by decide +kernel
theorem dX11_hidden_32 : decode cX11_hidden 32 = .ok (.aload_n 0, 1) := by decide +kernel
theorem dX11_hidden_33 : decode cX11_hidden 33 = .ok (.getfield 63, 3) := by decide +kernel
theorem dX11_hidden_36 : decode cX11_hidden 36 = .ok (.invokevirtual 286, 3) := by decide +kernel
theorem dX11_hidden_39 : decode cX11_hidden 39 = .ok (.ireturn, 1) := by decide +kernel
theorem dX11_hidden_40 : decode cX11_hidden 40 = .ok (.aload_n 0, 1) := by decide +kernel
theorem dX11_hidden_41 : decode cX11_hidden 41 = .ok (.getfield 63, 3) := by decide +kernel
theorem dX11_hidden_44 : decode cX11_hidden 44 = .ok (.invokevirtual 289, 3) := by decide +kernel
theorem dX11_hidden_47 : decode cX11_hidden 47 = .ok (.ireturn, 1) := by decide +kernel
theorem dX11_hidden_48 : decode cX11_hidden 48 = .ok (.aload_n 0, 1) := by decide +kernel
theorem dX11_hidden_49 : decode cX11_hidden 49 = .ok (.getfield 63, 3) := by decide +kernel
theorem dX11_hidden_52 : decode cX11_hidden 52 = .ok (.invokevirtual 292, 3) := by decide +kernel
theorem dX11_hidden_55 : decode cX11_hidden 55 = .ok (.ifCond .eq 7, 3) := by decide +kernel
theorem dX11_hidden_58 : decode cX11_hidden 58 = .ok (.iconst 1, 1) := by decide +kernel
theorem dX11_hidden_59 : decode cX11_hidden 59 = .ok (.goto 4, 3) := by decide +kernel
theorem dX11_hidden_62 : decode cX11_hidden 62 = .ok (.iconst 0, 1) := by decide +kernel
theorem dX11_hidden_63 : decode cX11_hidden 63 = .ok (.ireturn, 1) := by decide +kernel
theorem dX11_next_0 : decode cX11_next 0 = .ok (.aload_n 0, 1) := by decide +kernel
theorem dX11_next_1 : decode cX11_next 1 = .ok (.iload_n 1, 1) := by decide +kernel
theorem dX11_next_2 : decode cX11_next 2 = .ok (.iconst 1, 1) := by decide +kernel
theorem dX11_next_3 : decode cX11_next 3 = .ok (.invokevirtual 130, 3) := by decide +kernel
theorem dX11_next_6 : decode cX11_next 6 = .ok (.aload_n 0, 1) := by decide +kernel
theorem dX11_next_7 : decode cX11_next 7 = .ok (.getfield 63, 3) := by decide +kernel
theorem dX11_next_10 : decode cX11_next 10 = .ok (.iload_n 1, 1) := by decide +kernel
theorem dX11_next_11 : decode cX11_next 11 = .ok (.iconst 1, 1) := by decide +kernel
theorem dX11_next_12 : decode cX11_next 12 = .ok (.if_icmp .ne 7, 3) := by decide +kernel
theorem dX11_next_15 : decode cX11_next 15 = .ok (.iconst 1, 1) := by decide +kernel
theorem dX11_next_16 : decode cX11_next 16 = .ok (.goto 4, 3) := by decide +kernel
theorem dX11_next_19 : decode cX11_next 19 = .ok (.iconst 0, 1) := by decide +kernel
theorem dX11_next_20 : decode cX11_next 20 = .ok (.invokevirtual 296, 3) := by decide +kernel
theorem dX11_next_23 : decode cX11_next 23 = .ok (.ireturn, 1) := by decide +kernel
theorem dX11_forget_0 : decode cX11_forget 0 = .ok (.aload_n 0, 1) := by decide +kernel
theorem dX11_forget_1 : decode cX11_forget 1 = .ok (.getfield 25, 3) := by decide +kernel
theorem dX11_forget_4 : decode cX11_forget 4 = .ok (.getfield 56, 3) := by decide +kernel
theorem dX11_forget_7 : decode cX11_forget 7 = .ok (.invokevirtual 123, 3) := by decide +kernel
theorem dX11_forget_10 : decode cX11_forget 10 = .ok (.return_, 1) := by decide +kernel
theorem dX11_game_0 : decode cX11_game 0 = .ok (.aload_n 0, 1) := by decide +kernel
theorem dX11_game_1 : decode cX11_game 1 = .ok (.iload_n 1, 1) := by decide +kernel
theorem dX11_game_2 : decode cX11_game 2 = .ok (.invokevirtual 162, 3) := by decide +kernel
theorem dX11_game_5 : decode cX11_game 5 = .ok (.aload_n 0, 1) := by decide +kernel
theorem dX11_game_6 : decode cX11_game 6 = .ok (.iload_n 2, 1) := by decide +kernel
theorem dX11_game_7 : decode cX11_game 7 = .ok (.invokevirtual 162, 3) := by decide +kernel
theorem dX11_game_10 : decode cX11_game 10 = .ok (.aload_n 0, 1) := by decide +kernel
theorem dX11_game_11 : decode cX11_game 11 = .ok (.iload_n 3, 1) := by decide +kernel
theorem dX11_game_12 : decode cX11_game 12 = .ok (.invokevirtual 183, 3) := by decide +kernel
theorem dX11_game_15 : decode cX11_game 15 = .ok (.aload_n 0, 1) := by decide +kernel
theorem dX11_game_16 : decode cX11_game 16 = .ok (.iload 4, 2) := by decide +kernel
theorem dX11_game_18 : decode cX11_game 18 = .ok (.iconst 1, 1) := by decide +kernel
theorem dX11_game_19 : decode cX11_game 19 = .ok (.invokevirtual 130, 3) := by decide +kernel
theorem dX11_game_22 : decode cX11_game 22 = .ok (.aload_n 0, 1) := by decide +kernel
theorem dX11_game_23 : decode cX11_game 23 = .ok (.iload_n 1, 1) := by decide +kernel
theorem dX11_game_24 : decode cX11_game 24 = .ok (.iload_n 2, 1) := by decide +kernel
theorem dX11_game_25 : decode cX11_game 25 = .ok (.iload_n 3, 1) := by decide +kernel
theorem dX11_game_26 : decode cX11_game 26 = .ok (.invokevirtual 300, 3) := by decide +kernel
theorem dX11_game_29 : decode cX11_game 29 = .ok (.aload_n 0, 1) := by decide +kernel
theorem dX11_game_30 : decode cX11_game 30 = .ok (.getfield 63, 3) := by decide +kernel
theorem dX11_game_33 : decode cX11_game 33 = .ok (.iload_n 1, 1) := by decide +kernel
theorem dX11_game_34 : decode cX11_game 34 = .ok (.iload_n 2, 1) := by decide +kernel
theorem dX11_game_35 : decode cX11_game 35 = .ok (.iload_n 3, 1) := by decide +kernel
theorem dX11_game_36 : decode cX11_game 36 = .ok (.invokevirtual 303, 3) := by decide +kernel
theorem dX11_game_39 : decode cX11_game 39 = .ok (.iload 4, 2) := by decide +kernel
theorem dX11_game_41 : decode cX11_game 41 = .ok (.ifCond .ne 15, 3) := by decide +kernel
theorem dX11_game_44 : decode cX11_game 44 = .ok (.aload_n 0, 1) := by decide +kernel
theorem dX11_game_45 : decode cX11_game 45 = .ok (.getfield 63, 3) := by decide +kernel
theorem dX11_game_48 : decode cX11_game 48 = .ok (.iload_n 1, 1) := by decide +kernel
theorem dX11_game_49 : decode cX11_game 49 = .ok (.iload_n 2, 1) := by decide +kernel
theorem dX11_game_50 : decode cX11_game 50 = .ok (.invokevirtual 306, 3) := by decide +kernel
theorem dX11_game_53 : decode cX11_game 53 = .ok (.goto 12, 3) := by decide +kernel
theorem dX11_game_56 : decode cX11_game 56 = .ok (.aload_n 0, 1) := by decide +kernel
theorem dX11_game_57 : decode cX11_game 57 = .ok (.getfield 63, 3) := by decide +kernel
theorem dX11_game_60 : decode cX11_game 60 = .ok (.iload_n 1, 1) := by decide +kernel
theorem dX11_game_61 : decode cX11_game 61 = .ok (.iload_n 2, 1) := by decide +kernel
theorem dX11_game_62 : decode cX11_game 62 = .ok (.invokevirtual 309, 3) := by decide +kernel
theorem dX11_game_65 : decode cX11_game 65 = .ok (.ireturn, 1) := by decide +kernel
theorem dX11_drawn_0 : decode cX11_drawn 0 = .ok (.aload_n 0, 1) := by decide +kernel
theorem dX11_drawn_1 : decode cX11_drawn 1 = .ok (.iload_n 3, 1) := by decide +kernel
theorem dX11_drawn_2 : decode cX11_drawn 2 = .ok (.iconst 2, 1) := by decide +kernel
theorem dX11_drawn_3 : decode cX11_drawn 3 = .ok (.invokevirtual 130, 3) := by decide +kernel
theorem dX11_drawn_6 : decode cX11_drawn 6 = .ok (.aload_n 0, 1) := by decide +kernel
theorem dX11_drawn_7 : decode cX11_drawn 7 = .ok (.iload_n 2, 1) := by decide +kernel
theorem dX11_drawn_8 : decode cX11_drawn 8 = .ok (.invokevirtual 242, 3) := by decide +kernel
theorem dX11_drawn_11 : decode cX11_drawn 11 = .ok (.aload_n 0, 1) := by decide +kernel
theorem dX11_drawn_12 : decode cX11_drawn 12 = .ok (.getfield 63, 3) := by decide +kernel
theorem dX11_drawn_15 : decode cX11_drawn 15 = .ok (.iload_n 1, 1) := by decide +kernel
theorem dX11_drawn_16 : decode cX11_drawn 16 = .ok (.iload_n 2, 1) := by decide +kernel
theorem dX11_drawn_17 : decode cX11_drawn 17 = .ok (.invokevirtual 312, 3) := by decide +kernel
theorem dX11_drawn_20 : decode cX11_drawn 20 = .ok (.iload_n 3, 1) := by decide +kernel
theorem dX11_drawn_21 : decode cX11_drawn 21 = .ok (.lookupswitch 65 #[(0, 27), (1, 49)], 27) := by decide +kernel
theorem dX11_drawn_48 : decode cX11_drawn 48 = .ok (.aload_n 0, 1) := by decide +kernel
theorem dX11_drawn_49 : decode cX11_drawn 49 = .ok (.getfield 36, 3) := by decide +kernel
theorem dX11_drawn_52 : decode cX11_drawn 52 = .ok (.getfield 108, 3) := by decide +kernel
theorem dX11_drawn_55 : decode cX11_drawn 55 = .ok (.getfield 137, 3) := by decide +kernel
theorem dX11_drawn_58 : decode cX11_drawn 58 = .ok (.aload_n 0, 1) := by decide +kernel
theorem dX11_drawn_59 : decode cX11_drawn 59 = .ok (.getfield 42, 3) := by decide +kernel
theorem dX11_drawn_62 : decode cX11_drawn 62 = .ok (.invokevirtual 146, 3) := by decide +kernel
theorem dX11_drawn_65 : decode cX11_drawn 65 = .ok (.invokestatic 315, 3) := by decide +kernel
theorem dX11_drawn_68 : decode cX11_drawn 68 = .ok (.isub, 1) := by decide +kernel
theorem dX11_drawn_69 : decode cX11_drawn 69 = .ok (.ireturn, 1) := by decide +kernel
theorem dX11_drawn_70 : decode cX11_drawn 70 = .ok (.aload_n 0, 1) := by decide +kernel
theorem dX11_drawn_71 : decode cX11_drawn 71 = .ok (.getfield 42, 3) := by decide +kernel
theorem dX11_drawn_74 : decode cX11_drawn 74 = .ok (.invokevirtual 149, 3) := by decide +kernel
theorem dX11_drawn_77 : decode cX11_drawn 77 = .ok (.aload_n 0, 1) := by decide +kernel
theorem dX11_drawn_78 : decode cX11_drawn 78 = .ok (.getfield 36, 3) := by decide +kernel
theorem dX11_drawn_81 : decode cX11_drawn 81 = .ok (.invokevirtual 149, 3) := by decide +kernel
theorem dX11_drawn_84 : decode cX11_drawn 84 = .ok (.isub, 1) := by decide +kernel
theorem dX11_drawn_85 : decode cX11_drawn 85 = .ok (.ireturn, 1) := by decide +kernel
theorem dX11_drawn_86 : decode cX11_drawn 86 = .ok (.aload_n 0, 1) := by decide +kernel
theorem dX11_drawn_87 : decode cX11_drawn 87 = .ok (.getfield 42, 3) := by decide +kernel
theorem dX11_drawn_90 : decode cX11_drawn 90 = .ok (.invokevirtual 152, 3) := by decide +kernel
theorem dX11_drawn_93 : decode cX11_drawn 93 = .ok (.ireturn, 1) := by decide +kernel
theorem dX11_image_0 : decode cX11_image 0 = .ok (.aload_n 0, 1) := by decide +kernel
theorem dX11_image_1 : decode cX11_image 1 = .ok (.getfield 29, 3) := by decide +kernel
theorem dX11_image_4 : decode cX11_image 4 = .ok (.aload_n 0, 1) := by decide +kernel
theorem dX11_image_5 : decode cX11_image 5 = .ok (.getfield 25, 3) := by decide +kernel
theorem dX11_image_8 : decode cX11_image 8 = .ok (.invokevirtual 320, 3) := by decide +kernel
theorem dX11_image_11 : decode cX11_image 11 = .ok (.aload_n 0, 1) := by decide +kernel
theorem dX11_image_12 : decode cX11_image 12 = .ok (.iconst 1, 1) := by decide +kernel
theorem dX11_image_13 : decode cX11_image 13 = .ok (.putfield 126, 3) := by decide +kernel
theorem dX11_image_16 : decode cX11_image 16 = .ok (.return_, 1) := by decide +kernel
theorem dX11_restore_0 : decode cX11_restore 0 = .ok (.aload_n 0, 1) := by decide +kernel
theorem dX11_restore_1 : decode cX11_restore 1 = .ok (.getfield 126, 3) := by decide +kernel
theorem dX11_restore_4 : decode cX11_restore 4 = .ok (.ifCond .ne 5, 3) := by decide +kernel
theorem dX11_restore_7 : decode cX11_restore 7 = .ok (.iconst 0, 1) := by decide +kernel
theorem dX11_restore_8 : decode cX11_restore 8 = .ok (.ireturn, 1) := by decide +kernel
theorem dX11_restore_9 : decode cX11_restore 9 = .ok (.aload_n 0, 1) := by decide +kernel
theorem dX11_restore_10 : decode cX11_restore 10 = .ok (.getfield 25, 3) := by decide +kernel
theorem dX11_restore_13 : decode cX11_restore 13 = .ok (.aload_n 0, 1) := by decide +kernel
theorem dX11_restore_14 : decode cX11_restore 14 = .ok (.getfield 29, 3) := by decide +kernel
theorem dX11_restore_17 : decode cX11_restore 17 = .ok (.invokevirtual 320, 3) := by decide +kernel
theorem dX11_restore_20 : decode cX11_restore 20 = .ok (.iconst 1, 1) := by decide +kernel
theorem dX11_restore_21 : decode cX11_restore 21 = .ok (.ireturn, 1) := by decide +kernel
theorem dX11_refuse_0 : decode cX11_refuse 0 = .ok (.aload_n 0, 1) := by decide +kernel
theorem dX11_refuse_1 : decode cX11_refuse 1 = .ok (.getfield 25, 3) := by decide +kernel
theorem dX11_refuse_4 : decode cX11_refuse 4 = .ok (.getfield 159, 3) := by decide +kernel
theorem dX11_refuse_7 : decode cX11_refuse 7 = .ok (.iload_n 1, 1) := by decide +kernel
theorem dX11_refuse_8 : decode cX11_refuse 8 = .ok (.dup2, 1) := by decide +kernel
theorem dX11_refuse_9 : decode cX11_refuse 9 = .ok (.iaload, 1) := by decide +kernel
theorem dX11_refuse_10 : decode cX11_refuse 10 = .ok (.iconst 1, 1) := by decide +kernel
theorem dX11_refuse_11 : decode cX11_refuse 11 = .ok (.iadd, 1) := by decide +kernel
theorem dX11_refuse_12 : decode cX11_refuse 12 = .ok (.iastore, 1) := by decide +kernel
theorem dX11_refuse_13 : decode cX11_refuse 13 = .ok (.iconst (-1), 1) := by decide +kernel
theorem dX11_refuse_14 : decode cX11_refuse 14 = .ok (.ireturn, 1) := by decide +kernel
theorem dX11_needPerson_0 : decode cX11_needPerson 0 = .ok (.iload_n 1, 1) := by decide +kernel
theorem dX11_needPerson_1 : decode cX11_needPerson 1 = .ok (.ifCond .lt 17, 3) := by decide +kernel
theorem dX11_needPerson_4 : decode cX11_needPerson 4 = .ok (.iload_n 1, 1) := by decide +kernel
theorem dX11_needPerson_5 : decode cX11_needPerson 5 = .ok (.aload_n 0, 1) := by decide +kernel
theorem dX11_needPerson_6 : decode cX11_needPerson 6 = .ok (.getfield 36, 3) := by decide +kernel
theorem dX11_needPerson_9 : decode cX11_needPerson 9 = .ok (.getfield 108, 3) := by decide +kernel
theorem dX11_needPerson_12 : decode cX11_needPerson 12 = .ok (.getfield 134, 3) := by decide +kernel
theorem dX11_needPerson_15 : decode cX11_needPerson 15 = .ok (.if_icmp .lt 14, 3) := by decide +kernel
theorem dX11_needPerson_18 : decode cX11_needPerson 18 = .ok (.new 323, 3) := by decide +kernel
theorem dX11_needPerson_21 : decode cX11_needPerson 21 = .ok (.dup, 1) := by decide +kernel
theorem dX11_needPerson_22 : decode cX11_needPerson 22 = .ok (.ldc_w 325, 3) := by decide +kernel
theorem dX11_needPerson_25 : decode cX11_needPerson 25 = .ok (.invokespecial 327, 3) := by decide +kernel
theorem dX11_needPerson_28 : decode cX11_needPerson 28 = .ok (.athrow, 1) := by decide +kernel
theorem dX11_needPerson_29 : decode cX11_needPerson 29 = .ok (.return_, 1) := by decide +kernel
theorem dX11_needBride_0 : decode cX11_needBride 0 = .ok (.iload_n 1, 1) := by decide +kernel
theorem dX11_needBride_1 : decode cX11_needBride 1 = .ok (.ifCond .lt 17, 3) := by decide +kernel
theorem dX11_needBride_4 : decode cX11_needBride 4 = .ok (.iload_n 1, 1) := by decide +kernel
theorem dX11_needBride_5 : decode cX11_needBride 5 = .ok (.aload_n 0, 1) := by decide +kernel
theorem dX11_needBride_6 : decode cX11_needBride 6 = .ok (.getfield 36, 3) := by decide +kernel
theorem dX11_needBride_9 : decode cX11_needBride 9 = .ok (.getfield 108, 3) := by decide +kernel
theorem dX11_needBride_12 : decode cX11_needBride 12 = .ok (.getfield 137, 3) := by decide +kernel
theorem dX11_needBride_15 : decode cX11_needBride 15 = .ok (.if_icmp .lt 14, 3) := by decide +kernel
theorem dX11_needBride_18 : decode cX11_needBride 18 = .ok (.new 323, 3) := by decide +kernel
theorem dX11_needBride_21 : decode cX11_needBride 21 = .ok (.dup, 1) := by decide +kernel
theorem dX11_needBride_22 : decode cX11_needBride 22 = .ok (.ldc_w 328, 3) := by decide +kernel
theorem dX11_needBride_25 : decode cX11_needBride 25 = .ok (.invokespecial 327, 3) := by decide +kernel
theorem dX11_needBride_28 : decode cX11_needBride 28 = .ok (.athrow, 1) := by decide +kernel
theorem dX11_needBride_29 : decode cX11_needBride 29 = .ok (.return_, 1) := by decide +kernel
theorem dX11_needWhat_0 : decode cX11_needWhat 0 = .ok (.iload_n 1, 1) := by decide +kernel
theorem dX11_needWhat_1 : decode cX11_needWhat 1 = .ok (.ifCond .lt 8, 3) := by decide +kernel
theorem dX11_needWhat_4 : decode cX11_needWhat 4 = .ok (.iload_n 1, 1) := by decide +kernel
theorem dX11_needWhat_5 : decode cX11_needWhat 5 = .ok (.iload_n 2, 1) := by decide +kernel
theorem dX11_needWhat_6 : decode cX11_needWhat 6 = .ok (.if_icmp .le 14, 3) := by decide +kernel
theorem dX11_needWhat_9 : decode cX11_needWhat 9 = .ok (.new 323, 3) := by decide +kernel
theorem dX11_needWhat_12 : decode cX11_needWhat 12 = .ok (.dup, 1) := by decide +kernel
theorem dX11_needWhat_13 : decode cX11_needWhat 13 = .ok (.ldc_w 330, 3) := by decide +kernel
theorem dX11_needWhat_16 : decode cX11_needWhat 16 = .ok (.invokespecial 327, 3) := by decide +kernel
theorem dX11_needWhat_19 : decode cX11_needWhat 19 = .ok (.athrow, 1) := by decide +kernel
theorem dX11_needWhat_20 : decode cX11_needWhat 20 = .ok (.return_, 1) := by decide +kernel
theorem dX11_needForesight_0 : decode cX11_needForesight 0 = .ok (.iload_n 1, 1) := by decide +kernel
theorem dX11_needForesight_1 : decode cX11_needForesight 1 = .ok (.ifCond .lt 9, 3) := by decide +kernel
theorem dX11_needForesight_4 : decode cX11_needForesight 4 = .ok (.iload_n 1, 1) := by decide +kernel
theorem dX11_needForesight_5 : decode cX11_needForesight 5 = .ok (.bipush 60, 2) := by decide +kernel
theorem dX11_needForesight_7 : decode cX11_needForesight 7 = .ok (.if_icmp .le 14, 3) := by decide +kernel
theorem dX11_needForesight_10 : decode cX11_needForesight 10 = .ok (.new 87, 3) := by decide +kernel
theorem dX11_needForesight_13 : decode cX11_needForesight 13 = .ok (.dup, 1) := by decide +kernel
theorem dX11_needForesight_14 : decode cX11_needForesight 14 = .ok (.ldc_w 332, 3) := by decide +kernel
theorem dX11_needForesight_17 : decode cX11_needForesight 17 = .ok (.invokespecial 91, 3) := by decide +kernel
theorem dX11_needForesight_20 : decode cX11_needForesight 20 = .ok (.athrow, 1) := by decide +kernel
theorem dX11_needForesight_21 : decode cX11_needForesight 21 = .ok (.return_, 1) := by decide +kernel
theorem dX11_needRivals_0 : decode cX11_needRivals 0 = .ok (.aload_n 0, 1) := by decide +kernel
theorem dX11_needRivals_1 : decode cX11_needRivals 1 = .ok (.getfield 36, 3) := by decide +kernel
theorem dX11_needRivals_4 : decode cX11_needRivals 4 = .ok (.iload_n 1, 1) := by decide +kernel
theorem dX11_needRivals_5 : decode cX11_needRivals 5 = .ok (.iload_n 3, 1) := by decide +kernel
theorem dX11_needRivals_6 : decode cX11_needRivals 6 = .ok (.invokevirtual 205, 3) := by decide +kernel
theorem dX11_needRivals_9 : decode cX11_needRivals 9 = .ok (.ifCond .le 19, 3) := by decide +kernel
theorem dX11_needRivals_12 : decode cX11_needRivals 12 = .ok (.aload_n 0, 1) := by decide +kernel
theorem dX11_needRivals_13 : decode cX11_needRivals 13 = .ok (.getfield 36, 3) := by decide +kernel
theorem dX11_needRivals_16 : decode cX11_needRivals 16 = .ok (.iload_n 2, 1) := by decide +kernel
theorem dX11_needRivals_17 : decode cX11_needRivals 17 = .ok (.iload_n 3, 1) := by decide +kernel
theorem dX11_needRivals_18 : decode cX11_needRivals 18 = .ok (.invokevirtual 205, 3) := by decide +kernel
theorem dX11_needRivals_21 : decode cX11_needRivals 21 = .ok (.ifCond .le 7, 3) := by decide +kernel
theorem dX11_needRivals_24 : decode cX11_needRivals 24 = .ok (.iconst 1, 1) := by decide +kernel
theorem dX11_needRivals_25 : decode cX11_needRivals 25 = .ok (.goto 4, 3) := by decide +kernel
theorem dX11_needRivals_28 : decode cX11_needRivals 28 = .ok (.iconst 0, 1) := by decide +kernel
theorem dX11_needRivals_29 : decode cX11_needRivals 29 = .ok (.istore 4, 2) := by decide +kernel
theorem dX11_needRivals_31 : decode cX11_needRivals 31 = .ok (.iload_n 1, 1) := by decide +kernel
theorem dX11_needRivals_32 : decode cX11_needRivals 32 = .ok (.iload_n 2, 1) := by decide +kernel
theorem dX11_needRivals_33 : decode cX11_needRivals 33 = .ok (.if_icmp .eq 19, 3) := by decide +kernel
theorem dX11_needRivals_36 : decode cX11_needRivals 36 = .ok (.iload 4, 2) := by decide +kernel
theorem dX11_needRivals_38 : decode cX11_needRivals 38 = .ok (.ifCond .eq 14, 3) := by decide +kernel
theorem dX11_needRivals_41 : decode cX11_needRivals 41 = .ok (.aload_n 0, 1) := by decide +kernel
theorem dX11_needRivals_42 : decode cX11_needRivals 42 = .ok (.getfield 36, 3) := by decide +kernel
theorem dX11_needRivals_45 : decode cX11_needRivals 45 = .ok (.iload_n 3, 1) := by decide +kernel
theorem dX11_needRivals_46 : decode cX11_needRivals 46 = .ok (.invokevirtual 189, 3) := by decide +kernel
theorem dX11_needRivals_49 : decode cX11_needRivals 49 = .ok (.ifCond .ne 14, 3) := by decide +kernel
theorem dX11_needRivals_52 : decode cX11_needRivals 52 = .ok (.new 87, 3) := by decide +kernel
theorem dX11_needRivals_55 : decode cX11_needRivals 55 = .ok (.dup, 1) := by decide +kernel
theorem dX11_needRivals_56 : decode cX11_needRivals 56 = .ok (.ldc_w 334, 3) := by decide +kernel
theorem dX11_needRivals_59 : decode cX11_needRivals 59 = .ok (.invokespecial 91, 3) := by decide +kernel
theorem dX11_needRivals_62 : decode cX11_needRivals 62 = .ok (.athrow, 1) := by decide +kernel
theorem dX11_needRivals_63 : decode cX11_needRivals 63 = .ok (.return_, 1) := by decide +kernel
theorem dX12_init_0 : decode cX12_init 0 = .ok (.aload_n 0, 1) := by decide +kernel
theorem dX12_init_1 : decode cX12_init 1 = .ok (.invokespecial 3, 3) := by decide +kernel
theorem dX12_init_4 : decode cX12_init 4 = .ok (.aload_n 0, 1) := by decide +kernel
theorem dX12_init_5 : decode cX12_init 5 = .ok (.iconst 4, 1) := by decide +kernel
theorem dX12_init_6 : decode cX12_init 6 = .ok (.anewarray 9, 3) := by decide +kernel
theorem dX12_init_9 : decode cX12_init 9 = .ok (.dup, 1) := by decide +kernel
theorem dX12_init_10 : decode cX12_init 10 = .ok (.iconst 0, 1) := by decide +kernel
theorem dX12_init_11 : decode cX12_init 11 = .ok (.ldc 11, 2) := by decide +kernel
theorem dX12_init_13 : decode cX12_init 13 = .ok (.aastore, 1) := by decide +kernel
theorem dX12_init_14 : decode cX12_init 14 = .ok (.dup, 1) := by decide +kernel
theorem dX12_init_15 : decode cX12_init 15 = .ok (.iconst 1, 1) := by decide +kernel
theorem dX12_init_16 : decode cX12_init 16 = .ok (.ldc 13, 2) := by decide +kernel
theorem dX12_init_18 : decode cX12_init 18 = .ok (.aastore, 1) := by decide +kernel
theorem dX12_init_19 : decode cX12_init 19 = .ok (.dup, 1) := by decide +kernel
theorem dX12_init_20 : decode cX12_init 20 = .ok (.iconst 2, 1) := by decide +kernel
theorem dX12_init_21 : decode cX12_init 21 = .ok (.ldc 15, 2) := by decide +kernel
theorem dX12_init_23 : decode cX12_init 23 = .ok (.aastore, 1) := by decide +kernel
theorem dX12_init_24 : decode cX12_init 24 = .ok (.dup, 1) := by decide +kernel
theorem dX12_init_25 : decode cX12_init 25 = .ok (.iconst 3, 1) := by decide +kernel
theorem dX12_init_26 : decode cX12_init 26 = .ok (.ldc 17, 2) := by decide +kernel
theorem dX12_init_28 : decode cX12_init 28 = .ok (.aastore, 1) := by decide +kernel
theorem dX12_init_29 : decode cX12_init 29 = .ok (.putfield 19, 3) := by decide +kernel
theorem dX12_init_32 : decode cX12_init 32 = .ok (.aload_n 0, 1) := by decide +kernel
theorem dX12_init_33 : decode cX12_init 33 = .ok (.bipush 8, 2) := by decide +kernel
theorem dX12_init_35 : decode cX12_init 35 = .ok (.anewarray 9, 3) := by decide +kernel
theorem dX12_init_38 : decode cX12_init 38 = .ok (.dup, 1) := by decide +kernel
theorem dX12_init_39 : decode cX12_init 39 = .ok (.iconst 0, 1) := by decide +kernel
theorem dX12_init_40 : decode cX12_init 40 = .ok (.ldc 23, 2) := by decide +kernel
theorem dX12_init_42 : decode cX12_init 42 = .ok (.aastore, 1) := by decide +kernel
theorem dX12_init_43 : decode cX12_init 43 = .ok (.dup, 1) := by decide +kernel
theorem dX12_init_44 : decode cX12_init 44 = .ok (.iconst 1, 1) := by decide +kernel
theorem dX12_init_45 : decode cX12_init 45 = .ok (.ldc 25, 2) := by decide +kernel
theorem dX12_init_47 : decode cX12_init 47 = .ok (.aastore, 1) := by decide +kernel
theorem dX12_init_48 : decode cX12_init 48 = .ok (.dup, 1) := by decide +kernel
theorem dX12_init_49 : decode cX12_init 49 = .ok (.iconst 2, 1) := by decide +kernel
theorem dX12_init_50 : decode cX12_init 50 = .ok (.ldc 27, 2) := by decide +kernel
theorem dX12_init_52 : decode cX12_init 52 = .ok (.aastore, 1) := by decide +kernel
theorem dX12_init_53 : decode cX12_init 53 = .ok (.dup, 1) := by decide +kernel
theorem dX12_init_54 : decode cX12_init 54 = .ok (.iconst 3, 1) := by decide +kernel
theorem dX12_init_55 : decode cX12_init 55 = .ok (.ldc 29, 2) := by decide +kernel
theorem dX12_init_57 : decode cX12_init 57 = .ok (.aastore, 1) := by decide +kernel
theorem dX12_init_58 : decode cX12_init 58 = .ok (.dup, 1) := by decide +kernel
theorem dX12_init_59 : decode cX12_init 59 = .ok (.iconst 4, 1) := by decide +kernel
theorem dX12_init_60 : decode cX12_init 60 = .ok (.ldc 31, 2) := by decide +kernel
theorem dX12_init_62 : decode cX12_init 62 = .ok (.aastore, 1) := by decide +kernel
theorem dX12_init_63 : decode cX12_init 63 = .ok (.dup, 1) := by decide +kernel
theorem dX12_init_64 : decode cX12_init 64 = .ok (.iconst 5, 1) := by decide +kernel
theorem dX12_init_65 : decode cX12_init 65 = .ok (.ldc 33, 2) := by decide +kernel
theorem dX12_init_67 : decode cX12_init 67 = .ok (.aastore, 1) := by decide +kernel
theorem dX12_init_68 : decode cX12_init 68 = .ok (.dup, 1) := by decide +kernel
theorem dX12_init_69 : decode cX12_init 69 = .ok (.bipush 6, 2) := by decide +kernel
theorem dX12_init_71 : decode cX12_init 71 = .ok (.ldc 35, 2) := by decide +kernel
theorem dX12_init_73 : decode cX12_init 73 = .ok (.aastore, 1) := by decide +kernel
theorem dX12_init_74 : decode cX12_init 74 = .ok (.dup, 1) := by decide +kernel
theorem dX12_init_75 : decode cX12_init 75 = .ok (.bipush 7, 2) := by decide +kernel
theorem dX12_init_77 : decode cX12_init 77 = .ok (.ldc 37, 2) := by decide +kernel
theorem dX12_init_79 : decode cX12_init 79 = .ok (.aastore, 1) := by decide +kernel
theorem dX12_init_80 : decode cX12_init 80 = .ok (.putfield 39, 3) := by decide +kernel
theorem dX12_init_83 : decode cX12_init 83 = .ok (.aload_n 0, 1) := by decide +kernel
theorem dX12_init_84 : decode cX12_init 84 = .ok (.iconst 5, 1) := by decide +kernel
theorem dX12_init_85 : decode cX12_init 85 = .ok (.anewarray 9, 3) := by decide +kernel
theorem dX12_init_88 : decode cX12_init 88 = .ok (.dup, 1) := by decide +kernel
theorem dX12_init_89 : decode cX12_init 89 = .ok (.iconst 0, 1) := by decide +kernel
theorem dX12_init_90 : decode cX12_init 90 = .ok (.ldc 23, 2) := by decide +kernel
theorem dX12_init_92 : decode cX12_init 92 = .ok (.aastore, 1) := by decide +kernel
theorem dX12_init_93 : decode cX12_init 93 = .ok (.dup, 1) := by decide +kernel
theorem dX12_init_94 : decode cX12_init 94 = .ok (.iconst 1, 1) := by decide +kernel
theorem dX12_init_95 : decode cX12_init 95 = .ok (.ldc 25, 2) := by decide +kernel
theorem dX12_init_97 : decode cX12_init 97 = .ok (.aastore, 1) := by decide +kernel
theorem dX12_init_98 : decode cX12_init 98 = .ok (.dup, 1) := by decide +kernel
theorem dX12_init_99 : decode cX12_init 99 = .ok (.iconst 2, 1) := by decide +kernel
theorem dX12_init_100 : decode cX12_init 100 = .ok (.ldc 27, 2) := by decide +kernel
theorem dX12_init_102 : decode cX12_init 102 = .ok (.aastore, 1) := by decide +kernel
theorem dX12_init_103 : decode cX12_init 103 = .ok (.dup, 1) := by decide +kernel
theorem dX12_init_104 : decode cX12_init 104 = .ok (.iconst 3, 1) := by decide +kernel
theorem dX12_init_105 : decode cX12_init 105 = .ok (.ldc 29, 2) := by decide +kernel
theorem dX12_init_107 : decode cX12_init 107 = .ok (.aastore, 1) := by decide +kernel
theorem dX12_init_108 : decode cX12_init 108 = .ok (.dup, 1) := by decide +kernel
theorem dX12_init_109 : decode cX12_init 109 = .ok (.iconst 4, 1) := by decide +kernel
theorem dX12_init_110 : decode cX12_init 110 = .ok (.ldc 31, 2) := by decide +kernel
theorem dX12_init_112 : decode cX12_init 112 = .ok (.aastore, 1) := by decide +kernel
theorem dX12_init_113 : decode cX12_init 113 = .ok (.putfield 42, 3) := by decide +kernel
theorem dX12_init_116 : decode cX12_init 116 = .ok (.aload_n 0, 1) := by decide +kernel
theorem dX12_init_117 : decode cX12_init 117 = .ok (.aload_n 0, 1) := by decide +kernel
theorem dX12_init_118 : decode cX12_init 118 = .ok (.getfield 39, 3) := by decide +kernel
theorem dX12_init_121 : decode cX12_init 121 = .ok (.putfield 45, 3) := by decide +kernel
theorem dX12_init_124 : decode cX12_init 124 = .ok (.aload_n 0, 1) := by decide +kernel
theorem dX12_init_125 : decode cX12_init 125 = .ok (.bipush 10, 2) := by decide +kernel
theorem dX12_init_127 : decode cX12_init 127 = .ok (.newarray .int, 2) := by decide +kernel
theorem dX12_init_129 : decode cX12_init 129 = .ok (.putfield 48, 3) := by decide +kernel
theorem dX12_init_132 : decode cX12_init 132 = .ok (.aload_n 0, 1) := by decide +kernel
theorem dX12_init_133 : decode cX12_init 133 = .ok (.bipush 18, 2) := by decide +kernel
theorem dX12_init_135 : decode cX12_init 135 = .ok (.newarray .int, 2) := by decide +kernel
theorem dX12_init_137 : decode cX12_init 137 = .ok (.putfield 52, 3) := by decide +kernel
theorem dX12_init_140 : decode cX12_init 140 = .ok (.aload_n 0, 1) := by decide +kernel
theorem dX12_init_141 : decode cX12_init 141 = .ok (.bipush 18, 2) := by decide +kernel
theorem dX12_init_143 : decode cX12_init 143 = .ok (.newarray .int, 2) := by decide +kernel
theorem dX12_init_145 : decode cX12_init 145 = .ok (.putfield 54, 3) := by decide +kernel
theorem dX12_init_148 : decode cX12_init 148 = .ok (.aload_n 0, 1) := by decide +kernel
theorem dX12_init_149 : decode cX12_init 149 = .ok (.bipush 18, 2) := by decide +kernel
theorem dX12_init_151 : decode cX12_init 151 = .ok (.newarray .int, 2) := by decide +kernel
theorem dX12_init_153 : decode cX12_init 153 = .ok (.putfield 57, 3) := by decide +kernel
theorem dX12_init_156 : decode cX12_init 156 = .ok (.aload_n 0, 1) := by decide +kernel
theorem dX12_init_157 : decode cX12_init 157 = .ok (.bipush 18, 2) := by decide +kernel
theorem dX12_init_159 : decode cX12_init 159 = .ok (.newarray .int, 2) := by decide +kernel
theorem dX12_init_161 : decode cX12_init 161 = .ok (.putfield 60, 3) := by decide +kernel
theorem dX12_init_164 : decode cX12_init 164 = .ok (.aload_n 0, 1) := by decide +kernel
theorem dX12_init_165 : decode cX12_init 165 = .ok (.bipush 12, 2) := by decide +kernel
theorem dX12_init_167 : decode cX12_init 167 = .ok (.newarray .int, 2) := by decide +kernel
theorem dX12_init_169 : decode cX12_init 169 = .ok (.putfield 63, 3) := by decide +kernel
theorem dX12_init_172 : decode cX12_init 172 = .ok (.aload_n 0, 1) := by decide +kernel
theorem dX12_init_173 : decode cX12_init 173 = .ok (.bipush 108, 2) := by decide +kernel
theorem dX12_init_175 : decode cX12_init 175 = .ok (.newarray .int, 2) := by decide +kernel
theorem dX12_init_177 : decode cX12_init 177 = .ok (.putfield 66, 3) := by decide +kernel
theorem dX12_init_180 : decode cX12_init 180 = .ok (.aload_n 0, 1) := by decide +kernel
theorem dX12_init_181 : decode cX12_init 181 = .ok (.sipush 1400, 3) := by decide +kernel
theorem dX12_init_184 : decode cX12_init 184 = .ok (.newarray .int, 2) := by decide +kernel
theorem dX12_init_186 : decode cX12_init 186 = .ok (.putfield 69, 3) := by decide +kernel
theorem dX12_init_189 : decode cX12_init 189 = .ok (.aload_n 0, 1) := by decide +kernel
theorem dX12_init_190 : decode cX12_init 190 = .ok (.sipush 1400, 3) := by decide +kernel
theorem dX12_init_193 : decode cX12_init 193 = .ok (.newarray .int, 2) := by decide +kernel
theorem dX12_init_195 : decode cX12_init 195 = .ok (.putfield 72, 3) := by decide +kernel
theorem dX12_init_198 : decode cX12_init 198 = .ok (.aload_n 0, 1) := by decide +kernel
theorem dX12_init_199 : decode cX12_init 199 = .ok (.iconst 3, 1) := by decide +kernel
theorem dX12_init_200 : decode cX12_init 200 = .ok (.newarray .int, 2) := by decide +kernel
theorem dX12_init_202 : decode cX12_init 202 = .ok (.putfield 75, 3) := by decide +kernel
theorem dX12_init_205 : decode cX12_init 205 = .ok (.aload_n 0, 1) := by decide +kernel
theorem dX12_init_206 : decode cX12_init 206 = .ok (.sipush 700, 3) := by decide +kernel
theorem dX12_init_209 : decode cX12_init 209 = .ok (.newarray .int, 2) := by decide +kernel
theorem dX12_init_211 : decode cX12_init 211 = .ok (.putfield 78, 3) := by decide +kernel
theorem dX12_init_214 : decode cX12_init 214 = .ok (.aload_n 0, 1) := by decide +kernel
theorem dX12_init_215 : decode cX12_init 215 = .ok (.iconst (-1), 1) := by decide +kernel
theorem dX12_init_216 : decode cX12_init 216 = .ok (.putfield 81, 3) := by decide +kernel
theorem dX12_init_219 : decode cX12_init 219 = .ok (.aload_n 0, 1) := by decide +kernel
theorem dX12_init_220 : decode cX12_init 220 = .ok (.bipush 9, 2) := by decide +kernel
theorem dX12_init_222 : decode cX12_init 222 = .ok (.newarray .int, 2) := by decide +kernel
theorem dX12_init_224 : decode cX12_init 224 = .ok (.putfield 85, 3) := by decide +kernel
theorem dX12_init_227 : decode cX12_init 227 = .ok (.aload_n 0, 1) := by decide +kernel
theorem dX12_init_228 : decode cX12_init 228 = .ok (.bipush 9, 2) := by decide +kernel
theorem dX12_init_230 : decode cX12_init 230 = .ok (.newarray .int, 2) := by decide +kernel
theorem dX12_init_232 : decode cX12_init 232 = .ok (.putfield 87, 3) := by decide +kernel
theorem dX12_init_235 : decode cX12_init 235 = .ok (.aload_n 0, 1) := by decide +kernel
theorem dX12_init_236 : decode cX12_init 236 = .ok (.bipush 9, 2) := by decide +kernel
theorem dX12_init_238 : decode cX12_init 238 = .ok (.newarray .int, 2) := by decide +kernel
theorem dX12_init_240 : decode cX12_init 240 = .ok (.putfield 90, 3) := by decide +kernel
theorem dX12_init_243 : decode cX12_init 243 = .ok (.aload_n 0, 1) := by decide +kernel
theorem dX12_init_244 : decode cX12_init 244 = .ok (.bipush 9, 2) := by decide +kernel
theorem dX12_init_246 : decode cX12_init 246 = .ok (.newarray .int, 2) := by decide +kernel
theorem dX12_init_248 : decode cX12_init 248 = .ok (.putfield 93, 3) := by decide +kernel
theorem dX12_init_251 : decode cX12_init 251 = .ok (.aload_n 0, 1) := by decide +kernel
theorem dX12_init_252 : decode cX12_init 252 = .ok (.bipush 6, 2) := by decide +kernel
theorem dX12_init_254 : decode cX12_init 254 = .ok (.newarray .int, 2) := by decide +kernel
theorem dX12_init_256 : decode cX12_init 256 = .ok (.putfield 96, 3) := by decide +kernel
theorem dX12_init_259 : decode cX12_init 259 = .ok (.aload_n 0, 1) := by decide +kernel
theorem dX12_init_260 : decode cX12_init 260 = .ok (.bipush 6, 2) := by decide +kernel
theorem dX12_init_262 : decode cX12_init 262 = .ok (.newarray .int, 2) := by decide +kernel
theorem dX12_init_264 : decode cX12_init 264 = .ok (.putfield 99, 3) := by decide +kernel
theorem dX12_init_267 : decode cX12_init 267 = .ok (.aload_n 0, 1) := by decide +kernel
theorem dX12_init_268 : decode cX12_init 268 = .ok (.bipush 6, 2) := by decide +kernel
theorem dX12_init_270 : decode cX12_init 270 = .ok (.newarray .int, 2) := by decide +kernel
theorem dX12_init_272 : decode cX12_init 272 = .ok (.putfield 102, 3) := by decide +kernel
theorem dX12_init_275 : decode cX12_init 275 = .ok (.aload_n 0, 1) := by decide +kernel
theorem dX12_init_276 : decode cX12_init 276 = .ok (.bipush 54, 2) := by decide +kernel
theorem dX12_init_278 : decode cX12_init 278 = .ok (.newarray .int, 2) := by decide +kernel
theorem dX12_init_280 : decode cX12_init 280 = .ok (.putfield 105, 3) := by decide +kernel
theorem dX12_init_283 : decode cX12_init 283 = .ok (.aload_n 0, 1) := by decide +kernel
theorem dX12_init_284 : decode cX12_init 284 = .ok (.sipush 4400, 3) := by decide +kernel
theorem dX12_init_287 : decode cX12_init 287 = .ok (.newarray .int, 2) := by decide +kernel
theorem dX12_init_289 : decode cX12_init 289 = .ok (.putfield 108, 3) := by decide +kernel
theorem dX12_init_292 : decode cX12_init 292 = .ok (.aload_n 0, 1) := by decide +kernel
theorem dX12_init_293 : decode cX12_init 293 = .ok (.bipush 8, 2) := by decide +kernel
theorem dX12_init_295 : decode cX12_init 295 = .ok (.newarray .int, 2) := by decide +kernel
theorem dX12_init_297 : decode cX12_init 297 = .ok (.putfield 111, 3) := by decide +kernel
theorem dX12_init_300 : decode cX12_init 300 = .ok (.aload_n 0, 1) := by decide +kernel
theorem dX12_init_301 : decode cX12_init 301 = .ok (.bipush 64, 2) := by decide +kernel
theorem dX12_init_303 : decode cX12_init 303 = .ok (.newarray .int, 2) := by decide +kernel
theorem dX12_init_305 : decode cX12_init 305 = .ok (.putfield 114, 3) := by decide +kernel
theorem dX12_init_308 : decode cX12_init 308 = .ok (.aload_n 0, 1) := by decide +kernel
theorem dX12_init_309 : decode cX12_init 309 = .ok (.bipush 6, 2) := by decide +kernel
theorem dX12_init_311 : decode cX12_init 311 = .ok (.newarray .int, 2) := by decide +kernel
theorem dX12_init_313 : decode cX12_init 313 = .ok (.putfield 117, 3) := by decide +kernel
theorem dX12_init_316 : decode cX12_init 316 = .ok (.aload_n 0, 1) := by decide +kernel
theorem dX12_init_317 : decode cX12_init 317 = .ok (.bipush 110, 2) := by decide +kernel
theorem dX12_init_319 : decode cX12_init 319 = .ok (.newarray .int, 2) := by decide +kernel
theorem dX12_init_321 : decode cX12_init 321 = .ok (.putfield 120, 3) := by decide +kernel
theorem dX12_init_324 : decode cX12_init 324 = .ok (.aload_n 0, 1) := by decide +kernel
theorem dX12_init_325 : decode cX12_init 325 = .ok (.bipush 6, 2) := by decide +kernel
theorem dX12_init_327 : decode cX12_init 327 = .ok (.newarray .int, 2) := by decide +kernel
theorem dX12_init_329 : decode cX12_init 329 = .ok (.putfield 123, 3) := by decide +kernel
theorem dX12_init_332 : decode cX12_init 332 = .ok (.aload_n 0, 1) := by decide +kernel
theorem dX12_init_333 : decode cX12_init 333 = .ok (.sipush 3584, 3) := by decide +kernel
theorem dX12_init_336 : decode cX12_init 336 = .ok (.newarray .int, 2) := by decide +kernel
theorem dX12_init_338 : decode cX12_init 338 = .ok (.putfield 126, 3) := by decide +kernel
theorem dX12_init_341 : decode cX12_init 341 = .ok (.aload_n 0, 1) := by decide +kernel
theorem dX12_init_342 : decode cX12_init 342 = .ok (.bipush 8, 2) := by decide +kernel
theorem dX12_init_344 : decode cX12_init 344 = .ok (.newarray .int, 2) := by decide +kernel
theorem dX12_init_346 : decode cX12_init 346 = .ok (.putfield 129, 3) := by decide +kernel
theorem dX12_init_349 : decode cX12_init 349 = .ok (.aload_n 0, 1) := by decide +kernel
theorem dX12_init_350 : decode cX12_init 350 = .ok (.bipush 8, 2) := by decide +kernel
theorem dX12_init_352 : decode cX12_init 352 = .ok (.newarray .int, 2) := by decide +kernel
theorem dX12_init_354 : decode cX12_init 354 = .ok (.putfield 132, 3) := by decide +kernel
theorem dX12_init_357 : decode cX12_init 357 = .ok (.aload_n 0, 1) := by decide +kernel
theorem dX12_init_358 : decode cX12_init 358 = .ok (.bipush 8, 2) := by decide +kernel
theorem dX12_init_360 : decode cX12_init 360 = .ok (.newarray .int, 2) := by decide +kernel
theorem dX12_init_362 : decode cX12_init 362 = .ok (.putfield 135, 3) := by decide +kernel
theorem dX12_init_365 : decode cX12_init 365 = .ok (.aload_n 0, 1) := by decide +kernel
theorem dX12_init_366 : decode cX12_init 366 = .ok (.bipush 8, 2) := by decide +kernel
theorem dX12_init_368 : decode cX12_init 368 = .ok (.newarray .int, 2) := by decide +kernel
theorem dX12_init_370 : decode cX12_init 370 = .ok (.putfield 138, 3) := by decide +kernel
theorem dX12_init_373 : decode cX12_init 373 = .ok (.aload_n 0, 1) := by decide +kernel
theorem dX12_init_374 : decode cX12_init 374 = .ok (.bipush 110, 2) := by decide +kernel
theorem dX12_init_376 : decode cX12_init 376 = .ok (.newarray .int, 2) := by decide +kernel
theorem dX12_init_378 : decode cX12_init 378 = .ok (.putfield 141, 3) := by decide +kernel
theorem dX12_init_381 : decode cX12_init 381 = .ok (.aload_n 0, 1) := by decide +kernel
theorem dX12_init_382 : decode cX12_init 382 = .ok (.bipush 8, 2) := by decide +kernel
theorem dX12_init_384 : decode cX12_init 384 = .ok (.newarray .boolean, 2) := by decide +kernel
theorem dX12_init_386 : decode cX12_init 386 = .ok (.putfield 144, 3) := by decide +kernel
theorem dX12_init_389 : decode cX12_init 389 = .ok (.aload_n 0, 1) := by decide +kernel
theorem dX12_init_390 : decode cX12_init 390 = .ok (.bipush 90, 2) := by decide +kernel
theorem dX12_init_392 : decode cX12_init 392 = .ok (.newarray .int, 2) := by decide +kernel
theorem dX12_init_394 : decode cX12_init 394 = .ok (.putfield 148, 3) := by decide +kernel
theorem dX12_init_397 : decode cX12_init 397 = .ok (.aload_n 0, 1) := by decide +kernel
theorem dX12_init_398 : decode cX12_init 398 = .ok (.sipush 540, 3) := by decide +kernel
theorem dX12_init_401 : decode cX12_init 401 = .ok (.newarray .int, 2) := by decide +kernel
theorem dX12_init_403 : decode cX12_init 403 = .ok (.putfield 151, 3) := by decide +kernel
theorem dX12_init_406 : decode cX12_init 406 = .ok (.aload_n 0, 1) := by decide +kernel
theorem dX12_init_407 : decode cX12_init 407 = .ok (.bipush 8, 2) := by decide +kernel
theorem dX12_init_409 : decode cX12_init 409 = .ok (.newarray .int, 2) := by decide +kernel
theorem dX12_init_411 : decode cX12_init 411 = .ok (.putfield 154, 3) := by decide +kernel
theorem dX12_init_414 : decode cX12_init 414 = .ok (.aload_n 0, 1) := by decide +kernel
theorem dX12_init_415 : decode cX12_init 415 = .ok (.bipush 110, 2) := by decide +kernel
theorem dX12_init_417 : decode cX12_init 417 = .ok (.newarray .int, 2) := by decide +kernel
theorem dX12_init_419 : decode cX12_init 419 = .ok (.putfield 157, 3) := by decide +kernel
theorem dX12_init_422 : decode cX12_init 422 = .ok (.aload_n 0, 1) := by decide +kernel
theorem dX12_init_423 : decode cX12_init 423 = .ok (.bipush 110, 2) := by decide +kernel
theorem dX12_init_425 : decode cX12_init 425 = .ok (.newarray .int, 2) := by decide +kernel
theorem dX12_init_427 : decode cX12_init 427 = .ok (.putfield 160, 3) := by decide +kernel
theorem dX12_init_430 : decode cX12_init 430 = .ok (.aload_n 0, 1) := by decide +kernel
theorem dX12_init_431 : decode cX12_init 431 = .ok (.sipush 4400, 3) := by decide +kernel
theorem dX12_init_434 : decode cX12_init 434 = .ok (.newarray .int, 2) := by decide +kernel
theorem dX12_init_436 : decode cX12_init 436 = .ok (.putfield 163, 3) := by decide +kernel
theorem dX12_init_439 : decode cX12_init 439 = .ok (.aload_n 0, 1) := by decide +kernel
theorem dX12_init_440 : decode cX12_init 440 = .ok (.bipush 8, 2) := by decide +kernel
theorem dX12_init_442 : decode cX12_init 442 = .ok (.newarray .int, 2) := by decide +kernel
theorem dX12_init_444 : decode cX12_init 444 = .ok (.putfield 166, 3) := by decide +kernel
theorem dX12_init_447 : decode cX12_init 447 = .ok (.aload_n 0, 1) := by decide +kernel
theorem dX12_init_448 : decode cX12_init 448 = .ok (.bipush 8, 2) := by decide +kernel
theorem dX12_init_450 : decode cX12_init 450 = .ok (.newarray .int, 2) := by decide +kernel
theorem dX12_init_452 : decode cX12_init 452 = .ok (.putfield 169, 3) := by decide +kernel
theorem dX12_init_455 : decode cX12_init 455 = .ok (.aload_n 0, 1) := by decide +kernel
theorem dX12_init_456 : decode cX12_init 456 = .ok (.bipush 8, 2) := by decide +kernel
theorem dX12_init_458 : decode cX12_init 458 = .ok (.newarray .int, 2) := by decide +kernel
theorem dX12_init_460 : decode cX12_init 460 = .ok (.putfield 172, 3) := by decide +kernel
theorem dX12_init_463 : decode cX12_init 463 = .ok (.aload_n 0, 1) := by decide +kernel
theorem dX12_init_464 : decode cX12_init 464 = .ok (.bipush 8, 2) := by decide +kernel
theorem dX12_init_466 : decode cX12_init 466 = .ok (.newarray .int, 2) := by decide +kernel
theorem dX12_init_468 : decode cX12_init 468 = .ok (.putfield 175, 3) := by decide +kernel
theorem dX12_init_471 : decode cX12_init 471 = .ok (.aload_n 0, 1) := by decide +kernel
theorem dX12_init_472 : decode cX12_init 472 = .ok (.iconst 3, 1) := by decide +kernel
theorem dX12_init_473 : decode cX12_init 473 = .ok (.newarray .int, 2) := by decide +kernel
theorem dX12_init_475 : decode cX12_init 475 = .ok (.putfield 178, 3) := by decide +kernel
theorem dX12_init_478 : decode cX12_init 478 = .ok (.aload_n 0, 1) := by decide +kernel
