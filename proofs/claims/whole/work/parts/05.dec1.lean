theorem dX12_init_479 : decode cX12_init 479 = .ok (.bipush 8, 2) := by decide +kernel
theorem dX12_init_481 : decode cX12_init 481 = .ok (.newarray .boolean, 2) := by decide +kernel
theorem dX12_init_483 : decode cX12_init 483 = .ok (.putfield 181, 3) := by decide +kernel
theorem dX12_init_486 : decode cX12_init 486 = .ok (.return_, 1) := by decide +kernel
theorem dX12_thrown_0 : decode cX12_thrown 0 = .ok (.aload_n 0, 1) := by decide +kernel
theorem dX12_thrown_1 : decode cX12_thrown 1 = .ok (.getfield 184, 3) := by decide +kernel
theorem dX12_thrown_4 : decode cX12_thrown 4 = .ok (.ireturn, 1) := by decide +kernel
theorem dX12_fail_0 : decode cX12_fail 0 = .ok (.aload_n 0, 1) := by decide +kernel
theorem dX12_fail_1 : decode cX12_fail 1 = .ok (.iload_n 1, 1) := by decide +kernel
theorem dX12_fail_2 : decode cX12_fail 2 = .ok (.putfield 184, 3) := by decide +kernel
theorem dX12_fail_5 : decode cX12_fail 5 = .ok (.iconst 0, 1) := by decide +kernel
theorem dX12_fail_6 : decode cX12_fail 6 = .ok (.ireturn, 1) := by decide +kernel
theorem dX12_isIn_0 : decode cX12_isIn 0 = .ok (.lload_n 0, 1) := by decide +kernel
theorem dX12_isIn_1 : decode cX12_isIn 1 = .ok (.lload_n 2, 1) := by decide +kernel
theorem dX12_isIn_2 : decode cX12_isIn 2 = .ok (.lcmp, 1) := by decide +kernel
theorem dX12_isIn_3 : decode cX12_isIn 3 = .ok (.ifCond .lt 14, 3) := by decide +kernel
theorem dX12_isIn_6 : decode cX12_isIn 6 = .ok (.lload_n 0, 1) := by decide +kernel
theorem dX12_isIn_7 : decode cX12_isIn 7 = .ok (.lload 4, 2) := by decide +kernel
theorem dX12_isIn_9 : decode cX12_isIn 9 = .ok (.lcmp, 1) := by decide +kernel
theorem dX12_isIn_10 : decode cX12_isIn 10 = .ok (.ifCond .gt 7, 3) := by decide +kernel
theorem dX12_isIn_13 : decode cX12_isIn 13 = .ok (.iconst 1, 1) := by decide +kernel
theorem dX12_isIn_14 : decode cX12_isIn 14 = .ok (.goto 4, 3) := by decide +kernel
theorem dX12_isIn_17 : decode cX12_isIn 17 = .ok (.iconst 0, 1) := by decide +kernel
theorem dX12_isIn_18 : decode cX12_isIn 18 = .ok (.ireturn, 1) := by decide +kernel
theorem dX12_isOf_0 : decode cX12_isOf 0 = .ok (.iload_n 0, 1) := by decide +kernel
theorem dX12_isOf_1 : decode cX12_isOf 1 = .ok (.iload_n 1, 1) := by decide +kernel
theorem dX12_isOf_2 : decode cX12_isOf 2 = .ok (.ishr, 1) := by decide +kernel
theorem dX12_isOf_3 : decode cX12_isOf 3 = .ok (.iconst 1, 1) := by decide +kernel
theorem dX12_isOf_4 : decode cX12_isOf 4 = .ok (.iand, 1) := by decide +kernel
theorem dX12_isOf_5 : decode cX12_isOf 5 = .ok (.iconst 1, 1) := by decide +kernel
theorem dX12_isOf_6 : decode cX12_isOf 6 = .ok (.if_icmp .ne 7, 3) := by decide +kernel
theorem dX12_isOf_9 : decode cX12_isOf 9 = .ok (.iconst 1, 1) := by decide +kernel
theorem dX12_isOf_10 : decode cX12_isOf 10 = .ok (.goto 4, 3) := by decide +kernel
theorem dX12_isOf_13 : decode cX12_isOf 13 = .ok (.iconst 0, 1) := by decide +kernel
theorem dX12_isOf_14 : decode cX12_isOf 14 = .ok (.ireturn, 1) := by decide +kernel
theorem dX12_bitsOf_0 : decode cX12_bitsOf 0 = .ok (.iconst 0, 1) := by decide +kernel
theorem dX12_bitsOf_1 : decode cX12_bitsOf 1 = .ok (.istore_n 1, 1) := by decide +kernel
theorem dX12_bitsOf_2 : decode cX12_bitsOf 2 = .ok (.iload_n 0, 1) := by decide +kernel
theorem dX12_bitsOf_3 : decode cX12_bitsOf 3 = .ok (.istore_n 2, 1) := by decide +kernel
theorem dX12_bitsOf_4 : decode cX12_bitsOf 4 = .ok (.iload_n 2, 1) := by decide +kernel
theorem dX12_bitsOf_5 : decode cX12_bitsOf 5 = .ok (.ifCond .eq 15, 3) := by decide +kernel
theorem dX12_bitsOf_8 : decode cX12_bitsOf 8 = .ok (.iinc 1 1, 3) := by decide +kernel
theorem dX12_bitsOf_11 : decode cX12_bitsOf 11 = .ok (.iload_n 2, 1) := by decide +kernel
theorem dX12_bitsOf_12 : decode cX12_bitsOf 12 = .ok (.iload_n 2, 1) := by decide +kernel
theorem dX12_bitsOf_13 : decode cX12_bitsOf 13 = .ok (.iconst 1, 1) := by decide +kernel
theorem dX12_bitsOf_14 : decode cX12_bitsOf 14 = .ok (.isub, 1) := by decide +kernel
theorem dX12_bitsOf_15 : decode cX12_bitsOf 15 = .ok (.iand, 1) := by decide +kernel
theorem dX12_bitsOf_16 : decode cX12_bitsOf 16 = .ok (.istore_n 2, 1) := by decide +kernel
theorem dX12_bitsOf_17 : decode cX12_bitsOf 17 = .ok (.goto (-13), 3) := by decide +kernel
theorem dX12_bitsOf_20 : decode cX12_bitsOf 20 = .ok (.iload_n 1, 1) := by decide +kernel
theorem dX12_bitsOf_21 : decode cX12_bitsOf 21 = .ok (.ireturn, 1) := by decide +kernel
theorem dX12_isPerson_0 : decode cX12_isPerson 0 = .ok (.iload_n 1, 1) := by decide +kernel
theorem dX12_isPerson_1 : decode cX12_isPerson 1 = .ok (.i2l, 1) := by decide +kernel
theorem dX12_isPerson_2 : decode cX12_isPerson 2 = .ok (.lconst 0, 1) := by decide +kernel
theorem dX12_isPerson_3 : decode cX12_isPerson 3 = .ok (.aload_n 0, 1) := by decide +kernel
theorem dX12_isPerson_4 : decode cX12_isPerson 4 = .ok (.getfield 48, 3) := by decide +kernel
theorem dX12_isPerson_7 : decode cX12_isPerson 7 = .ok (.iconst 0, 1) := by decide +kernel
theorem dX12_isPerson_8 : decode cX12_isPerson 8 = .ok (.iaload, 1) := by decide +kernel
theorem dX12_isPerson_9 : decode cX12_isPerson 9 = .ok (.iconst 1, 1) := by decide +kernel
theorem dX12_isPerson_10 : decode cX12_isPerson 10 = .ok (.isub, 1) := by decide +kernel
theorem dX12_isPerson_11 : decode cX12_isPerson 11 = .ok (.i2l, 1) := by decide +kernel
theorem dX12_isPerson_12 : decode cX12_isPerson 12 = .ok (.invokestatic 187, 3) := by decide +kernel
theorem dX12_isPerson_15 : decode cX12_isPerson 15 = .ok (.ireturn, 1) := by decide +kernel
theorem dX12_isBride_0 : decode cX12_isBride 0 = .ok (.iload_n 1, 1) := by decide +kernel
theorem dX12_isBride_1 : decode cX12_isBride 1 = .ok (.i2l, 1) := by decide +kernel
theorem dX12_isBride_2 : decode cX12_isBride 2 = .ok (.lconst 0, 1) := by decide +kernel
theorem dX12_isBride_3 : decode cX12_isBride 3 = .ok (.aload_n 0, 1) := by decide +kernel
theorem dX12_isBride_4 : decode cX12_isBride 4 = .ok (.getfield 48, 3) := by decide +kernel
theorem dX12_isBride_7 : decode cX12_isBride 7 = .ok (.iconst 1, 1) := by decide +kernel
theorem dX12_isBride_8 : decode cX12_isBride 8 = .ok (.iaload, 1) := by decide +kernel
theorem dX12_isBride_9 : decode cX12_isBride 9 = .ok (.iconst 1, 1) := by decide +kernel
theorem dX12_isBride_10 : decode cX12_isBride 10 = .ok (.isub, 1) := by decide +kernel
theorem dX12_isBride_11 : decode cX12_isBride 11 = .ok (.i2l, 1) := by decide +kernel
theorem dX12_isBride_12 : decode cX12_isBride 12 = .ok (.invokestatic 187, 3) := by decide +kernel
theorem dX12_isBride_15 : decode cX12_isBride 15 = .ok (.ireturn, 1) := by decide +kernel
theorem dX12_feed_0 : decode cX12_feed 0 = .ok (.aload_n 0, 1) := by decide +kernel
theorem dX12_feed_1 : decode cX12_feed 1 = .ok (.iconst 0, 1) := by decide +kernel
theorem dX12_feed_2 : decode cX12_feed 2 = .ok (.putfield 184, 3) := by decide +kernel
theorem dX12_feed_5 : decode cX12_feed 5 = .ok (.aload_n 0, 1) := by decide +kernel
theorem dX12_feed_6 : decode cX12_feed 6 = .ok (.getfield 191, 3) := by decide +kernel
theorem dX12_feed_9 : decode cX12_feed 9 = .ok (.bipush 20, 2) := by decide +kernel
theorem dX12_feed_11 : decode cX12_feed 11 = .ok (.iadd, 1) := by decide +kernel
theorem dX12_feed_12 : decode cX12_feed 12 = .ok (.sipush 700, 3) := by decide +kernel
theorem dX12_feed_15 : decode cX12_feed 15 = .ok (.if_icmp .le 5, 3) := by decide +kernel
theorem dX12_feed_18 : decode cX12_feed 18 = .ok (.iconst (-1), 1) := by decide +kernel
theorem dX12_feed_19 : decode cX12_feed 19 = .ok (.ireturn, 1) := by decide +kernel
theorem dX12_feed_20 : decode cX12_feed 20 = .ok (.iconst 0, 1) := by decide +kernel
theorem dX12_feed_21 : decode cX12_feed 21 = .ok (.istore 6, 2) := by decide +kernel
theorem dX12_feed_23 : decode cX12_feed 23 = .ok (.iload 6, 2) := by decide +kernel
theorem dX12_feed_25 : decode cX12_feed 25 = .ok (.bipush 20, 2) := by decide +kernel
theorem dX12_feed_27 : decode cX12_feed 27 = .ok (.if_icmp .ge 93, 3) := by decide +kernel
theorem dX12_feed_30 : decode cX12_feed 30 = .ok (.iload 6, 2) := by decide +kernel
theorem dX12_feed_32 : decode cX12_feed 32 = .ok (.iconst 4, 1) := by decide +kernel
theorem dX12_feed_33 : decode cX12_feed 33 = .ok (.if_icmp .ge 7, 3) := by decide +kernel
theorem dX12_feed_36 : decode cX12_feed 36 = .ok (.iload_n 1, 1) := by decide +kernel
theorem dX12_feed_37 : decode cX12_feed 37 = .ok (.goto 39, 3) := by decide +kernel
theorem dX12_feed_40 : decode cX12_feed 40 = .ok (.iload 6, 2) := by decide +kernel
theorem dX12_feed_42 : decode cX12_feed 42 = .ok (.bipush 8, 2) := by decide +kernel
theorem dX12_feed_44 : decode cX12_feed 44 = .ok (.if_icmp .ge 7, 3) := by decide +kernel
theorem dX12_feed_47 : decode cX12_feed 47 = .ok (.iload_n 2, 1) := by decide +kernel
theorem dX12_feed_48 : decode cX12_feed 48 = .ok (.goto 28, 3) := by decide +kernel
theorem dX12_feed_51 : decode cX12_feed 51 = .ok (.iload 6, 2) := by decide +kernel
theorem dX12_feed_53 : decode cX12_feed 53 = .ok (.bipush 12, 2) := by decide +kernel
theorem dX12_feed_55 : decode cX12_feed 55 = .ok (.if_icmp .ge 7, 3) := by decide +kernel
theorem dX12_feed_58 : decode cX12_feed 58 = .ok (.iload_n 3, 1) := by decide +kernel
theorem dX12_feed_59 : decode cX12_feed 59 = .ok (.goto 17, 3) := by decide +kernel
theorem dX12_feed_62 : decode cX12_feed 62 = .ok (.iload 6, 2) := by decide +kernel
theorem dX12_feed_64 : decode cX12_feed 64 = .ok (.bipush 16, 2) := by decide +kernel
theorem dX12_feed_66 : decode cX12_feed 66 = .ok (.if_icmp .ge 8, 3) := by decide +kernel
theorem dX12_feed_69 : decode cX12_feed 69 = .ok (.iload 4, 2) := by decide +kernel
theorem dX12_feed_71 : decode cX12_feed 71 = .ok (.goto 5, 3) := by decide +kernel
theorem dX12_feed_74 : decode cX12_feed 74 = .ok (.iload 5, 2) := by decide +kernel
theorem dX12_feed_76 : decode cX12_feed 76 = .ok (.istore 7, 2) := by decide +kernel
theorem dX12_feed_78 : decode cX12_feed 78 = .ok (.aload_n 0, 1) := by decide +kernel
theorem dX12_feed_79 : decode cX12_feed 79 = .ok (.getfield 78, 3) := by decide +kernel
theorem dX12_feed_82 : decode cX12_feed 82 = .ok (.aload_n 0, 1) := by decide +kernel
theorem dX12_feed_83 : decode cX12_feed 83 = .ok (.getfield 191, 3) := by decide +kernel
theorem dX12_feed_86 : decode cX12_feed 86 = .ok (.iload 7, 2) := by decide +kernel
theorem dX12_feed_88 : decode cX12_feed 88 = .ok (.bipush 24, 2) := by decide +kernel
theorem dX12_feed_90 : decode cX12_feed 90 = .ok (.bipush 8, 2) := by decide +kernel
theorem dX12_feed_92 : decode cX12_feed 92 = .ok (.iload 6, 2) := by decide +kernel
theorem dX12_feed_94 : decode cX12_feed 94 = .ok (.iconst 4, 1) := by decide +kernel
theorem dX12_feed_95 : decode cX12_feed 95 = .ok (.irem, 1) := by decide +kernel
theorem dX12_feed_96 : decode cX12_feed 96 = .ok (.imul, 1) := by decide +kernel
theorem dX12_feed_97 : decode cX12_feed 97 = .ok (.isub, 1) := by decide +kernel
theorem dX12_feed_98 : decode cX12_feed 98 = .ok (.ishr, 1) := by decide +kernel
theorem dX12_feed_99 : decode cX12_feed 99 = .ok (.sipush 255, 3) := by decide +kernel
theorem dX12_feed_102 : decode cX12_feed 102 = .ok (.iand, 1) := by decide +kernel
theorem dX12_feed_103 : decode cX12_feed 103 = .ok (.iastore, 1) := by decide +kernel
theorem dX12_feed_104 : decode cX12_feed 104 = .ok (.aload_n 0, 1) := by decide +kernel
theorem dX12_feed_105 : decode cX12_feed 105 = .ok (.dup, 1) := by decide +kernel
theorem dX12_feed_106 : decode cX12_feed 106 = .ok (.getfield 191, 3) := by decide +kernel
theorem dX12_feed_109 : decode cX12_feed 109 = .ok (.iconst 1, 1) := by decide +kernel
theorem dX12_feed_110 : decode cX12_feed 110 = .ok (.iadd, 1) := by decide +kernel
theorem dX12_feed_111 : decode cX12_feed 111 = .ok (.putfield 191, 3) := by decide +kernel
theorem dX12_feed_114 : decode cX12_feed 114 = .ok (.iinc 6 1, 3) := by decide +kernel
theorem dX12_feed_117 : decode cX12_feed 117 = .ok (.goto (-94), 3) := by decide +kernel
theorem dX12_feed_120 : decode cX12_feed 120 = .ok (.aload_n 0, 1) := by decide +kernel
theorem dX12_feed_121 : decode cX12_feed 121 = .ok (.getfield 191, 3) := by decide +kernel
theorem dX12_feed_124 : decode cX12_feed 124 = .ok (.ireturn, 1) := by decide +kernel
theorem dX12_byteAt_0 : decode cX12_byteAt 0 = .ok (.iload_n 1, 1) := by decide +kernel
theorem dX12_byteAt_1 : decode cX12_byteAt 1 = .ok (.aload_n 0, 1) := by decide +kernel
theorem dX12_byteAt_2 : decode cX12_byteAt 2 = .ok (.getfield 194, 3) := by decide +kernel
theorem dX12_byteAt_5 : decode cX12_byteAt 5 = .ok (.if_icmp .ge 12, 3) := by decide +kernel
theorem dX12_byteAt_8 : decode cX12_byteAt 8 = .ok (.aload_n 0, 1) := by decide +kernel
theorem dX12_byteAt_9 : decode cX12_byteAt 9 = .ok (.getfield 78, 3) := by decide +kernel
theorem dX12_byteAt_12 : decode cX12_byteAt 12 = .ok (.iload_n 1, 1) := by decide +kernel
theorem dX12_byteAt_13 : decode cX12_byteAt 13 = .ok (.iaload, 1) := by decide +kernel
theorem dX12_byteAt_14 : decode cX12_byteAt 14 = .ok (.goto 4, 3) := by decide +kernel
theorem dX12_byteAt_17 : decode cX12_byteAt 17 = .ok (.iconst (-1), 1) := by decide +kernel
theorem dX12_byteAt_18 : decode cX12_byteAt 18 = .ok (.ireturn, 1) := by decide +kernel
theorem dX12_isLetter_0 : decode cX12_isLetter 0 = .ok (.iload_n 0, 1) := by decide +kernel
theorem dX12_isLetter_1 : decode cX12_isLetter 1 = .ok (.bipush 97, 2) := by decide +kernel
theorem dX12_isLetter_3 : decode cX12_isLetter 3 = .ok (.if_icmp .lt 13, 3) := by decide +kernel
theorem dX12_isLetter_6 : decode cX12_isLetter 6 = .ok (.iload_n 0, 1) := by decide +kernel
theorem dX12_isLetter_7 : decode cX12_isLetter 7 = .ok (.bipush 122, 2) := by decide +kernel
theorem dX12_isLetter_9 : decode cX12_isLetter 9 = .ok (.if_icmp .gt 7, 3) := by decide +kernel
theorem dX12_isLetter_12 : decode cX12_isLetter 12 = .ok (.iconst 1, 1) := by decide +kernel
theorem dX12_isLetter_13 : decode cX12_isLetter 13 = .ok (.goto 4, 3) := by decide +kernel
theorem dX12_isLetter_16 : decode cX12_isLetter 16 = .ok (.iconst 0, 1) := by decide +kernel
theorem dX12_isLetter_17 : decode cX12_isLetter 17 = .ok (.ireturn, 1) := by decide +kernel
theorem dX12_isDigit_0 : decode cX12_isDigit 0 = .ok (.iload_n 0, 1) := by decide +kernel
theorem dX12_isDigit_1 : decode cX12_isDigit 1 = .ok (.bipush 48, 2) := by decide +kernel
theorem dX12_isDigit_3 : decode cX12_isDigit 3 = .ok (.if_icmp .lt 13, 3) := by decide +kernel
theorem dX12_isDigit_6 : decode cX12_isDigit 6 = .ok (.iload_n 0, 1) := by decide +kernel
theorem dX12_isDigit_7 : decode cX12_isDigit 7 = .ok (.bipush 57, 2) := by decide +kernel
theorem dX12_isDigit_9 : decode cX12_isDigit 9 = .ok (.if_icmp .gt 7, 3) := by decide +kernel
theorem dX12_isDigit_12 : decode cX12_isDigit 12 = .ok (.iconst 1, 1) := by decide +kernel
theorem dX12_isDigit_13 : decode cX12_isDigit 13 = .ok (.goto 4, 3) := by decide +kernel
theorem dX12_isDigit_16 : decode cX12_isDigit 16 = .ok (.iconst 0, 1) := by decide +kernel
theorem dX12_isDigit_17 : decode cX12_isDigit 17 = .ok (.ireturn, 1) := by decide +kernel
theorem dX12_isMark_0 : decode cX12_isMark 0 = .ok (.iload_n 0, 1) := by decide +kernel
theorem dX12_isMark_1 : decode cX12_isMark 1 = .ok (.bipush 59, 2) := by decide +kernel
theorem dX12_isMark_3 : decode cX12_isMark 3 = .ok (.if_icmp .eq 51, 3) := by decide +kernel
theorem dX12_isMark_6 : decode cX12_isMark 6 = .ok (.iload_n 0, 1) := by decide +kernel
theorem dX12_isMark_7 : decode cX12_isMark 7 = .ok (.bipush 40, 2) := by decide +kernel
theorem dX12_isMark_9 : decode cX12_isMark 9 = .ok (.if_icmp .eq 45, 3) := by decide +kernel
theorem dX12_isMark_12 : decode cX12_isMark 12 = .ok (.iload_n 0, 1) := by decide +kernel
theorem dX12_isMark_13 : decode cX12_isMark 13 = .ok (.bipush 41, 2) := by decide +kernel
theorem dX12_isMark_15 : decode cX12_isMark 15 = .ok (.if_icmp .eq 39, 3) := by decide +kernel
theorem dX12_isMark_18 : decode cX12_isMark 18 = .ok (.iload_n 0, 1) := by decide +kernel
theorem dX12_isMark_19 : decode cX12_isMark 19 = .ok (.bipush 43, 2) := by decide +kernel
theorem dX12_isMark_21 : decode cX12_isMark 21 = .ok (.if_icmp .eq 33, 3) := by decide +kernel
theorem dX12_isMark_24 : decode cX12_isMark 24 = .ok (.iload_n 0, 1) := by decide +kernel
theorem dX12_isMark_25 : decode cX12_isMark 25 = .ok (.bipush 45, 2) := by decide +kernel
theorem dX12_isMark_27 : decode cX12_isMark 27 = .ok (.if_icmp .eq 27, 3) := by decide +kernel
theorem dX12_isMark_30 : decode cX12_isMark 30 = .ok (.iload_n 0, 1) := by decide +kernel
theorem dX12_isMark_31 : decode cX12_isMark 31 = .ok (.bipush 42, 2) := by decide +kernel
theorem dX12_isMark_33 : decode cX12_isMark 33 = .ok (.if_icmp .eq 21, 3) := by decide +kernel
theorem dX12_isMark_36 : decode cX12_isMark 36 = .ok (.iload_n 0, 1) := by decide +kernel
theorem dX12_isMark_37 : decode cX12_isMark 37 = .ok (.bipush 47, 2) := by decide +kernel
theorem dX12_isMark_39 : decode cX12_isMark 39 = .ok (.if_icmp .eq 15, 3) := by decide +kernel
theorem dX12_isMark_42 : decode cX12_isMark 42 = .ok (.iload_n 0, 1) := by decide +kernel
theorem dX12_isMark_43 : decode cX12_isMark 43 = .ok (.bipush 60, 2) := by decide +kernel
theorem dX12_isMark_45 : decode cX12_isMark 45 = .ok (.if_icmp .eq 9, 3) := by decide +kernel
theorem dX12_isMark_48 : decode cX12_isMark 48 = .ok (.iload_n 0, 1) := by decide +kernel
theorem dX12_isMark_49 : decode cX12_isMark 49 = .ok (.bipush 61, 2) := by decide +kernel
theorem dX12_isMark_51 : decode cX12_isMark 51 = .ok (.if_icmp .ne 7, 3) := by decide +kernel
theorem dX12_isMark_54 : decode cX12_isMark 54 = .ok (.iconst 1, 1) := by decide +kernel
theorem dX12_isMark_55 : decode cX12_isMark 55 = .ok (.goto 4, 3) := by decide +kernel
theorem dX12_isMark_58 : decode cX12_isMark 58 = .ok (.iconst 0, 1) := by decide +kernel
theorem dX12_isMark_59 : decode cX12_isMark 59 = .ok (.ireturn, 1) := by decide +kernel
theorem dX12_stepOn_0 : decode cX12_stepOn 0 = .ok (.aload_n 0, 1) := by decide +kernel
theorem dX12_stepOn_1 : decode cX12_stepOn 1 = .ok (.aload_n 0, 1) := by decide +kernel
theorem dX12_stepOn_2 : decode cX12_stepOn 2 = .ok (.getfield 197, 3) := by decide +kernel
theorem dX12_stepOn_5 : decode cX12_stepOn 5 = .ok (.invokevirtual 200, 3) := by decide +kernel
theorem dX12_stepOn_8 : decode cX12_stepOn 8 = .ok (.bipush 32, 2) := by decide +kernel
theorem dX12_stepOn_10 : decode cX12_stepOn 10 = .ok (.if_icmp .eq 16, 3) := by decide +kernel
theorem dX12_stepOn_13 : decode cX12_stepOn 13 = .ok (.aload_n 0, 1) := by decide +kernel
theorem dX12_stepOn_14 : decode cX12_stepOn 14 = .ok (.aload_n 0, 1) := by decide +kernel
theorem dX12_stepOn_15 : decode cX12_stepOn 15 = .ok (.getfield 197, 3) := by decide +kernel
theorem dX12_stepOn_18 : decode cX12_stepOn 18 = .ok (.invokevirtual 200, 3) := by decide +kernel
theorem dX12_stepOn_21 : decode cX12_stepOn 21 = .ok (.bipush 10, 2) := by decide +kernel
theorem dX12_stepOn_23 : decode cX12_stepOn 23 = .ok (.if_icmp .ne 16, 3) := by decide +kernel
theorem dX12_stepOn_26 : decode cX12_stepOn 26 = .ok (.aload_n 0, 1) := by decide +kernel
theorem dX12_stepOn_27 : decode cX12_stepOn 27 = .ok (.dup, 1) := by decide +kernel
theorem dX12_stepOn_28 : decode cX12_stepOn 28 = .ok (.getfield 197, 3) := by decide +kernel
theorem dX12_stepOn_31 : decode cX12_stepOn 31 = .ok (.iconst 1, 1) := by decide +kernel
theorem dX12_stepOn_32 : decode cX12_stepOn 32 = .ok (.iadd, 1) := by decide +kernel
theorem dX12_stepOn_33 : decode cX12_stepOn 33 = .ok (.putfield 197, 3) := by decide +kernel
theorem dX12_stepOn_36 : decode cX12_stepOn 36 = .ok (.goto (-36), 3) := by decide +kernel
theorem dX12_stepOn_39 : decode cX12_stepOn 39 = .ok (.aload_n 0, 1) := by decide +kernel
theorem dX12_stepOn_40 : decode cX12_stepOn 40 = .ok (.aload_n 0, 1) := by decide +kernel
theorem dX12_stepOn_41 : decode cX12_stepOn 41 = .ok (.getfield 197, 3) := by decide +kernel
theorem dX12_stepOn_44 : decode cX12_stepOn 44 = .ok (.putfield 204, 3) := by decide +kernel
theorem dX12_stepOn_47 : decode cX12_stepOn 47 = .ok (.aload_n 0, 1) := by decide +kernel
theorem dX12_stepOn_48 : decode cX12_stepOn 48 = .ok (.aload_n 0, 1) := by decide +kernel
theorem dX12_stepOn_49 : decode cX12_stepOn 49 = .ok (.getfield 197, 3) := by decide +kernel
theorem dX12_stepOn_52 : decode cX12_stepOn 52 = .ok (.invokevirtual 200, 3) := by decide +kernel
theorem dX12_stepOn_55 : decode cX12_stepOn 55 = .ok (.istore_n 1, 1) := by decide +kernel
theorem dX12_stepOn_56 : decode cX12_stepOn 56 = .ok (.iload_n 1, 1) := by decide +kernel
theorem dX12_stepOn_57 : decode cX12_stepOn 57 = .ok (.iconst (-1), 1) := by decide +kernel
theorem dX12_stepOn_58 : decode cX12_stepOn 58 = .ok (.if_icmp .ne 11, 3) := by decide +kernel
theorem dX12_stepOn_61 : decode cX12_stepOn 61 = .ok (.aload_n 0, 1) := by decide +kernel
theorem dX12_stepOn_62 : decode cX12_stepOn 62 = .ok (.iconst 0, 1) := by decide +kernel
theorem dX12_stepOn_63 : decode cX12_stepOn 63 = .ok (.putfield 207, 3) := by decide +kernel
theorem dX12_stepOn_66 : decode cX12_stepOn 66 = .ok (.goto 146, 3) := by decide +kernel
theorem dX12_stepOn_69 : decode cX12_stepOn 69 = .ok (.iload_n 1, 1) := by decide +kernel
theorem dX12_stepOn_70 : decode cX12_stepOn 70 = .ok (.invokestatic 210, 3) := by decide +kernel
theorem dX12_stepOn_73 : decode cX12_stepOn 73 = .ok (.ifCond .eq 38, 3) := by decide +kernel
theorem dX12_stepOn_76 : decode cX12_stepOn 76 = .ok (.aload_n 0, 1) := by decide +kernel
theorem dX12_stepOn_77 : decode cX12_stepOn 77 = .ok (.aload_n 0, 1) := by decide +kernel
theorem dX12_stepOn_78 : decode cX12_stepOn 78 = .ok (.getfield 197, 3) := by decide +kernel
theorem dX12_stepOn_81 : decode cX12_stepOn 81 = .ok (.invokevirtual 200, 3) := by decide +kernel
theorem dX12_stepOn_84 : decode cX12_stepOn 84 = .ok (.invokestatic 210, 3) := by decide +kernel
theorem dX12_stepOn_87 : decode cX12_stepOn 87 = .ok (.ifCond .eq 16, 3) := by decide +kernel
theorem dX12_stepOn_90 : decode cX12_stepOn 90 = .ok (.aload_n 0, 1) := by decide +kernel
theorem dX12_stepOn_91 : decode cX12_stepOn 91 = .ok (.dup, 1) := by decide +kernel
theorem dX12_stepOn_92 : decode cX12_stepOn 92 = .ok (.getfield 197, 3) := by decide +kernel
theorem dX12_stepOn_95 : decode cX12_stepOn 95 = .ok (.iconst 1, 1) := by decide +kernel
theorem dX12_stepOn_96 : decode cX12_stepOn 96 = .ok (.iadd, 1) := by decide +kernel
theorem dX12_stepOn_97 : decode cX12_stepOn 97 = .ok (.putfield 197, 3) := by decide +kernel
theorem dX12_stepOn_100 : decode cX12_stepOn 100 = .ok (.goto (-24), 3) := by decide +kernel
theorem dX12_stepOn_103 : decode cX12_stepOn 103 = .ok (.aload_n 0, 1) := by decide +kernel
theorem dX12_stepOn_104 : decode cX12_stepOn 104 = .ok (.iconst 1, 1) := by decide +kernel
theorem dX12_stepOn_105 : decode cX12_stepOn 105 = .ok (.putfield 207, 3) := by decide +kernel
theorem dX12_stepOn_108 : decode cX12_stepOn 108 = .ok (.goto 104, 3) := by decide +kernel
theorem dX12_stepOn_111 : decode cX12_stepOn 111 = .ok (.iload_n 1, 1) := by decide +kernel
theorem dX12_stepOn_112 : decode cX12_stepOn 112 = .ok (.invokestatic 214, 3) := by decide +kernel
theorem dX12_stepOn_115 : decode cX12_stepOn 115 = .ok (.ifCond .eq 71, 3) := by decide +kernel
theorem dX12_stepOn_118 : decode cX12_stepOn 118 = .ok (.aload_n 0, 1) := by decide +kernel
theorem dX12_stepOn_119 : decode cX12_stepOn 119 = .ok (.iconst 0, 1) := by decide +kernel
theorem dX12_stepOn_120 : decode cX12_stepOn 120 = .ok (.putfield 217, 3) := by decide +kernel
theorem dX12_stepOn_123 : decode cX12_stepOn 123 = .ok (.aload_n 0, 1) := by decide +kernel
theorem dX12_stepOn_124 : decode cX12_stepOn 124 = .ok (.aload_n 0, 1) := by decide +kernel
theorem dX12_stepOn_125 : decode cX12_stepOn 125 = .ok (.getfield 197, 3) := by decide +kernel
theorem dX12_stepOn_128 : decode cX12_stepOn 128 = .ok (.invokevirtual 200, 3) := by decide +kernel
theorem dX12_stepOn_131 : decode cX12_stepOn 131 = .ok (.invokestatic 214, 3) := by decide +kernel
theorem dX12_stepOn_134 : decode cX12_stepOn 134 = .ok (.ifCond .eq 44, 3) := by decide +kernel
theorem dX12_stepOn_137 : decode cX12_stepOn 137 = .ok (.aload_n 0, 1) := by decide +kernel
theorem dX12_stepOn_138 : decode cX12_stepOn 138 = .ok (.ldc 220, 2) := by decide +kernel
theorem dX12_stepOn_140 : decode cX12_stepOn 140 = .ok (.bipush 10, 2) := by decide +kernel
theorem dX12_stepOn_142 : decode cX12_stepOn 142 = .ok (.aload_n 0, 1) := by decide +kernel
theorem dX12_stepOn_143 : decode cX12_stepOn 143 = .ok (.getfield 217, 3) := by decide +kernel
theorem dX12_stepOn_146 : decode cX12_stepOn 146 = .ok (.imul, 1) := by decide +kernel
theorem dX12_stepOn_147 : decode cX12_stepOn 147 = .ok (.aload_n 0, 1) := by decide +kernel
theorem dX12_stepOn_148 : decode cX12_stepOn 148 = .ok (.aload_n 0, 1) := by decide +kernel
theorem dX12_stepOn_149 : decode cX12_stepOn 149 = .ok (.getfield 197, 3) := by decide +kernel
theorem dX12_stepOn_152 : decode cX12_stepOn 152 = .ok (.invokevirtual 200, 3) := by decide +kernel
theorem dX12_stepOn_155 : decode cX12_stepOn 155 = .ok (.iadd, 1) := by decide +kernel
theorem dX12_stepOn_156 : decode cX12_stepOn 156 = .ok (.bipush 48, 2) := by decide +kernel
theorem dX12_stepOn_158 : decode cX12_stepOn 158 = .ok (.isub, 1) := by decide +kernel
theorem dX12_stepOn_159 : decode cX12_stepOn 159 = .ok (.invokestatic 221, 3) := by decide +kernel
theorem dX12_stepOn_162 : decode cX12_stepOn 162 = .ok (.putfield 217, 3) := by decide +kernel
theorem dX12_stepOn_165 : decode cX12_stepOn 165 = .ok (.aload_n 0, 1) := by decide +kernel
theorem dX12_stepOn_166 : decode cX12_stepOn 166 = .ok (.dup, 1) := by decide +kernel
theorem dX12_stepOn_167 : decode cX12_stepOn 167 = .ok (.getfield 197, 3) := by decide +kernel
theorem dX12_stepOn_170 : decode cX12_stepOn 170 = .ok (.iconst 1, 1) := by decide +kernel
theorem dX12_stepOn_171 : decode cX12_stepOn 171 = .ok (.iadd, 1) := by decide +kernel
theorem dX12_stepOn_172 : decode cX12_stepOn 172 = .ok (.putfield 197, 3) := by decide +kernel
theorem dX12_stepOn_175 : decode cX12_stepOn 175 = .ok (.goto (-52), 3) := by decide +kernel
theorem dX12_stepOn_178 : decode cX12_stepOn 178 = .ok (.aload_n 0, 1) := by decide +kernel
theorem dX12_stepOn_179 : decode cX12_stepOn 179 = .ok (.iconst 2, 1) := by decide +kernel
theorem dX12_stepOn_180 : decode cX12_stepOn 180 = .ok (.putfield 207, 3) := by decide +kernel
theorem dX12_stepOn_183 : decode cX12_stepOn 183 = .ok (.goto 29, 3) := by decide +kernel
theorem dX12_stepOn_186 : decode cX12_stepOn 186 = .ok (.aload_n 0, 1) := by decide +kernel
theorem dX12_stepOn_187 : decode cX12_stepOn 187 = .ok (.dup, 1) := by decide +kernel
theorem dX12_stepOn_188 : decode cX12_stepOn 188 = .ok (.getfield 197, 3) := by decide +kernel
theorem dX12_stepOn_191 : decode cX12_stepOn 191 = .ok (.iconst 1, 1) := by decide +kernel
theorem dX12_stepOn_192 : decode cX12_stepOn 192 = .ok (.iadd, 1) := by decide +kernel
theorem dX12_stepOn_193 : decode cX12_stepOn 193 = .ok (.putfield 197, 3) := by decide +kernel
theorem dX12_stepOn_196 : decode cX12_stepOn 196 = .ok (.aload_n 0, 1) := by decide +kernel
theorem dX12_stepOn_197 : decode cX12_stepOn 197 = .ok (.iload_n 1, 1) := by decide +kernel
theorem dX12_stepOn_198 : decode cX12_stepOn 198 = .ok (.invokestatic 227, 3) := by decide +kernel
theorem dX12_stepOn_201 : decode cX12_stepOn 201 = .ok (.ifCond .eq 7, 3) := by decide +kernel
theorem dX12_stepOn_204 : decode cX12_stepOn 204 = .ok (.iconst 3, 1) := by decide +kernel
theorem dX12_stepOn_205 : decode cX12_stepOn 205 = .ok (.goto 4, 3) := by decide +kernel
theorem dX12_stepOn_208 : decode cX12_stepOn 208 = .ok (.iconst 4, 1) := by decide +kernel
theorem dX12_stepOn_209 : decode cX12_stepOn 209 = .ok (.putfield 207, 3) := by decide +kernel
theorem dX12_stepOn_212 : decode cX12_stepOn 212 = .ok (.aload_n 0, 1) := by decide +kernel
theorem dX12_stepOn_213 : decode cX12_stepOn 213 = .ok (.aload_n 0, 1) := by decide +kernel
theorem dX12_stepOn_214 : decode cX12_stepOn 214 = .ok (.getfield 197, 3) := by decide +kernel
theorem dX12_stepOn_217 : decode cX12_stepOn 217 = .ok (.putfield 230, 3) := by decide +kernel
theorem dX12_stepOn_220 : decode cX12_stepOn 220 = .ok (.return_, 1) := by decide +kernel
theorem dX12_wrong_0 : decode cX12_wrong 0 = .ok (.aload_n 0, 1) := by decide +kernel
theorem dX12_wrong_1 : decode cX12_wrong 1 = .ok (.getfield 233, 3) := by decide +kernel
theorem dX12_wrong_4 : decode cX12_wrong 4 = .ok (.ifCond .eq 4, 3) := by decide +kernel
theorem dX12_wrong_7 : decode cX12_wrong 7 = .ok (.return_, 1) := by decide +kernel
theorem dX12_wrong_8 : decode cX12_wrong 8 = .ok (.aload_n 0, 1) := by decide +kernel
theorem dX12_wrong_9 : decode cX12_wrong 9 = .ok (.iload_n 1, 1) := by decide +kernel
theorem dX12_wrong_10 : decode cX12_wrong 10 = .ok (.putfield 233, 3) := by decide +kernel
theorem dX12_wrong_13 : decode cX12_wrong 13 = .ok (.aload_n 0, 1) := by decide +kernel
theorem dX12_wrong_14 : decode cX12_wrong 14 = .ok (.aload_n 0, 1) := by decide +kernel
theorem dX12_wrong_15 : decode cX12_wrong 15 = .ok (.getfield 204, 3) := by decide +kernel
theorem dX12_wrong_18 : decode cX12_wrong 18 = .ok (.putfield 236, 3) := by decide +kernel
theorem dX12_wrong_21 : decode cX12_wrong 21 = .ok (.return_, 1) := by decide +kernel
theorem dX12_is_0 : decode cX12_is 0 = .ok (.aload_n 0, 1) := by decide +kernel
theorem dX12_is_1 : decode cX12_is 1 = .ok (.getfield 233, 3) := by decide +kernel
theorem dX12_is_4 : decode cX12_is 4 = .ok (.ifCond .ne 31, 3) := by decide +kernel
theorem dX12_is_7 : decode cX12_is 7 = .ok (.aload_n 0, 1) := by decide +kernel
theorem dX12_is_8 : decode cX12_is 8 = .ok (.getfield 207, 3) := by decide +kernel
theorem dX12_is_11 : decode cX12_is 11 = .ok (.iconst 1, 1) := by decide +kernel
theorem dX12_is_12 : decode cX12_is 12 = .ok (.if_icmp .ne 23, 3) := by decide +kernel
theorem dX12_is_15 : decode cX12_is 15 = .ok (.aload_n 1, 1) := by decide +kernel
theorem dX12_is_16 : decode cX12_is 16 = .ok (.invokevirtual 239, 3) := by decide +kernel
theorem dX12_is_19 : decode cX12_is 19 = .ok (.aload_n 0, 1) := by decide +kernel
theorem dX12_is_20 : decode cX12_is 20 = .ok (.getfield 230, 3) := by decide +kernel
theorem dX12_is_23 : decode cX12_is 23 = .ok (.aload_n 0, 1) := by decide +kernel
theorem dX12_is_24 : decode cX12_is 24 = .ok (.getfield 204, 3) := by decide +kernel
theorem dX12_is_27 : decode cX12_is 27 = .ok (.isub, 1) := by decide +kernel
theorem dX12_is_28 : decode cX12_is 28 = .ok (.if_icmp .ne 7, 3) := by decide +kernel
theorem dX12_is_31 : decode cX12_is 31 = .ok (.iconst 1, 1) := by decide +kernel
theorem dX12_is_32 : decode cX12_is 32 = .ok (.goto 4, 3) := by decide +kernel
theorem dX12_is_35 : decode cX12_is 35 = .ok (.iconst 0, 1) := by decide +kernel
theorem dX12_is_36 : decode cX12_is 36 = .ok (.istore_n 2, 1) := by decide +kernel
theorem dX12_is_37 : decode cX12_is 37 = .ok (.iconst 0, 1) := by decide +kernel
theorem dX12_is_38 : decode cX12_is 38 = .ok (.istore_n 3, 1) := by decide +kernel
theorem dX12_is_39 : decode cX12_is 39 = .ok (.iload_n 2, 1) := by decide +kernel
theorem dX12_is_40 : decode cX12_is 40 = .ok (.ifCond .eq 42, 3) := by decide +kernel
theorem dX12_is_43 : decode cX12_is 43 = .ok (.iload_n 3, 1) := by decide +kernel
theorem dX12_is_44 : decode cX12_is 44 = .ok (.aload_n 1, 1) := by decide +kernel
theorem dX12_is_45 : decode cX12_is 45 = .ok (.invokevirtual 239, 3) := by decide +kernel
theorem dX12_is_48 : decode cX12_is 48 = .ok (.if_icmp .ge 34, 3) := by decide +kernel
theorem dX12_is_51 : decode cX12_is 51 = .ok (.aload_n 1, 1) := by decide +kernel
theorem dX12_is_52 : decode cX12_is 52 = .ok (.iload_n 3, 1) := by decide +kernel
theorem dX12_is_53 : decode cX12_is 53 = .ok (.invokevirtual 243, 3) := by decide +kernel
theorem dX12_is_56 : decode cX12_is 56 = .ok (.aload_n 0, 1) := by decide +kernel
theorem dX12_is_57 : decode cX12_is 57 = .ok (.getfield 78, 3) := by decide +kernel
theorem dX12_is_60 : decode cX12_is 60 = .ok (.aload_n 0, 1) := by decide +kernel
theorem dX12_is_61 : decode cX12_is 61 = .ok (.getfield 204, 3) := by decide +kernel
theorem dX12_is_64 : decode cX12_is 64 = .ok (.iload_n 3, 1) := by decide +kernel
theorem dX12_is_65 : decode cX12_is 65 = .ok (.iadd, 1) := by decide +kernel
theorem dX12_is_66 : decode cX12_is 66 = .ok (.iaload, 1) := by decide +kernel
theorem dX12_is_67 : decode cX12_is 67 = .ok (.if_icmp .ne 7, 3) := by decide +kernel
theorem dX12_is_70 : decode cX12_is 70 = .ok (.iconst 1, 1) := by decide +kernel
theorem dX12_is_71 : decode cX12_is 71 = .ok (.goto 4, 3) := by decide +kernel
theorem dX12_is_74 : decode cX12_is 74 = .ok (.iconst 0, 1) := by decide +kernel
theorem dX12_is_75 : decode cX12_is 75 = .ok (.istore_n 2, 1) := by decide +kernel
theorem dX12_is_76 : decode cX12_is 76 = .ok (.iinc 3 1, 3) := by decide +kernel
theorem dX12_is_79 : decode cX12_is 79 = .ok (.goto (-40), 3) := by decide +kernel
theorem dX12_is_82 : decode cX12_is 82 = .ok (.iload_n 2, 1) := by decide +kernel
theorem dX12_is_83 : decode cX12_is 83 = .ok (.ireturn, 1) := by decide +kernel
theorem dX12_which_0 : decode cX12_which 0 = .ok (.iconst 0, 1) := by decide +kernel
theorem dX12_which_1 : decode cX12_which 1 = .ok (.istore_n 2, 1) := by decide +kernel
theorem dX12_which_2 : decode cX12_which 2 = .ok (.iload_n 2, 1) := by decide +kernel
theorem dX12_which_3 : decode cX12_which 3 = .ok (.aload_n 1, 1) := by decide +kernel
theorem dX12_which_4 : decode cX12_which 4 = .ok (.arraylength, 1) := by decide +kernel
theorem dX12_which_5 : decode cX12_which 5 = .ok (.if_icmp .ge 21, 3) := by decide +kernel
theorem dX12_which_8 : decode cX12_which 8 = .ok (.aload_n 0, 1) := by decide +kernel
theorem dX12_which_9 : decode cX12_which 9 = .ok (.aload_n 1, 1) := by decide +kernel
theorem dX12_which_10 : decode cX12_which 10 = .ok (.iload_n 2, 1) := by decide +kernel
theorem dX12_which_11 : decode cX12_which 11 = .ok (.aaload, 1) := by decide +kernel
theorem dX12_which_12 : decode cX12_which 12 = .ok (.invokevirtual 247, 3) := by decide +kernel
theorem dX12_which_15 : decode cX12_which 15 = .ok (.ifCond .eq 5, 3) := by decide +kernel
theorem dX12_which_18 : decode cX12_which 18 = .ok (.iload_n 2, 1) := by decide +kernel
theorem dX12_which_19 : decode cX12_which 19 = .ok (.ireturn, 1) := by decide +kernel
theorem dX12_which_20 : decode cX12_which 20 = .ok (.iinc 2 1, 3) := by decide +kernel
theorem dX12_which_23 : decode cX12_which 23 = .ok (.goto (-21), 3) := by decide +kernel
theorem dX12_which_26 : decode cX12_which 26 = .ok (.iconst (-1), 1) := by decide +kernel
theorem dX12_which_27 : decode cX12_which 27 = .ok (.ireturn, 1) := by decide +kernel
theorem dX12_isMarked_0 : decode cX12_isMarked 0 = .ok (.aload_n 0, 1) := by decide +kernel
theorem dX12_isMarked_1 : decode cX12_isMarked 1 = .ok (.getfield 233, 3) := by decide +kernel
theorem dX12_isMarked_4 : decode cX12_isMarked 4 = .ok (.ifCond .ne 28, 3) := by decide +kernel
theorem dX12_isMarked_7 : decode cX12_isMarked 7 = .ok (.aload_n 0, 1) := by decide +kernel
theorem dX12_isMarked_8 : decode cX12_isMarked 8 = .ok (.getfield 207, 3) := by decide +kernel
theorem dX12_isMarked_11 : decode cX12_isMarked 11 = .ok (.iconst 3, 1) := by decide +kernel
theorem dX12_isMarked_12 : decode cX12_isMarked 12 = .ok (.if_icmp .ne 20, 3) := by decide +kernel
theorem dX12_isMarked_15 : decode cX12_isMarked 15 = .ok (.aload_n 0, 1) := by decide +kernel
theorem dX12_isMarked_16 : decode cX12_isMarked 16 = .ok (.getfield 78, 3) := by decide +kernel
theorem dX12_isMarked_19 : decode cX12_isMarked 19 = .ok (.aload_n 0, 1) := by decide +kernel
theorem dX12_isMarked_20 : decode cX12_isMarked 20 = .ok (.getfield 204, 3) := by decide +kernel
theorem dX12_isMarked_23 : decode cX12_isMarked 23 = .ok (.iaload, 1) := by decide +kernel
theorem dX12_isMarked_24 : decode cX12_isMarked 24 = .ok (.iload_n 1, 1) := by decide +kernel
theorem dX12_isMarked_25 : decode cX12_isMarked 25 = .ok (.if_icmp .ne 7, 3) := by decide +kernel
theorem dX12_isMarked_28 : decode cX12_isMarked 28 = .ok (.iconst 1, 1) := by decide +kernel
theorem dX12_isMarked_29 : decode cX12_isMarked 29 = .ok (.goto 4, 3) := by decide +kernel
theorem dX12_isMarked_32 : decode cX12_isMarked 32 = .ok (.iconst 0, 1) := by decide +kernel
theorem dX12_isMarked_33 : decode cX12_isMarked 33 = .ok (.ireturn, 1) := by decide +kernel
theorem dX12_mark_0 : decode cX12_mark 0 = .ok (.aload_n 0, 1) := by decide +kernel
theorem dX12_mark_1 : decode cX12_mark 1 = .ok (.getfield 233, 3) := by decide +kernel
theorem dX12_mark_4 : decode cX12_mark 4 = .ok (.ifCond .ne 16, 3) := by decide +kernel
theorem dX12_mark_7 : decode cX12_mark 7 = .ok (.aload_n 0, 1) := by decide +kernel
theorem dX12_mark_8 : decode cX12_mark 8 = .ok (.iload_n 1, 1) := by decide +kernel
theorem dX12_mark_9 : decode cX12_mark 9 = .ok (.invokevirtual 251, 3) := by decide +kernel
theorem dX12_mark_12 : decode cX12_mark 12 = .ok (.ifCond .ne 8, 3) := by decide +kernel
theorem dX12_mark_15 : decode cX12_mark 15 = .ok (.aload_n 0, 1) := by decide +kernel
theorem dX12_mark_16 : decode cX12_mark 16 = .ok (.iconst 1, 1) := by decide +kernel
theorem dX12_mark_17 : decode cX12_mark 17 = .ok (.invokevirtual 254, 3) := by decide +kernel
theorem dX12_mark_20 : decode cX12_mark 20 = .ok (.aload_n 0, 1) := by decide +kernel
theorem dX12_mark_21 : decode cX12_mark 21 = .ok (.getfield 233, 3) := by decide +kernel
theorem dX12_mark_24 : decode cX12_mark 24 = .ok (.ifCond .ne 7, 3) := by decide +kernel
theorem dX12_mark_27 : decode cX12_mark 27 = .ok (.aload_n 0, 1) := by decide +kernel
theorem dX12_mark_28 : decode cX12_mark 28 = .ok (.invokevirtual 258, 3) := by decide +kernel
theorem dX12_mark_31 : decode cX12_mark 31 = .ok (.return_, 1) := by decide +kernel
theorem dX12_numberNow_0 : decode cX12_numberNow 0 = .ok (.aload_n 0, 1) := by decide +kernel
theorem dX12_numberNow_1 : decode cX12_numberNow 1 = .ok (.getfield 233, 3) := by decide +kernel
theorem dX12_numberNow_4 : decode cX12_numberNow 4 = .ok (.ifCond .eq 5, 3) := by decide +kernel
theorem dX12_numberNow_7 : decode cX12_numberNow 7 = .ok (.iconst 0, 1) := by decide +kernel
theorem dX12_numberNow_8 : decode cX12_numberNow 8 = .ok (.ireturn, 1) := by decide +kernel
theorem dX12_numberNow_9 : decode cX12_numberNow 9 = .ok (.aload_n 0, 1) := by decide +kernel
theorem dX12_numberNow_10 : decode cX12_numberNow 10 = .ok (.getfield 207, 3) := by decide +kernel
theorem dX12_numberNow_13 : decode cX12_numberNow 13 = .ok (.iconst 2, 1) := by decide +kernel
theorem dX12_numberNow_14 : decode cX12_numberNow 14 = .ok (.if_icmp .eq 11, 3) := by decide +kernel
theorem dX12_numberNow_17 : decode cX12_numberNow 17 = .ok (.aload_n 0, 1) := by decide +kernel
theorem dX12_numberNow_18 : decode cX12_numberNow 18 = .ok (.iconst 1, 1) := by decide +kernel
theorem dX12_numberNow_19 : decode cX12_numberNow 19 = .ok (.invokevirtual 254, 3) := by decide +kernel
theorem dX12_numberNow_22 : decode cX12_numberNow 22 = .ok (.goto 37, 3) := by decide +kernel
theorem dX12_numberNow_25 : decode cX12_numberNow 25 = .ok (.aload_n 0, 1) := by decide +kernel
theorem dX12_numberNow_26 : decode cX12_numberNow 26 = .ok (.getfield 230, 3) := by decide +kernel
theorem dX12_numberNow_29 : decode cX12_numberNow 29 = .ok (.aload_n 0, 1) := by decide +kernel
theorem dX12_numberNow_30 : decode cX12_numberNow 30 = .ok (.getfield 204, 3) := by decide +kernel
theorem dX12_numberNow_33 : decode cX12_numberNow 33 = .ok (.isub, 1) := by decide +kernel
theorem dX12_numberNow_34 : decode cX12_numberNow 34 = .ok (.iconst 4, 1) := by decide +kernel
theorem dX12_numberNow_35 : decode cX12_numberNow 35 = .ok (.if_icmp .gt 19, 3) := by decide +kernel
theorem dX12_numberNow_38 : decode cX12_numberNow 38 = .ok (.aload_n 0, 1) := by decide +kernel
theorem dX12_numberNow_39 : decode cX12_numberNow 39 = .ok (.getfield 217, 3) := by decide +kernel
theorem dX12_numberNow_42 : decode cX12_numberNow 42 = .ok (.iload_n 1, 1) := by decide +kernel
theorem dX12_numberNow_43 : decode cX12_numberNow 43 = .ok (.if_icmp .lt 11, 3) := by decide +kernel
theorem dX12_numberNow_46 : decode cX12_numberNow 46 = .ok (.aload_n 0, 1) := by decide +kernel
theorem dX12_numberNow_47 : decode cX12_numberNow 47 = .ok (.getfield 217, 3) := by decide +kernel
theorem dX12_numberNow_50 : decode cX12_numberNow 50 = .ok (.iload_n 2, 1) := by decide +kernel
theorem dX12_numberNow_51 : decode cX12_numberNow 51 = .ok (.if_icmp .le 8, 3) := by decide +kernel
theorem dX12_numberNow_54 : decode cX12_numberNow 54 = .ok (.aload_n 0, 1) := by decide +kernel
theorem dX12_numberNow_55 : decode cX12_numberNow 55 = .ok (.iconst 2, 1) := by decide +kernel
theorem dX12_numberNow_56 : decode cX12_numberNow 56 = .ok (.invokevirtual 254, 3) := by decide +kernel
theorem dX12_numberNow_59 : decode cX12_numberNow 59 = .ok (.aload_n 0, 1) := by decide +kernel
theorem dX12_numberNow_60 : decode cX12_numberNow 60 = .ok (.getfield 233, 3) := by decide +kernel
theorem dX12_numberNow_63 : decode cX12_numberNow 63 = .ok (.ifCond .ne 10, 3) := by decide +kernel
theorem dX12_numberNow_66 : decode cX12_numberNow 66 = .ok (.aload_n 0, 1) := by decide +kernel
theorem dX12_numberNow_67 : decode cX12_numberNow 67 = .ok (.getfield 217, 3) := by decide +kernel
theorem dX12_numberNow_70 : decode cX12_numberNow 70 = .ok (.goto 4, 3) := by decide +kernel
theorem dX12_numberNow_73 : decode cX12_numberNow 73 = .ok (.iconst 0, 1) := by decide +kernel
theorem dX12_numberNow_74 : decode cX12_numberNow 74 = .ok (.ireturn, 1) := by decide +kernel
theorem dX12_readNumber_0 : decode cX12_readNumber 0 = .ok (.aload_n 0, 1) := by decide +kernel
theorem dX12_readNumber_1 : decode cX12_readNumber 1 = .ok (.iload_n 1, 1) := by decide +kernel
theorem dX12_readNumber_2 : decode cX12_readNumber 2 = .ok (.iload_n 2, 1) := by decide +kernel
theorem dX12_readNumber_3 : decode cX12_readNumber 3 = .ok (.invokevirtual 261, 3) := by decide +kernel
theorem dX12_readNumber_6 : decode cX12_readNumber 6 = .ok (.istore_n 3, 1) := by decide +kernel
theorem dX12_readNumber_7 : decode cX12_readNumber 7 = .ok (.aload_n 0, 1) := by decide +kernel
theorem dX12_readNumber_8 : decode cX12_readNumber 8 = .ok (.getfield 233, 3) := by decide +kernel
theorem dX12_readNumber_11 : decode cX12_readNumber 11 = .ok (.ifCond .ne 7, 3) := by decide +kernel
theorem dX12_readNumber_14 : decode cX12_readNumber 14 = .ok (.aload_n 0, 1) := by decide +kernel
theorem dX12_readNumber_15 : decode cX12_readNumber 15 = .ok (.invokevirtual 258, 3) := by decide +kernel
theorem dX12_readNumber_18 : decode cX12_readNumber 18 = .ok (.iload_n 3, 1) := by decide +kernel
theorem dX12_readNumber_19 : decode cX12_readNumber 19 = .ok (.ireturn, 1) := by decide +kernel
theorem dX12_oneNow_0 : decode cX12_oneNow 0 = .ok (.aload_n 0, 1) := by decide +kernel
theorem dX12_oneNow_1 : decode cX12_oneNow 1 = .ok (.iconst 0, 1) := by decide +kernel
theorem dX12_oneNow_2 : decode cX12_oneNow 2 = .ok (.sipush 9999, 3) := by decide +kernel
theorem dX12_oneNow_5 : decode cX12_oneNow 5 = .ok (.invokevirtual 261, 3) := by decide +kernel
theorem dX12_oneNow_8 : decode cX12_oneNow 8 = .ok (.istore_n 2, 1) := by decide +kernel
theorem dX12_oneNow_9 : decode cX12_oneNow 9 = .ok (.aload_n 0, 1) := by decide +kernel
theorem dX12_oneNow_10 : decode cX12_oneNow 10 = .ok (.getfield 233, 3) := by decide +kernel
theorem dX12_oneNow_13 : decode cX12_oneNow 13 = .ok (.ifCond .ne 20, 3) := by decide +kernel
theorem dX12_oneNow_16 : decode cX12_oneNow 16 = .ok (.iload_n 2, 1) := by decide +kernel
theorem dX12_oneNow_17 : decode cX12_oneNow 17 = .ok (.aload_n 0, 1) := by decide +kernel
theorem dX12_oneNow_18 : decode cX12_oneNow 18 = .ok (.getfield 48, 3) := by decide +kernel
theorem dX12_oneNow_21 : decode cX12_oneNow 21 = .ok (.iconst 5, 1) := by decide +kernel
theorem dX12_oneNow_22 : decode cX12_oneNow 22 = .ok (.iload_n 1, 1) := by decide +kernel
theorem dX12_oneNow_23 : decode cX12_oneNow 23 = .ok (.iadd, 1) := by decide +kernel
theorem dX12_oneNow_24 : decode cX12_oneNow 24 = .ok (.iaload, 1) := by decide +kernel
theorem dX12_oneNow_25 : decode cX12_oneNow 25 = .ok (.if_icmp .lt 8, 3) := by decide +kernel
theorem dX12_oneNow_28 : decode cX12_oneNow 28 = .ok (.aload_n 0, 1) := by decide +kernel
theorem dX12_oneNow_29 : decode cX12_oneNow 29 = .ok (.iconst 3, 1) := by decide +kernel
theorem dX12_oneNow_30 : decode cX12_oneNow 30 = .ok (.invokevirtual 254, 3) := by decide +kernel
theorem dX12_oneNow_33 : decode cX12_oneNow 33 = .ok (.aload_n 0, 1) := by decide +kernel
theorem dX12_oneNow_34 : decode cX12_oneNow 34 = .ok (.getfield 233, 3) := by decide +kernel
theorem dX12_oneNow_37 : decode cX12_oneNow 37 = .ok (.ifCond .ne 7, 3) := by decide +kernel
theorem dX12_oneNow_40 : decode cX12_oneNow 40 = .ok (.iload_n 2, 1) := by decide +kernel
theorem dX12_oneNow_41 : decode cX12_oneNow 41 = .ok (.goto 4, 3) := by decide +kernel
theorem dX12_oneNow_44 : decode cX12_oneNow 44 = .ok (.iconst 0, 1) := by decide +kernel
theorem dX12_oneNow_45 : decode cX12_oneNow 45 = .ok (.ireturn, 1) := by decide +kernel
theorem dX12_lay_0 : decode cX12_lay 0 = .ok (.aload_n 0, 1) := by decide +kernel
theorem dX12_lay_1 : decode cX12_lay 1 = .ok (.getfield 233, 3) := by decide +kernel
theorem dX12_lay_4 : decode cX12_lay 4 = .ok (.ifCond .eq 4, 3) := by decide +kernel
theorem dX12_lay_7 : decode cX12_lay 7 = .ok (.return_, 1) := by decide +kernel
theorem dX12_lay_8 : decode cX12_lay 8 = .ok (.iconst 5, 1) := by decide +kernel
theorem dX12_lay_9 : decode cX12_lay 9 = .ok (.aload_n 0, 1) := by decide +kernel
theorem dX12_lay_10 : decode cX12_lay 10 = .ok (.getfield 264, 3) := by decide +kernel
theorem dX12_lay_13 : decode cX12_lay 13 = .ok (.ifCond .eq 7, 3) := by decide +kernel
theorem dX12_lay_16 : decode cX12_lay 16 = .ok (.iconst 4, 1) := by decide +kernel
theorem dX12_lay_17 : decode cX12_lay 17 = .ok (.goto 4, 3) := by decide +kernel
theorem dX12_lay_20 : decode cX12_lay 20 = .ok (.iconst 3, 1) := by decide +kernel
theorem dX12_lay_21 : decode cX12_lay 21 = .ok (.iadd, 1) := by decide +kernel
theorem dX12_lay_22 : decode cX12_lay 22 = .ok (.istore_n 2, 1) := by decide +kernel
theorem dX12_lay_23 : decode cX12_lay 23 = .ok (.aload_n 0, 1) := by decide +kernel
theorem dX12_lay_24 : decode cX12_lay 24 = .ok (.getfield 264, 3) := by decide +kernel
theorem dX12_lay_27 : decode cX12_lay 27 = .ok (.ifCond .eq 10, 3) := by decide +kernel
theorem dX12_lay_30 : decode cX12_lay 30 = .ok (.aload_n 0, 1) := by decide +kernel
theorem dX12_lay_31 : decode cX12_lay 31 = .ok (.getfield 72, 3) := by decide +kernel
theorem dX12_lay_34 : decode cX12_lay 34 = .ok (.goto 7, 3) := by decide +kernel
theorem dX12_lay_37 : decode cX12_lay 37 = .ok (.aload_n 0, 1) := by decide +kernel
theorem dX12_lay_38 : decode cX12_lay 38 = .ok (.getfield 69, 3) := by decide +kernel
theorem dX12_lay_41 : decode cX12_lay 41 = .ok (.astore_n 3, 1) := by decide +kernel
theorem dX12_lay_42 : decode cX12_lay 42 = .ok (.aload_n 3, 1) := by decide +kernel
theorem dX12_lay_43 : decode cX12_lay 43 = .ok (.sipush 700, 3) := by decide +kernel
theorem dX12_lay_46 : decode cX12_lay 46 = .ok (.aload_n 0, 1) := by decide +kernel
theorem dX12_lay_47 : decode cX12_lay 47 = .ok (.getfield 48, 3) := by decide +kernel
theorem dX12_lay_50 : decode cX12_lay 50 = .ok (.iload_n 2, 1) := by decide +kernel
theorem dX12_lay_51 : decode cX12_lay 51 = .ok (.iaload, 1) := by decide +kernel
theorem dX12_lay_52 : decode cX12_lay 52 = .ok (.iadd, 1) := by decide +kernel
theorem dX12_lay_53 : decode cX12_lay 53 = .ok (.iload_n 1, 1) := by decide +kernel
theorem dX12_lay_54 : decode cX12_lay 54 = .ok (.iastore, 1) := by decide +kernel
theorem dX12_lay_55 : decode cX12_lay 55 = .ok (.aload_n 0, 1) := by decide +kernel
theorem dX12_lay_56 : decode cX12_lay 56 = .ok (.getfield 48, 3) := by decide +kernel
theorem dX12_lay_59 : decode cX12_lay 59 = .ok (.iload_n 2, 1) := by decide +kernel
theorem dX12_lay_60 : decode cX12_lay 60 = .ok (.dup2, 1) := by decide +kernel
theorem dX12_lay_61 : decode cX12_lay 61 = .ok (.iaload, 1) := by decide +kernel
theorem dX12_lay_62 : decode cX12_lay 62 = .ok (.iconst 1, 1) := by decide +kernel
theorem dX12_lay_63 : decode cX12_lay 63 = .ok (.iadd, 1) := by decide +kernel
theorem dX12_lay_64 : decode cX12_lay 64 = .ok (.iastore, 1) := by decide +kernel
theorem dX12_lay_65 : decode cX12_lay 65 = .ok (.return_, 1) := by decide +kernel
theorem dX12_readPart_0 : decode cX12_readPart 0 = .ok (.aload_n 0, 1) := by decide +kernel
theorem dX12_readPart_1 : decode cX12_readPart 1 = .ok (.getfield 233, 3) := by decide +kernel
theorem dX12_readPart_4 : decode cX12_readPart 4 = .ok (.ifCond .eq 4, 3) := by decide +kernel
theorem dX12_readPart_7 : decode cX12_readPart 7 = .ok (.return_, 1) := by decide +kernel
theorem dX12_readPart_8 : decode cX12_readPart 8 = .ok (.aload_n 0, 1) := by decide +kernel
theorem dX12_readPart_9 : decode cX12_readPart 9 = .ok (.getfield 207, 3) := by decide +kernel
theorem dX12_readPart_12 : decode cX12_readPart 12 = .ok (.iconst 2, 1) := by decide +kernel
theorem dX12_readPart_13 : decode cX12_readPart 13 = .ok (.if_icmp .ne 16, 3) := by decide +kernel
theorem dX12_readPart_16 : decode cX12_readPart 16 = .ok (.aload_n 0, 1) := by decide +kernel
theorem dX12_readPart_17 : decode cX12_readPart 17 = .ok (.aload_n 0, 1) := by decide +kernel
theorem dX12_readPart_18 : decode cX12_readPart 18 = .ok (.iconst 0, 1) := by decide +kernel
theorem dX12_readPart_19 : decode cX12_readPart 19 = .ok (.sipush 9999, 3) := by decide +kernel
theorem dX12_readPart_22 : decode cX12_readPart 22 = .ok (.invokevirtual 268, 3) := by decide +kernel
theorem dX12_readPart_25 : decode cX12_readPart 25 = .ok (.invokevirtual 271, 3) := by decide +kernel
theorem dX12_readPart_28 : decode cX12_readPart 28 = .ok (.return_, 1) := by decide +kernel
theorem dX12_readPart_29 : decode cX12_readPart 29 = .ok (.aload_n 0, 1) := by decide +kernel
theorem dX12_readPart_30 : decode cX12_readPart 30 = .ok (.getfield 207, 3) := by decide +kernel
theorem dX12_readPart_33 : decode cX12_readPart 33 = .ok (.iconst 1, 1) := by decide +kernel
theorem dX12_readPart_34 : decode cX12_readPart 34 = .ok (.if_icmp .ne 41, 3) := by decide +kernel
theorem dX12_readPart_37 : decode cX12_readPart 37 = .ok (.aload_n 0, 1) := by decide +kernel
theorem dX12_readPart_38 : decode cX12_readPart 38 = .ok (.aload_n 0, 1) := by decide +kernel
theorem dX12_readPart_39 : decode cX12_readPart 39 = .ok (.getfield 45, 3) := by decide +kernel
theorem dX12_readPart_42 : decode cX12_readPart 42 = .ok (.invokevirtual 274, 3) := by decide +kernel
theorem dX12_readPart_45 : decode cX12_readPart 45 = .ok (.istore_n 2, 1) := by decide +kernel
theorem dX12_readPart_46 : decode cX12_readPart 46 = .ok (.iload_n 2, 1) := by decide +kernel
theorem dX12_readPart_47 : decode cX12_readPart 47 = .ok (.iconst (-1), 1) := by decide +kernel
theorem dX12_readPart_48 : decode cX12_readPart 48 = .ok (.if_icmp .ne 8, 3) := by decide +kernel
theorem dX12_readPart_51 : decode cX12_readPart 51 = .ok (.aload_n 0, 1) := by decide +kernel
theorem dX12_readPart_52 : decode cX12_readPart 52 = .ok (.iconst 3, 1) := by decide +kernel
theorem dX12_readPart_53 : decode cX12_readPart 53 = .ok (.invokevirtual 254, 3) := by decide +kernel
theorem dX12_readPart_56 : decode cX12_readPart 56 = .ok (.aload_n 0, 1) := by decide +kernel
theorem dX12_readPart_57 : decode cX12_readPart 57 = .ok (.iconst (-1), 1) := by decide +kernel
theorem dX12_readPart_58 : decode cX12_readPart 58 = .ok (.iload_n 2, 1) := by decide +kernel
theorem dX12_readPart_59 : decode cX12_readPart 59 = .ok (.isub, 1) := by decide +kernel
theorem dX12_readPart_60 : decode cX12_readPart 60 = .ok (.invokevirtual 271, 3) := by decide +kernel
theorem dX12_readPart_63 : decode cX12_readPart 63 = .ok (.aload_n 0, 1) := by decide +kernel
theorem dX12_readPart_64 : decode cX12_readPart 64 = .ok (.getfield 233, 3) := by decide +kernel
theorem dX12_readPart_67 : decode cX12_readPart 67 = .ok (.ifCond .ne 7, 3) := by decide +kernel
theorem dX12_readPart_70 : decode cX12_readPart 70 = .ok (.aload_n 0, 1) := by decide +kernel
theorem dX12_readPart_71 : decode cX12_readPart 71 = .ok (.invokevirtual 258, 3) := by decide +kernel
theorem dX12_readPart_74 : decode cX12_readPart 74 = .ok (.return_, 1) := by decide +kernel
theorem dX12_readPart_75 : decode cX12_readPart 75 = .ok (.aload_n 0, 1) := by decide +kernel
theorem dX12_readPart_76 : decode cX12_readPart 76 = .ok (.bipush 40, 2) := by decide +kernel
theorem dX12_readPart_78 : decode cX12_readPart 78 = .ok (.invokevirtual 278, 3) := by decide +kernel
theorem dX12_readPart_81 : decode cX12_readPart 81 = .ok (.aload_n 0, 1) := by decide +kernel
theorem dX12_readPart_82 : decode cX12_readPart 82 = .ok (.iload_n 1, 1) := by decide +kernel
theorem dX12_readPart_83 : decode cX12_readPart 83 = .ok (.iconst 1, 1) := by decide +kernel
theorem dX12_readPart_84 : decode cX12_readPart 84 = .ok (.iadd, 1) := by decide +kernel
theorem dX12_readPart_85 : decode cX12_readPart 85 = .ok (.invokevirtual 281, 3) := by decide +kernel
theorem dX12_readPart_88 : decode cX12_readPart 88 = .ok (.aload_n 0, 1) := by decide +kernel
theorem dX12_readPart_89 : decode cX12_readPart 89 = .ok (.bipush 41, 2) := by decide +kernel
theorem dX12_readPart_91 : decode cX12_readPart 91 = .ok (.invokevirtual 278, 3) := by decide +kernel
theorem dX12_readPart_94 : decode cX12_readPart 94 = .ok (.return_, 1) := by decide +kernel
theorem dX12_readProduct_0 : decode cX12_readProduct 0 = .ok (.aload_n 0, 1) := by decide +kernel
theorem dX12_readProduct_1 : decode cX12_readProduct 1 = .ok (.iload_n 1, 1) := by decide +kernel
theorem dX12_readProduct_2 : decode cX12_readProduct 2 = .ok (.invokevirtual 284, 3) := by decide +kernel
theorem dX12_readProduct_5 : decode cX12_readProduct 5 = .ok (.aload_n 0, 1) := by decide +kernel
theorem dX12_readProduct_6 : decode cX12_readProduct 6 = .ok (.bipush 42, 2) := by decide +kernel
theorem dX12_readProduct_8 : decode cX12_readProduct 8 = .ok (.invokevirtual 251, 3) := by decide +kernel
theorem dX12_readProduct_11 : decode cX12_readProduct 11 = .ok (.ifCond .ne 12, 3) := by decide +kernel
theorem dX12_readProduct_14 : decode cX12_readProduct 14 = .ok (.aload_n 0, 1) := by decide +kernel
theorem dX12_readProduct_15 : decode cX12_readProduct 15 = .ok (.bipush 47, 2) := by decide +kernel
theorem dX12_readProduct_17 : decode cX12_readProduct 17 = .ok (.invokevirtual 251, 3) := by decide +kernel
theorem dX12_readProduct_20 : decode cX12_readProduct 20 = .ok (.ifCond .eq 37, 3) := by decide +kernel
theorem dX12_readProduct_23 : decode cX12_readProduct 23 = .ok (.aload_n 0, 1) := by decide +kernel
theorem dX12_readProduct_24 : decode cX12_readProduct 24 = .ok (.bipush 42, 2) := by decide +kernel
theorem dX12_readProduct_26 : decode cX12_readProduct 26 = .ok (.invokevirtual 251, 3) := by decide +kernel
theorem dX12_readProduct_29 : decode cX12_readProduct 29 = .ok (.ifCond .eq 8, 3) := by decide +kernel
theorem dX12_readProduct_32 : decode cX12_readProduct 32 = .ok (.bipush (-22), 2) := by decide +kernel
theorem dX12_readProduct_34 : decode cX12_readProduct 34 = .ok (.goto 5, 3) := by decide +kernel
theorem dX12_readProduct_37 : decode cX12_readProduct 37 = .ok (.bipush (-23), 2) := by decide +kernel
theorem dX12_readProduct_39 : decode cX12_readProduct 39 = .ok (.istore_n 2, 1) := by decide +kernel
theorem dX12_readProduct_40 : decode cX12_readProduct 40 = .ok (.aload_n 0, 1) := by decide +kernel
theorem dX12_readProduct_41 : decode cX12_readProduct 41 = .ok (.invokevirtual 258, 3) := by decide +kernel
theorem dX12_readProduct_44 : decode cX12_readProduct 44 = .ok (.aload_n 0, 1) := by decide +kernel
theorem dX12_readProduct_45 : decode cX12_readProduct 45 = .ok (.iload_n 1, 1) := by decide +kernel
theorem dX12_readProduct_46 : decode cX12_readProduct 46 = .ok (.invokevirtual 284, 3) := by decide +kernel
theorem dX12_readProduct_49 : decode cX12_readProduct 49 = .ok (.aload_n 0, 1) := by decide +kernel
theorem dX12_readProduct_50 : decode cX12_readProduct 50 = .ok (.iload_n 2, 1) := by decide +kernel
theorem dX12_readProduct_51 : decode cX12_readProduct 51 = .ok (.invokevirtual 271, 3) := by decide +kernel
theorem dX12_readProduct_54 : decode cX12_readProduct 54 = .ok (.goto (-49), 3) := by decide +kernel
theorem dX12_readProduct_57 : decode cX12_readProduct 57 = .ok (.return_, 1) := by decide +kernel
theorem dX12_readSum_0 : decode cX12_readSum 0 = .ok (.aload_n 0, 1) := by decide +kernel
theorem dX12_readSum_1 : decode cX12_readSum 1 = .ok (.iload_n 1, 1) := by decide +kernel
theorem dX12_readSum_2 : decode cX12_readSum 2 = .ok (.invokevirtual 287, 3) := by decide +kernel
theorem dX12_readSum_5 : decode cX12_readSum 5 = .ok (.aload_n 0, 1) := by decide +kernel
theorem dX12_readSum_6 : decode cX12_readSum 6 = .ok (.bipush 43, 2) := by decide +kernel
theorem dX12_readSum_8 : decode cX12_readSum 8 = .ok (.invokevirtual 251, 3) := by decide +kernel
theorem dX12_readSum_11 : decode cX12_readSum 11 = .ok (.ifCond .ne 12, 3) := by decide +kernel
theorem dX12_readSum_14 : decode cX12_readSum 14 = .ok (.aload_n 0, 1) := by decide +kernel
theorem dX12_readSum_15 : decode cX12_readSum 15 = .ok (.bipush 45, 2) := by decide +kernel
theorem dX12_readSum_17 : decode cX12_readSum 17 = .ok (.invokevirtual 251, 3) := by decide +kernel
theorem dX12_readSum_20 : decode cX12_readSum 20 = .ok (.ifCond .eq 37, 3) := by decide +kernel
theorem dX12_readSum_23 : decode cX12_readSum 23 = .ok (.aload_n 0, 1) := by decide +kernel
theorem dX12_readSum_24 : decode cX12_readSum 24 = .ok (.bipush 43, 2) := by decide +kernel
theorem dX12_readSum_26 : decode cX12_readSum 26 = .ok (.invokevirtual 251, 3) := by decide +kernel
theorem dX12_readSum_29 : decode cX12_readSum 29 = .ok (.ifCond .eq 8, 3) := by decide +kernel
theorem dX12_readSum_32 : decode cX12_readSum 32 = .ok (.bipush (-20), 2) := by decide +kernel
theorem dX12_readSum_34 : decode cX12_readSum 34 = .ok (.goto 5, 3) := by decide +kernel
theorem dX12_readSum_37 : decode cX12_readSum 37 = .ok (.bipush (-21), 2) := by decide +kernel
theorem dX12_readSum_39 : decode cX12_readSum 39 = .ok (.istore_n 2, 1) := by decide +kernel
theorem dX12_readSum_40 : decode cX12_readSum 40 = .ok (.aload_n 0, 1) := by decide +kernel
theorem dX12_readSum_41 : decode cX12_readSum 41 = .ok (.invokevirtual 258, 3) := by decide +kernel
theorem dX12_readSum_44 : decode cX12_readSum 44 = .ok (.aload_n 0, 1) := by decide +kernel
theorem dX12_readSum_45 : decode cX12_readSum 45 = .ok (.iload_n 1, 1) := by decide +kernel
theorem dX12_readSum_46 : decode cX12_readSum 46 = .ok (.invokevirtual 287, 3) := by decide +kernel
theorem dX12_readSum_49 : decode cX12_readSum 49 = .ok (.aload_n 0, 1) := by decide +kernel
theorem dX12_readSum_50 : decode cX12_readSum 50 = .ok (.iload_n 2, 1) := by decide +kernel
theorem dX12_readSum_51 : decode cX12_readSum 51 = .ok (.invokevirtual 271, 3) := by decide +kernel
theorem dX12_readSum_54 : decode cX12_readSum 54 = .ok (.goto (-49), 3) := by decide +kernel
theorem dX12_readSum_57 : decode cX12_readSum 57 = .ok (.return_, 1) := by decide +kernel
theorem dX12_readNot_0 : decode cX12_readNot 0 = .ok (.iconst 0, 1) := by decide +kernel
theorem dX12_readNot_1 : decode cX12_readNot 1 = .ok (.istore_n 2, 1) := by decide +kernel
theorem dX12_readNot_2 : decode cX12_readNot 2 = .ok (.aload_n 0, 1) := by decide +kernel
theorem dX12_readNot_3 : decode cX12_readNot 3 = .ok (.ldc_w 290, 3) := by decide +kernel
theorem dX12_readNot_6 : decode cX12_readNot 6 = .ok (.invokevirtual 247, 3) := by decide +kernel
theorem dX12_readNot_9 : decode cX12_readNot 9 = .ok (.ifCond .eq 31, 3) := by decide +kernel
theorem dX12_readNot_12 : decode cX12_readNot 12 = .ok (.iload_n 2, 1) := by decide +kernel
theorem dX12_readNot_13 : decode cX12_readNot 13 = .ok (.bipush 6, 2) := by decide +kernel
theorem dX12_readNot_15 : decode cX12_readNot 15 = .ok (.if_icmp .ne 8, 3) := by decide +kernel
theorem dX12_readNot_18 : decode cX12_readNot 18 = .ok (.aload_n 0, 1) := by decide +kernel
theorem dX12_readNot_19 : decode cX12_readNot 19 = .ok (.iconst 2, 1) := by decide +kernel
theorem dX12_readNot_20 : decode cX12_readNot 20 = .ok (.invokevirtual 254, 3) := by decide +kernel
theorem dX12_readNot_23 : decode cX12_readNot 23 = .ok (.iinc 2 1, 3) := by decide +kernel
theorem dX12_readNot_26 : decode cX12_readNot 26 = .ok (.aload_n 0, 1) := by decide +kernel
theorem dX12_readNot_27 : decode cX12_readNot 27 = .ok (.getfield 233, 3) := by decide +kernel
theorem dX12_readNot_30 : decode cX12_readNot 30 = .ok (.ifCond .ne (-28), 3) := by decide +kernel
theorem dX12_readNot_33 : decode cX12_readNot 33 = .ok (.aload_n 0, 1) := by decide +kernel
theorem dX12_readNot_34 : decode cX12_readNot 34 = .ok (.invokevirtual 258, 3) := by decide +kernel
theorem dX12_readNot_37 : decode cX12_readNot 37 = .ok (.goto (-35), 3) := by decide +kernel
theorem dX12_readNot_40 : decode cX12_readNot 40 = .ok (.aload_n 0, 1) := by decide +kernel
theorem dX12_readNot_41 : decode cX12_readNot 41 = .ok (.iload_n 1, 1) := by decide +kernel
theorem dX12_readNot_42 : decode cX12_readNot 42 = .ok (.invokevirtual 292, 3) := by decide +kernel
theorem dX12_readNot_45 : decode cX12_readNot 45 = .ok (.aload_n 0, 1) := by decide +kernel
theorem dX12_readNot_46 : decode cX12_readNot 46 = .ok (.bipush 60, 2) := by decide +kernel
theorem dX12_readNot_48 : decode cX12_readNot 48 = .ok (.invokevirtual 251, 3) := by decide +kernel
theorem dX12_readNot_51 : decode cX12_readNot 51 = .ok (.ifCond .ne 12, 3) := by decide +kernel
theorem dX12_readNot_54 : decode cX12_readNot 54 = .ok (.aload_n 0, 1) := by decide +kernel
theorem dX12_readNot_55 : decode cX12_readNot 55 = .ok (.bipush 61, 2) := by decide +kernel
theorem dX12_readNot_57 : decode cX12_readNot 57 = .ok (.invokevirtual 251, 3) := by decide +kernel
theorem dX12_readNot_60 : decode cX12_readNot 60 = .ok (.ifCond .eq 34, 3) := by decide +kernel
theorem dX12_readNot_63 : decode cX12_readNot 63 = .ok (.aload_n 0, 1) := by decide +kernel
theorem dX12_readNot_64 : decode cX12_readNot 64 = .ok (.bipush 60, 2) := by decide +kernel
theorem dX12_readNot_66 : decode cX12_readNot 66 = .ok (.invokevirtual 251, 3) := by decide +kernel
theorem dX12_readNot_69 : decode cX12_readNot 69 = .ok (.ifCond .eq 8, 3) := by decide +kernel
theorem dX12_readNot_72 : decode cX12_readNot 72 = .ok (.bipush (-24), 2) := by decide +kernel
theorem dX12_readNot_74 : decode cX12_readNot 74 = .ok (.goto 5, 3) := by decide +kernel
theorem dX12_readNot_77 : decode cX12_readNot 77 = .ok (.bipush (-25), 2) := by decide +kernel
theorem dX12_readNot_79 : decode cX12_readNot 79 = .ok (.istore_n 3, 1) := by decide +kernel
theorem dX12_readNot_80 : decode cX12_readNot 80 = .ok (.aload_n 0, 1) := by decide +kernel
theorem dX12_readNot_81 : decode cX12_readNot 81 = .ok (.invokevirtual 258, 3) := by decide +kernel
theorem dX12_readNot_84 : decode cX12_readNot 84 = .ok (.aload_n 0, 1) := by decide +kernel
theorem dX12_readNot_85 : decode cX12_readNot 85 = .ok (.iload_n 1, 1) := by decide +kernel
theorem dX12_readNot_86 : decode cX12_readNot 86 = .ok (.invokevirtual 292, 3) := by decide +kernel
theorem dX12_readNot_89 : decode cX12_readNot 89 = .ok (.aload_n 0, 1) := by decide +kernel
theorem dX12_readNot_90 : decode cX12_readNot 90 = .ok (.iload_n 3, 1) := by decide +kernel
theorem dX12_readNot_91 : decode cX12_readNot 91 = .ok (.invokevirtual 271, 3) := by decide +kernel
theorem dX12_readNot_94 : decode cX12_readNot 94 = .ok (.iconst 0, 1) := by decide +kernel
theorem dX12_readNot_95 : decode cX12_readNot 95 = .ok (.istore_n 3, 1) := by decide +kernel
theorem dX12_readNot_96 : decode cX12_readNot 96 = .ok (.iload_n 3, 1) := by decide +kernel
theorem dX12_readNot_97 : decode cX12_readNot 97 = .ok (.iload_n 2, 1) := by decide +kernel
theorem dX12_readNot_98 : decode cX12_readNot 98 = .ok (.if_icmp .ge 15, 3) := by decide +kernel
theorem dX12_readNot_101 : decode cX12_readNot 101 = .ok (.aload_n 0, 1) := by decide +kernel
theorem dX12_readNot_102 : decode cX12_readNot 102 = .ok (.bipush (-28), 2) := by decide +kernel
theorem dX12_readNot_104 : decode cX12_readNot 104 = .ok (.invokevirtual 271, 3) := by decide +kernel
theorem dX12_readNot_107 : decode cX12_readNot 107 = .ok (.iinc 3 1, 3) := by decide +kernel
theorem dX12_readNot_110 : decode cX12_readNot 110 = .ok (.goto (-14), 3) := by decide +kernel
theorem dX12_readNot_113 : decode cX12_readNot 113 = .ok (.return_, 1) := by decide +kernel
theorem dX12_readAnd_0 : decode cX12_readAnd 0 = .ok (.aload_n 0, 1) := by decide +kernel
theorem dX12_readAnd_1 : decode cX12_readAnd 1 = .ok (.iload_n 1, 1) := by decide +kernel
theorem dX12_readAnd_2 : decode cX12_readAnd 2 = .ok (.invokevirtual 295, 3) := by decide +kernel
theorem dX12_readAnd_5 : decode cX12_readAnd 5 = .ok (.aload_n 0, 1) := by decide +kernel
theorem dX12_readAnd_6 : decode cX12_readAnd 6 = .ok (.ldc_w 298, 3) := by decide +kernel
theorem dX12_readAnd_9 : decode cX12_readAnd 9 = .ok (.invokevirtual 247, 3) := by decide +kernel
theorem dX12_readAnd_12 : decode cX12_readAnd 12 = .ok (.ifCond .eq 21, 3) := by decide +kernel
theorem dX12_readAnd_15 : decode cX12_readAnd 15 = .ok (.aload_n 0, 1) := by decide +kernel
theorem dX12_readAnd_16 : decode cX12_readAnd 16 = .ok (.invokevirtual 258, 3) := by decide +kernel
theorem dX12_readAnd_19 : decode cX12_readAnd 19 = .ok (.aload_n 0, 1) := by decide +kernel
theorem dX12_readAnd_20 : decode cX12_readAnd 20 = .ok (.iload_n 1, 1) := by decide +kernel
theorem dX12_readAnd_21 : decode cX12_readAnd 21 = .ok (.invokevirtual 295, 3) := by decide +kernel
theorem dX12_readAnd_24 : decode cX12_readAnd 24 = .ok (.aload_n 0, 1) := by decide +kernel
theorem dX12_readAnd_25 : decode cX12_readAnd 25 = .ok (.bipush (-26), 2) := by decide +kernel
theorem dX12_readAnd_27 : decode cX12_readAnd 27 = .ok (.invokevirtual 271, 3) := by decide +kernel
theorem dX12_readAnd_30 : decode cX12_readAnd 30 = .ok (.goto (-25), 3) := by decide +kernel
theorem dX12_readAnd_33 : decode cX12_readAnd 33 = .ok (.return_, 1) := by decide +kernel
theorem dX12_readExpression_0 : decode cX12_readExpression 0 = .ok (.aload_n 0, 1) := by decide +kernel
theorem dX12_readExpression_1 : decode cX12_readExpression 1 = .ok (.getfield 233, 3) := by decide +kernel
theorem dX12_readExpression_4 : decode cX12_readExpression 4 = .ok (.ifCond .eq 4, 3) := by decide +kernel
theorem dX12_readExpression_7 : decode cX12_readExpression 7 = .ok (.return_, 1) := by decide +kernel
theorem dX12_readExpression_8 : decode cX12_readExpression 8 = .ok (.aload_n 0, 1) := by decide +kernel
theorem dX12_readExpression_9 : decode cX12_readExpression 9 = .ok (.getfield 207, 3) := by decide +kernel
theorem dX12_readExpression_12 : decode cX12_readExpression 12 = .ok (.iconst 2, 1) := by decide +kernel
theorem dX12_readExpression_13 : decode cX12_readExpression 13 = .ok (.if_icmp .eq 20, 3) := by decide +kernel
theorem dX12_readExpression_16 : decode cX12_readExpression 16 = .ok (.aload_n 0, 1) := by decide +kernel
theorem dX12_readExpression_17 : decode cX12_readExpression 17 = .ok (.getfield 207, 3) := by decide +kernel
theorem dX12_readExpression_20 : decode cX12_readExpression 20 = .ok (.iconst 1, 1) := by decide +kernel
theorem dX12_readExpression_21 : decode cX12_readExpression 21 = .ok (.if_icmp .eq 12, 3) := by decide +kernel
theorem dX12_readExpression_24 : decode cX12_readExpression 24 = .ok (.aload_n 0, 1) := by decide +kernel
theorem dX12_readExpression_25 : decode cX12_readExpression 25 = .ok (.bipush 40, 2) := by decide +kernel
theorem dX12_readExpression_27 : decode cX12_readExpression 27 = .ok (.invokevirtual 251, 3) := by decide +kernel
theorem dX12_readExpression_30 : decode cX12_readExpression 30 = .ok (.ifCond .eq 7, 3) := by decide +kernel
theorem dX12_readExpression_33 : decode cX12_readExpression 33 = .ok (.iconst 1, 1) := by decide +kernel
theorem dX12_readExpression_34 : decode cX12_readExpression 34 = .ok (.goto 4, 3) := by decide +kernel
theorem dX12_readExpression_37 : decode cX12_readExpression 37 = .ok (.iconst 0, 1) := by decide +kernel
theorem dX12_readExpression_38 : decode cX12_readExpression 38 = .ok (.istore_n 2, 1) := by decide +kernel
theorem dX12_readExpression_39 : decode cX12_readExpression 39 = .ok (.iload_n 2, 1) := by decide +kernel
theorem dX12_readExpression_40 : decode cX12_readExpression 40 = .ok (.ifCond .ne 11, 3) := by decide +kernel
theorem dX12_readExpression_43 : decode cX12_readExpression 43 = .ok (.aload_n 0, 1) := by decide +kernel
theorem dX12_readExpression_44 : decode cX12_readExpression 44 = .ok (.iconst 1, 1) := by decide +kernel
theorem dX12_readExpression_45 : decode cX12_readExpression 45 = .ok (.invokevirtual 254, 3) := by decide +kernel
theorem dX12_readExpression_48 : decode cX12_readExpression 48 = .ok (.goto 14, 3) := by decide +kernel
theorem dX12_readExpression_51 : decode cX12_readExpression 51 = .ok (.iload_n 1, 1) := by decide +kernel
theorem dX12_readExpression_52 : decode cX12_readExpression 52 = .ok (.bipush 6, 2) := by decide +kernel
theorem dX12_readExpression_54 : decode cX12_readExpression 54 = .ok (.if_icmp .ne 8, 3) := by decide +kernel
theorem dX12_readExpression_57 : decode cX12_readExpression 57 = .ok (.aload_n 0, 1) := by decide +kernel
theorem dX12_readExpression_58 : decode cX12_readExpression 58 = .ok (.iconst 2, 1) := by decide +kernel
theorem dX12_readExpression_59 : decode cX12_readExpression 59 = .ok (.invokevirtual 254, 3) := by decide +kernel
theorem dX12_readExpression_62 : decode cX12_readExpression 62 = .ok (.aload_n 0, 1) := by decide +kernel
theorem dX12_readExpression_63 : decode cX12_readExpression 63 = .ok (.iload_n 1, 1) := by decide +kernel
theorem dX12_readExpression_64 : decode cX12_readExpression 64 = .ok (.invokevirtual 300, 3) := by decide +kernel
theorem dX12_readExpression_67 : decode cX12_readExpression 67 = .ok (.aload_n 0, 1) := by decide +kernel
theorem dX12_readExpression_68 : decode cX12_readExpression 68 = .ok (.ldc_w 303, 3) := by decide +kernel
theorem dX12_readExpression_71 : decode cX12_readExpression 71 = .ok (.invokevirtual 247, 3) := by decide +kernel
theorem dX12_readExpression_74 : decode cX12_readExpression 74 = .ok (.ifCond .eq 21, 3) := by decide +kernel
theorem dX12_readExpression_77 : decode cX12_readExpression 77 = .ok (.aload_n 0, 1) := by decide +kernel
theorem dX12_readExpression_78 : decode cX12_readExpression 78 = .ok (.invokevirtual 258, 3) := by decide +kernel
theorem dX12_readExpression_81 : decode cX12_readExpression 81 = .ok (.aload_n 0, 1) := by decide +kernel
theorem dX12_readExpression_82 : decode cX12_readExpression 82 = .ok (.iload_n 1, 1) := by decide +kernel
theorem dX12_readExpression_83 : decode cX12_readExpression 83 = .ok (.invokevirtual 300, 3) := by decide +kernel
theorem dX12_readExpression_86 : decode cX12_readExpression 86 = .ok (.aload_n 0, 1) := by decide +kernel
theorem dX12_readExpression_87 : decode cX12_readExpression 87 = .ok (.bipush (-27), 2) := by decide +kernel
theorem dX12_readExpression_89 : decode cX12_readExpression 89 = .ok (.invokevirtual 271, 3) := by decide +kernel
theorem dX12_readExpression_92 : decode cX12_readExpression 92 = .ok (.goto (-25), 3) := by decide +kernel
theorem dX12_readExpression_95 : decode cX12_readExpression 95 = .ok (.return_, 1) := by decide +kernel
theorem dX12_another_0 : decode cX12_another 0 = .ok (.aload_n 0, 1) := by decide +kernel
theorem dX12_another_1 : decode cX12_another 1 = .ok (.getfield 48, 3) := by decide +kernel
theorem dX12_another_4 : decode cX12_another 4 = .ok (.iconst 5, 1) := by decide +kernel
theorem dX12_another_5 : decode cX12_another 5 = .ok (.iload_n 1, 1) := by decide +kernel
theorem dX12_another_6 : decode cX12_another 6 = .ok (.iadd, 1) := by decide +kernel
theorem dX12_another_7 : decode cX12_another 7 = .ok (.iaload, 1) := by decide +kernel
theorem dX12_another_8 : decode cX12_another 8 = .ok (.iload_n 2, 1) := by decide +kernel
theorem dX12_another_9 : decode cX12_another 9 = .ok (.if_icmp .ne 8, 3) := by decide +kernel
theorem dX12_another_12 : decode cX12_another 12 = .ok (.aload_n 0, 1) := by decide +kernel
theorem dX12_another_13 : decode cX12_another 13 = .ok (.iconst 2, 1) := by decide +kernel
theorem dX12_another_14 : decode cX12_another 14 = .ok (.invokevirtual 254, 3) := by decide +kernel
theorem dX12_another_17 : decode cX12_another 17 = .ok (.aload_n 0, 1) := by decide +kernel
theorem dX12_another_18 : decode cX12_another 18 = .ok (.getfield 233, 3) := by decide +kernel
theorem dX12_another_21 : decode cX12_another 21 = .ok (.ifCond .eq 5, 3) := by decide +kernel
theorem dX12_another_24 : decode cX12_another 24 = .ok (.iconst 0, 1) := by decide +kernel
theorem dX12_another_25 : decode cX12_another 25 = .ok (.ireturn, 1) := by decide +kernel
theorem dX12_another_26 : decode cX12_another 26 = .ok (.aload_n 0, 1) := by decide +kernel
theorem dX12_another_27 : decode cX12_another 27 = .ok (.invokevirtual 258, 3) := by decide +kernel
theorem dX12_another_30 : decode cX12_another 30 = .ok (.iconst 1, 1) := by decide +kernel
theorem dX12_another_31 : decode cX12_another 31 = .ok (.ireturn, 1) := by decide +kernel
theorem dX12_sayPerson_0 : decode cX12_sayPerson 0 = .ok (.aload_n 0, 1) := by decide +kernel
theorem dX12_sayPerson_1 : decode cX12_sayPerson 1 = .ok (.iconst 0, 1) := by decide +kernel
theorem dX12_sayPerson_2 : decode cX12_sayPerson 2 = .ok (.bipush 9, 2) := by decide +kernel
theorem dX12_sayPerson_4 : decode cX12_sayPerson 4 = .ok (.invokevirtual 305, 3) := by decide +kernel
theorem dX12_sayPerson_7 : decode cX12_sayPerson 7 = .ok (.ifCond .ne 4, 3) := by decide +kernel
theorem dX12_sayPerson_10 : decode cX12_sayPerson 10 = .ok (.return_, 1) := by decide +kernel
theorem dX12_sayPerson_11 : decode cX12_sayPerson 11 = .ok (.bipush 9, 2) := by decide +kernel
theorem dX12_sayPerson_13 : decode cX12_sayPerson 13 = .ok (.aload_n 0, 1) := by decide +kernel
theorem dX12_sayPerson_14 : decode cX12_sayPerson 14 = .ok (.getfield 48, 3) := by decide +kernel
theorem dX12_sayPerson_17 : decode cX12_sayPerson 17 = .ok (.iconst 5, 1) := by decide +kernel
theorem dX12_sayPerson_18 : decode cX12_sayPerson 18 = .ok (.iaload, 1) := by decide +kernel
theorem dX12_sayPerson_19 : decode cX12_sayPerson 19 = .ok (.iadd, 1) := by decide +kernel
theorem dX12_sayPerson_20 : decode cX12_sayPerson 20 = .ok (.istore_n 2, 1) := by decide +kernel
theorem dX12_sayPerson_21 : decode cX12_sayPerson 21 = .ok (.aload_n 0, 1) := by decide +kernel
theorem dX12_sayPerson_22 : decode cX12_sayPerson 22 = .ok (.getfield 52, 3) := by decide +kernel
theorem dX12_sayPerson_25 : decode cX12_sayPerson 25 = .ok (.iload_n 2, 1) := by decide +kernel
theorem dX12_sayPerson_26 : decode cX12_sayPerson 26 = .ok (.iload_n 1, 1) := by decide +kernel
theorem dX12_sayPerson_27 : decode cX12_sayPerson 27 = .ok (.iastore, 1) := by decide +kernel
theorem dX12_sayPerson_28 : decode cX12_sayPerson 28 = .ok (.aload_n 0, 1) := by decide +kernel
theorem dX12_sayPerson_29 : decode cX12_sayPerson 29 = .ok (.getfield 54, 3) := by decide +kernel
theorem dX12_sayPerson_32 : decode cX12_sayPerson 32 = .ok (.iload_n 2, 1) := by decide +kernel
theorem dX12_sayPerson_33 : decode cX12_sayPerson 33 = .ok (.aload_n 0, 1) := by decide +kernel
theorem dX12_sayPerson_34 : decode cX12_sayPerson 34 = .ok (.iconst 0, 1) := by decide +kernel
theorem dX12_sayPerson_35 : decode cX12_sayPerson 35 = .ok (.bipush 99, 2) := by decide +kernel
theorem dX12_sayPerson_37 : decode cX12_sayPerson 37 = .ok (.invokevirtual 268, 3) := by decide +kernel
theorem dX12_sayPerson_40 : decode cX12_sayPerson 40 = .ok (.iastore, 1) := by decide +kernel
theorem dX12_sayPerson_41 : decode cX12_sayPerson 41 = .ok (.aload_n 0, 1) := by decide +kernel
theorem dX12_sayPerson_42 : decode cX12_sayPerson 42 = .ok (.getfield 57, 3) := by decide +kernel
theorem dX12_sayPerson_45 : decode cX12_sayPerson 45 = .ok (.iload_n 2, 1) := by decide +kernel
theorem dX12_sayPerson_46 : decode cX12_sayPerson 46 = .ok (.aload_n 0, 1) := by decide +kernel
theorem dX12_sayPerson_47 : decode cX12_sayPerson 47 = .ok (.iconst 0, 1) := by decide +kernel
theorem dX12_sayPerson_48 : decode cX12_sayPerson 48 = .ok (.bipush 9, 2) := by decide +kernel
theorem dX12_sayPerson_50 : decode cX12_sayPerson 50 = .ok (.invokevirtual 268, 3) := by decide +kernel
theorem dX12_sayPerson_53 : decode cX12_sayPerson 53 = .ok (.iastore, 1) := by decide +kernel
theorem dX12_sayPerson_54 : decode cX12_sayPerson 54 = .ok (.aload_n 0, 1) := by decide +kernel
theorem dX12_sayPerson_55 : decode cX12_sayPerson 55 = .ok (.getfield 60, 3) := by decide +kernel
theorem dX12_sayPerson_58 : decode cX12_sayPerson 58 = .ok (.iload_n 2, 1) := by decide +kernel
theorem dX12_sayPerson_59 : decode cX12_sayPerson 59 = .ok (.aload_n 0, 1) := by decide +kernel
theorem dX12_sayPerson_60 : decode cX12_sayPerson 60 = .ok (.iconst 0, 1) := by decide +kernel
theorem dX12_sayPerson_61 : decode cX12_sayPerson 61 = .ok (.bipush 9, 2) := by decide +kernel
theorem dX12_sayPerson_63 : decode cX12_sayPerson 63 = .ok (.invokevirtual 268, 3) := by decide +kernel
theorem dX12_sayPerson_66 : decode cX12_sayPerson 66 = .ok (.iastore, 1) := by decide +kernel
theorem dX12_sayPerson_67 : decode cX12_sayPerson 67 = .ok (.aload_n 0, 1) := by decide +kernel
theorem dX12_sayPerson_68 : decode cX12_sayPerson 68 = .ok (.getfield 48, 3) := by decide +kernel
theorem dX12_sayPerson_71 : decode cX12_sayPerson 71 = .ok (.iconst 5, 1) := by decide +kernel
theorem dX12_sayPerson_72 : decode cX12_sayPerson 72 = .ok (.dup2, 1) := by decide +kernel
theorem dX12_sayPerson_73 : decode cX12_sayPerson 73 = .ok (.iaload, 1) := by decide +kernel
theorem dX12_sayPerson_74 : decode cX12_sayPerson 74 = .ok (.iconst 1, 1) := by decide +kernel
theorem dX12_sayPerson_75 : decode cX12_sayPerson 75 = .ok (.iadd, 1) := by decide +kernel
theorem dX12_sayPerson_76 : decode cX12_sayPerson 76 = .ok (.iastore, 1) := by decide +kernel
theorem dX12_sayPerson_77 : decode cX12_sayPerson 77 = .ok (.return_, 1) := by decide +kernel
theorem dX12_sayBride_0 : decode cX12_sayBride 0 = .ok (.aload_n 0, 1) := by decide +kernel
theorem dX12_sayBride_1 : decode cX12_sayBride 1 = .ok (.iconst 1, 1) := by decide +kernel
theorem dX12_sayBride_2 : decode cX12_sayBride 2 = .ok (.bipush 6, 2) := by decide +kernel
theorem dX12_sayBride_4 : decode cX12_sayBride 4 = .ok (.invokevirtual 305, 3) := by decide +kernel
theorem dX12_sayBride_7 : decode cX12_sayBride 7 = .ok (.ifCond .ne 4, 3) := by decide +kernel
theorem dX12_sayBride_10 : decode cX12_sayBride 10 = .ok (.return_, 1) := by decide +kernel
theorem dX12_sayBride_11 : decode cX12_sayBride 11 = .ok (.aload_n 0, 1) := by decide +kernel
theorem dX12_sayBride_12 : decode cX12_sayBride 12 = .ok (.getfield 63, 3) := by decide +kernel
theorem dX12_sayBride_15 : decode cX12_sayBride 15 = .ok (.bipush 6, 2) := by decide +kernel
theorem dX12_sayBride_17 : decode cX12_sayBride 17 = .ok (.aload_n 0, 1) := by decide +kernel
theorem dX12_sayBride_18 : decode cX12_sayBride 18 = .ok (.getfield 48, 3) := by decide +kernel
theorem dX12_sayBride_21 : decode cX12_sayBride 21 = .ok (.bipush 6, 2) := by decide +kernel
theorem dX12_sayBride_23 : decode cX12_sayBride 23 = .ok (.iaload, 1) := by decide +kernel
theorem dX12_sayBride_24 : decode cX12_sayBride 24 = .ok (.iadd, 1) := by decide +kernel
theorem dX12_sayBride_25 : decode cX12_sayBride 25 = .ok (.aload_n 0, 1) := by decide +kernel
theorem dX12_sayBride_26 : decode cX12_sayBride 26 = .ok (.iconst 0, 1) := by decide +kernel
theorem dX12_sayBride_27 : decode cX12_sayBride 27 = .ok (.bipush 60, 2) := by decide +kernel
theorem dX12_sayBride_29 : decode cX12_sayBride 29 = .ok (.invokevirtual 268, 3) := by decide +kernel
theorem dX12_sayBride_32 : decode cX12_sayBride 32 = .ok (.iastore, 1) := by decide +kernel
theorem dX12_sayBride_33 : decode cX12_sayBride 33 = .ok (.aload_n 0, 1) := by decide +kernel
theorem dX12_sayBride_34 : decode cX12_sayBride 34 = .ok (.getfield 48, 3) := by decide +kernel
theorem dX12_sayBride_37 : decode cX12_sayBride 37 = .ok (.bipush 6, 2) := by decide +kernel
theorem dX12_sayBride_39 : decode cX12_sayBride 39 = .ok (.dup2, 1) := by decide +kernel
theorem dX12_sayBride_40 : decode cX12_sayBride 40 = .ok (.iaload, 1) := by decide +kernel
theorem dX12_sayBride_41 : decode cX12_sayBride 41 = .ok (.iconst 1, 1) := by decide +kernel
theorem dX12_sayBride_42 : decode cX12_sayBride 42 = .ok (.iadd, 1) := by decide +kernel
theorem dX12_sayBride_43 : decode cX12_sayBride 43 = .ok (.iastore, 1) := by decide +kernel
theorem dX12_sayBride_44 : decode cX12_sayBride 44 = .ok (.return_, 1) := by decide +kernel
theorem dX12_sayTie_0 : decode cX12_sayTie 0 = .ok (.aload_n 0, 1) := by decide +kernel
theorem dX12_sayTie_1 : decode cX12_sayTie 1 = .ok (.iconst 2, 1) := by decide +kernel
theorem dX12_sayTie_2 : decode cX12_sayTie 2 = .ok (.bipush 24, 2) := by decide +kernel
theorem dX12_sayTie_4 : decode cX12_sayTie 4 = .ok (.invokevirtual 305, 3) := by decide +kernel
theorem dX12_sayTie_7 : decode cX12_sayTie 7 = .ok (.ifCond .ne 4, 3) := by decide +kernel
theorem dX12_sayTie_10 : decode cX12_sayTie 10 = .ok (.return_, 1) := by decide +kernel
theorem dX12_sayTie_11 : decode cX12_sayTie 11 = .ok (.aload_n 0, 1) := by decide +kernel
theorem dX12_sayTie_12 : decode cX12_sayTie 12 = .ok (.iconst 0, 1) := by decide +kernel
theorem dX12_sayTie_13 : decode cX12_sayTie 13 = .ok (.invokevirtual 309, 3) := by decide +kernel
theorem dX12_sayTie_16 : decode cX12_sayTie 16 = .ok (.istore_n 1, 1) := by decide +kernel
theorem dX12_sayTie_17 : decode cX12_sayTie 17 = .ok (.aload_n 0, 1) := by decide +kernel
theorem dX12_sayTie_18 : decode cX12_sayTie 18 = .ok (.getfield 233, 3) := by decide +kernel
theorem dX12_sayTie_21 : decode cX12_sayTie 21 = .ok (.ifCond .ne 7, 3) := by decide +kernel
theorem dX12_sayTie_24 : decode cX12_sayTie 24 = .ok (.aload_n 0, 1) := by decide +kernel
theorem dX12_sayTie_25 : decode cX12_sayTie 25 = .ok (.invokevirtual 258, 3) := by decide +kernel
theorem dX12_sayTie_28 : decode cX12_sayTie 28 = .ok (.aload_n 0, 1) := by decide +kernel
theorem dX12_sayTie_29 : decode cX12_sayTie 29 = .ok (.iconst 1, 1) := by decide +kernel
theorem dX12_sayTie_30 : decode cX12_sayTie 30 = .ok (.invokevirtual 309, 3) := by decide +kernel
theorem dX12_sayTie_33 : decode cX12_sayTie 33 = .ok (.istore_n 2, 1) := by decide +kernel
theorem dX12_sayTie_34 : decode cX12_sayTie 34 = .ok (.bipush 54, 2) := by decide +kernel
theorem dX12_sayTie_36 : decode cX12_sayTie 36 = .ok (.bipush 6, 2) := by decide +kernel
theorem dX12_sayTie_38 : decode cX12_sayTie 38 = .ok (.iload_n 1, 1) := by decide +kernel
theorem dX12_sayTie_39 : decode cX12_sayTie 39 = .ok (.imul, 1) := by decide +kernel
theorem dX12_sayTie_40 : decode cX12_sayTie 40 = .ok (.iadd, 1) := by decide +kernel
theorem dX12_sayTie_41 : decode cX12_sayTie 41 = .ok (.iload_n 2, 1) := by decide +kernel
theorem dX12_sayTie_42 : decode cX12_sayTie 42 = .ok (.iadd, 1) := by decide +kernel
theorem dX12_sayTie_43 : decode cX12_sayTie 43 = .ok (.istore_n 3, 1) := by decide +kernel
theorem dX12_sayTie_44 : decode cX12_sayTie 44 = .ok (.aload_n 0, 1) := by decide +kernel
theorem dX12_sayTie_45 : decode cX12_sayTie 45 = .ok (.getfield 233, 3) := by decide +kernel
theorem dX12_sayTie_48 : decode cX12_sayTie 48 = .ok (.ifCond .ne 17, 3) := by decide +kernel
theorem dX12_sayTie_51 : decode cX12_sayTie 51 = .ok (.aload_n 0, 1) := by decide +kernel
theorem dX12_sayTie_52 : decode cX12_sayTie 52 = .ok (.getfield 66, 3) := by decide +kernel
theorem dX12_sayTie_55 : decode cX12_sayTie 55 = .ok (.iload_n 3, 1) := by decide +kernel
theorem dX12_sayTie_56 : decode cX12_sayTie 56 = .ok (.iaload, 1) := by decide +kernel
theorem dX12_sayTie_57 : decode cX12_sayTie 57 = .ok (.ifCond .le 8, 3) := by decide +kernel
theorem dX12_sayTie_60 : decode cX12_sayTie 60 = .ok (.aload_n 0, 1) := by decide +kernel
theorem dX12_sayTie_61 : decode cX12_sayTie 61 = .ok (.iconst 4, 1) := by decide +kernel
theorem dX12_sayTie_62 : decode cX12_sayTie 62 = .ok (.invokevirtual 254, 3) := by decide +kernel
theorem dX12_sayTie_65 : decode cX12_sayTie 65 = .ok (.aload_n 0, 1) := by decide +kernel
theorem dX12_sayTie_66 : decode cX12_sayTie 66 = .ok (.getfield 233, 3) := by decide +kernel
theorem dX12_sayTie_69 : decode cX12_sayTie 69 = .ok (.ifCond .ne 7, 3) := by decide +kernel
theorem dX12_sayTie_72 : decode cX12_sayTie 72 = .ok (.aload_n 0, 1) := by decide +kernel
theorem dX12_sayTie_73 : decode cX12_sayTie 73 = .ok (.invokevirtual 258, 3) := by decide +kernel
theorem dX12_sayTie_76 : decode cX12_sayTie 76 = .ok (.aload_n 0, 1) := by decide +kernel
theorem dX12_sayTie_77 : decode cX12_sayTie 77 = .ok (.iconst 1, 1) := by decide +kernel
theorem dX12_sayTie_78 : decode cX12_sayTie 78 = .ok (.bipush 40, 2) := by decide +kernel
theorem dX12_sayTie_80 : decode cX12_sayTie 80 = .ok (.invokevirtual 268, 3) := by decide +kernel
theorem dX12_sayTie_83 : decode cX12_sayTie 83 = .ok (.istore 4, 2) := by decide +kernel
theorem dX12_sayTie_85 : decode cX12_sayTie 85 = .ok (.aload_n 0, 1) := by decide +kernel
theorem dX12_sayTie_86 : decode cX12_sayTie 86 = .ok (.getfield 233, 3) := by decide +kernel
theorem dX12_sayTie_89 : decode cX12_sayTie 89 = .ok (.ifCond .eq 4, 3) := by decide +kernel
theorem dX12_sayTie_92 : decode cX12_sayTie 92 = .ok (.return_, 1) := by decide +kernel
theorem dX12_sayTie_93 : decode cX12_sayTie 93 = .ok (.aload_n 0, 1) := by decide +kernel
theorem dX12_sayTie_94 : decode cX12_sayTie 94 = .ok (.getfield 66, 3) := by decide +kernel
theorem dX12_sayTie_97 : decode cX12_sayTie 97 = .ok (.iload_n 3, 1) := by decide +kernel
theorem dX12_sayTie_98 : decode cX12_sayTie 98 = .ok (.iload 4, 2) := by decide +kernel
theorem dX12_sayTie_100 : decode cX12_sayTie 100 = .ok (.iastore, 1) := by decide +kernel
theorem dX12_sayTie_101 : decode cX12_sayTie 101 = .ok (.aload_n 0, 1) := by decide +kernel
theorem dX12_sayTie_102 : decode cX12_sayTie 102 = .ok (.getfield 48, 3) := by decide +kernel
theorem dX12_sayTie_105 : decode cX12_sayTie 105 = .ok (.bipush 7, 2) := by decide +kernel
theorem dX12_sayTie_107 : decode cX12_sayTie 107 = .ok (.dup2, 1) := by decide +kernel
theorem dX12_sayTie_108 : decode cX12_sayTie 108 = .ok (.iaload, 1) := by decide +kernel
theorem dX12_sayTie_109 : decode cX12_sayTie 109 = .ok (.iconst 1, 1) := by decide +kernel
theorem dX12_sayTie_110 : decode cX12_sayTie 110 = .ok (.iadd, 1) := by decide +kernel
theorem dX12_sayTie_111 : decode cX12_sayTie 111 = .ok (.iastore, 1) := by decide +kernel
theorem dX12_sayTie_112 : decode cX12_sayTie 112 = .ok (.return_, 1) := by decide +kernel
theorem dX12_readLine_0 : decode cX12_readLine 0 = .ok (.aload_n 0, 1) := by decide +kernel
theorem dX12_readLine_1 : decode cX12_readLine 1 = .ok (.aload_n 0, 1) := by decide +kernel
theorem dX12_readLine_2 : decode cX12_readLine 2 = .ok (.getfield 19, 3) := by decide +kernel
theorem dX12_readLine_5 : decode cX12_readLine 5 = .ok (.invokevirtual 274, 3) := by decide +kernel
theorem dX12_readLine_8 : decode cX12_readLine 8 = .ok (.istore_n 2, 1) := by decide +kernel
theorem dX12_readLine_9 : decode cX12_readLine 9 = .ok (.aload_n 0, 1) := by decide +kernel
theorem dX12_readLine_10 : decode cX12_readLine 10 = .ok (.ldc_w 312, 3) := by decide +kernel
theorem dX12_readLine_13 : decode cX12_readLine 13 = .ok (.invokevirtual 247, 3) := by decide +kernel
theorem dX12_readLine_16 : decode cX12_readLine 16 = .ok (.ifCond .eq 7, 3) := by decide +kernel
theorem dX12_readLine_19 : decode cX12_readLine 19 = .ok (.iconst 1, 1) := by decide +kernel
theorem dX12_readLine_20 : decode cX12_readLine 20 = .ok (.goto 18, 3) := by decide +kernel
theorem dX12_readLine_23 : decode cX12_readLine 23 = .ok (.aload_n 0, 1) := by decide +kernel
theorem dX12_readLine_24 : decode cX12_readLine 24 = .ok (.ldc_w 314, 3) := by decide +kernel
theorem dX12_readLine_27 : decode cX12_readLine 27 = .ok (.invokevirtual 247, 3) := by decide +kernel
theorem dX12_readLine_30 : decode cX12_readLine 30 = .ok (.ifCond .eq 7, 3) := by decide +kernel
theorem dX12_readLine_33 : decode cX12_readLine 33 = .ok (.iconst 2, 1) := by decide +kernel
theorem dX12_readLine_34 : decode cX12_readLine 34 = .ok (.goto 4, 3) := by decide +kernel
theorem dX12_readLine_37 : decode cX12_readLine 37 = .ok (.iconst 0, 1) := by decide +kernel
theorem dX12_readLine_38 : decode cX12_readLine 38 = .ok (.istore_n 3, 1) := by decide +kernel
theorem dX12_readLine_39 : decode cX12_readLine 39 = .ok (.iload_n 3, 1) := by decide +kernel
theorem dX12_readLine_40 : decode cX12_readLine 40 = .ok (.iload_n 1, 1) := by decide +kernel
theorem dX12_readLine_41 : decode cX12_readLine 41 = .ok (.iand, 1) := by decide +kernel
theorem dX12_readLine_42 : decode cX12_readLine 42 = .ok (.ifCond .eq 8, 3) := by decide +kernel
theorem dX12_readLine_45 : decode cX12_readLine 45 = .ok (.aload_n 0, 1) := by decide +kernel
theorem dX12_readLine_46 : decode cX12_readLine 46 = .ok (.iconst 5, 1) := by decide +kernel
theorem dX12_readLine_47 : decode cX12_readLine 47 = .ok (.invokevirtual 254, 3) := by decide +kernel
theorem dX12_readLine_50 : decode cX12_readLine 50 = .ok (.iload_n 3, 1) := by decide +kernel
theorem dX12_readLine_51 : decode cX12_readLine 51 = .ok (.ifCond .le 58, 3) := by decide +kernel
theorem dX12_readLine_54 : decode cX12_readLine 54 = .ok (.aload_n 0, 1) := by decide +kernel
theorem dX12_readLine_55 : decode cX12_readLine 55 = .ok (.getfield 233, 3) := by decide +kernel
theorem dX12_readLine_58 : decode cX12_readLine 58 = .ok (.ifCond .ne 7, 3) := by decide +kernel
theorem dX12_readLine_61 : decode cX12_readLine 61 = .ok (.aload_n 0, 1) := by decide +kernel
theorem dX12_readLine_62 : decode cX12_readLine 62 = .ok (.invokevirtual 258, 3) := by decide +kernel
theorem dX12_readLine_65 : decode cX12_readLine 65 = .ok (.aload_n 0, 1) := by decide +kernel
theorem dX12_readLine_66 : decode cX12_readLine 66 = .ok (.iload_n 3, 1) := by decide +kernel
theorem dX12_readLine_67 : decode cX12_readLine 67 = .ok (.iconst 2, 1) := by decide +kernel
theorem dX12_readLine_68 : decode cX12_readLine 68 = .ok (.if_icmp .ne 7, 3) := by decide +kernel
theorem dX12_readLine_71 : decode cX12_readLine 71 = .ok (.iconst 1, 1) := by decide +kernel
theorem dX12_readLine_72 : decode cX12_readLine 72 = .ok (.goto 4, 3) := by decide +kernel
theorem dX12_readLine_75 : decode cX12_readLine 75 = .ok (.iconst 0, 1) := by decide +kernel
theorem dX12_readLine_76 : decode cX12_readLine 76 = .ok (.putfield 264, 3) := by decide +kernel
theorem dX12_readLine_79 : decode cX12_readLine 79 = .ok (.aload_n 0, 1) := by decide +kernel
theorem dX12_readLine_80 : decode cX12_readLine 80 = .ok (.aload_n 0, 1) := by decide +kernel
theorem dX12_readLine_81 : decode cX12_readLine 81 = .ok (.getfield 264, 3) := by decide +kernel
theorem dX12_readLine_84 : decode cX12_readLine 84 = .ok (.ifCond .eq 10, 3) := by decide +kernel
theorem dX12_readLine_87 : decode cX12_readLine 87 = .ok (.aload_n 0, 1) := by decide +kernel
theorem dX12_readLine_88 : decode cX12_readLine 88 = .ok (.getfield 42, 3) := by decide +kernel
theorem dX12_readLine_91 : decode cX12_readLine 91 = .ok (.goto 7, 3) := by decide +kernel
theorem dX12_readLine_94 : decode cX12_readLine 94 = .ok (.aload_n 0, 1) := by decide +kernel
theorem dX12_readLine_95 : decode cX12_readLine 95 = .ok (.getfield 39, 3) := by decide +kernel
theorem dX12_readLine_98 : decode cX12_readLine 98 = .ok (.putfield 45, 3) := by decide +kernel
theorem dX12_readLine_101 : decode cX12_readLine 101 = .ok (.aload_n 0, 1) := by decide +kernel
theorem dX12_readLine_102 : decode cX12_readLine 102 = .ok (.iconst 0, 1) := by decide +kernel
theorem dX12_readLine_103 : decode cX12_readLine 103 = .ok (.invokevirtual 281, 3) := by decide +kernel
theorem dX12_readLine_106 : decode cX12_readLine 106 = .ok (.goto 55, 3) := by decide +kernel
theorem dX12_readLine_109 : decode cX12_readLine 109 = .ok (.iload_n 2, 1) := by decide +kernel
theorem dX12_readLine_110 : decode cX12_readLine 110 = .ok (.iconst (-1), 1) := by decide +kernel
theorem dX12_readLine_111 : decode cX12_readLine 111 = .ok (.if_icmp .eq 11, 3) := by decide +kernel
theorem dX12_readLine_114 : decode cX12_readLine 114 = .ok (.aload_n 0, 1) := by decide +kernel
theorem dX12_readLine_115 : decode cX12_readLine 115 = .ok (.iload_n 2, 1) := by decide +kernel
theorem dX12_readLine_116 : decode cX12_readLine 116 = .ok (.invokevirtual 316, 3) := by decide +kernel
theorem dX12_readLine_119 : decode cX12_readLine 119 = .ok (.goto 42, 3) := by decide +kernel
theorem dX12_readLine_122 : decode cX12_readLine 122 = .ok (.aload_n 0, 1) := by decide +kernel
theorem dX12_readLine_123 : decode cX12_readLine 123 = .ok (.ldc_w 319, 3) := by decide +kernel
theorem dX12_readLine_126 : decode cX12_readLine 126 = .ok (.invokevirtual 247, 3) := by decide +kernel
theorem dX12_readLine_129 : decode cX12_readLine 129 = .ok (.ifCond .eq 10, 3) := by decide +kernel
theorem dX12_readLine_132 : decode cX12_readLine 132 = .ok (.aload_n 0, 1) := by decide +kernel
theorem dX12_readLine_133 : decode cX12_readLine 133 = .ok (.invokevirtual 321, 3) := by decide +kernel
theorem dX12_readLine_136 : decode cX12_readLine 136 = .ok (.goto 25, 3) := by decide +kernel
theorem dX12_readLine_139 : decode cX12_readLine 139 = .ok (.aload_n 0, 1) := by decide +kernel
theorem dX12_readLine_140 : decode cX12_readLine 140 = .ok (.ldc_w 324, 3) := by decide +kernel
theorem dX12_readLine_143 : decode cX12_readLine 143 = .ok (.invokevirtual 247, 3) := by decide +kernel
theorem dX12_readLine_146 : decode cX12_readLine 146 = .ok (.ifCond .eq 10, 3) := by decide +kernel
theorem dX12_readLine_149 : decode cX12_readLine 149 = .ok (.aload_n 0, 1) := by decide +kernel
theorem dX12_readLine_150 : decode cX12_readLine 150 = .ok (.invokevirtual 326, 3) := by decide +kernel
theorem dX12_readLine_153 : decode cX12_readLine 153 = .ok (.goto 8, 3) := by decide +kernel
theorem dX12_readLine_156 : decode cX12_readLine 156 = .ok (.aload_n 0, 1) := by decide +kernel
theorem dX12_readLine_157 : decode cX12_readLine 157 = .ok (.iconst 1, 1) := by decide +kernel
theorem dX12_readLine_158 : decode cX12_readLine 158 = .ok (.invokevirtual 254, 3) := by decide +kernel
theorem dX12_readLine_161 : decode cX12_readLine 161 = .ok (.aload_n 0, 1) := by decide +kernel
theorem dX12_readLine_162 : decode cX12_readLine 162 = .ok (.bipush 59, 2) := by decide +kernel
theorem dX12_readLine_164 : decode cX12_readLine 164 = .ok (.invokevirtual 278, 3) := by decide +kernel
theorem dX12_readLine_167 : decode cX12_readLine 167 = .ok (.iload_n 1, 1) := by decide +kernel
theorem dX12_readLine_168 : decode cX12_readLine 168 = .ok (.iload_n 3, 1) := by decide +kernel
theorem dX12_readLine_169 : decode cX12_readLine 169 = .ok (.ior, 1) := by decide +kernel
theorem dX12_readLine_170 : decode cX12_readLine 170 = .ok (.ireturn, 1) := by decide +kernel
theorem dX12_dale_0 : decode cX12_dale 0 = .ok (.aload_n 0, 1) := by decide +kernel
theorem dX12_dale_1 : decode cX12_dale 1 = .ok (.iconst 0, 1) := by decide +kernel
theorem dX12_dale_2 : decode cX12_dale 2 = .ok (.putfield 184, 3) := by decide +kernel
theorem dX12_dale_5 : decode cX12_dale 5 = .ok (.iload_n 1, 1) := by decide +kernel
theorem dX12_dale_6 : decode cX12_dale 6 = .ok (.ifCond .lt 11, 3) := by decide +kernel
theorem dX12_dale_9 : decode cX12_dale 9 = .ok (.iload_n 1, 1) := by decide +kernel
theorem dX12_dale_10 : decode cX12_dale 10 = .ok (.aload_n 0, 1) := by decide +kernel
theorem dX12_dale_11 : decode cX12_dale 11 = .ok (.getfield 191, 3) := by decide +kernel
theorem dX12_dale_14 : decode cX12_dale 14 = .ok (.if_icmp .le 9, 3) := by decide +kernel
theorem dX12_dale_17 : decode cX12_dale 17 = .ok (.aload_n 0, 1) := by decide +kernel
theorem dX12_dale_18 : decode cX12_dale 18 = .ok (.iconst 1, 1) := by decide +kernel
theorem dX12_dale_19 : decode cX12_dale 19 = .ok (.invokevirtual 329, 3) := by decide +kernel
theorem dX12_dale_22 : decode cX12_dale 22 = .ok (.ireturn, 1) := by decide +kernel
theorem dX12_dale_23 : decode cX12_dale 23 = .ok (.aload_n 0, 1) := by decide +kernel
theorem dX12_dale_24 : decode cX12_dale 24 = .ok (.iconst 0, 1) := by decide +kernel
theorem dX12_dale_25 : decode cX12_dale 25 = .ok (.putfield 191, 3) := by decide +kernel
theorem dX12_dale_28 : decode cX12_dale 28 = .ok (.aload_n 0, 1) := by decide +kernel
theorem dX12_dale_29 : decode cX12_dale 29 = .ok (.iload_n 1, 1) := by decide +kernel
theorem dX12_dale_30 : decode cX12_dale 30 = .ok (.putfield 194, 3) := by decide +kernel
theorem dX12_dale_33 : decode cX12_dale 33 = .ok (.aload_n 0, 1) := by decide +kernel
theorem dX12_dale_34 : decode cX12_dale 34 = .ok (.iconst 0, 1) := by decide +kernel
theorem dX12_dale_35 : decode cX12_dale 35 = .ok (.putfield 197, 3) := by decide +kernel
theorem dX12_dale_38 : decode cX12_dale 38 = .ok (.aload_n 0, 1) := by decide +kernel
theorem dX12_dale_39 : decode cX12_dale 39 = .ok (.iconst 0, 1) := by decide +kernel
theorem dX12_dale_40 : decode cX12_dale 40 = .ok (.putfield 233, 3) := by decide +kernel
theorem dX12_dale_43 : decode cX12_dale 43 = .ok (.aload_n 0, 1) := by decide +kernel
theorem dX12_dale_44 : decode cX12_dale 44 = .ok (.iconst (-1), 1) := by decide +kernel
theorem dX12_dale_45 : decode cX12_dale 45 = .ok (.putfield 81, 3) := by decide +kernel
theorem dX12_dale_48 : decode cX12_dale 48 = .ok (.iconst 0, 1) := by decide +kernel
theorem dX12_dale_49 : decode cX12_dale 49 = .ok (.istore_n 2, 1) := by decide +kernel
theorem dX12_dale_50 : decode cX12_dale 50 = .ok (.iload_n 2, 1) := by decide +kernel
theorem dX12_dale_51 : decode cX12_dale 51 = .ok (.iconst 5, 1) := by decide +kernel
theorem dX12_dale_52 : decode cX12_dale 52 = .ok (.if_icmp .ge 18, 3) := by decide +kernel
theorem dX12_dale_55 : decode cX12_dale 55 = .ok (.aload_n 0, 1) := by decide +kernel
theorem dX12_dale_56 : decode cX12_dale 56 = .ok (.getfield 48, 3) := by decide +kernel
theorem dX12_dale_59 : decode cX12_dale 59 = .ok (.iconst 5, 1) := by decide +kernel
theorem dX12_dale_60 : decode cX12_dale 60 = .ok (.iload_n 2, 1) := by decide +kernel
theorem dX12_dale_61 : decode cX12_dale 61 = .ok (.iadd, 1) := by decide +kernel
theorem dX12_dale_62 : decode cX12_dale 62 = .ok (.iconst 0, 1) := by decide +kernel
theorem dX12_dale_63 : decode cX12_dale 63 = .ok (.iastore, 1) := by decide +kernel
theorem dX12_dale_64 : decode cX12_dale 64 = .ok (.iinc 2 1, 3) := by decide +kernel
theorem dX12_dale_67 : decode cX12_dale 67 = .ok (.goto (-17), 3) := by decide +kernel
theorem dX12_dale_70 : decode cX12_dale 70 = .ok (.iconst 0, 1) := by decide +kernel
theorem dX12_dale_71 : decode cX12_dale 71 = .ok (.istore_n 2, 1) := by decide +kernel
theorem dX12_dale_72 : decode cX12_dale 72 = .ok (.iload_n 2, 1) := by decide +kernel
theorem dX12_dale_73 : decode cX12_dale 73 = .ok (.bipush 54, 2) := by decide +kernel
theorem dX12_dale_75 : decode cX12_dale 75 = .ok (.if_icmp .ge 19, 3) := by decide +kernel
theorem dX12_dale_78 : decode cX12_dale 78 = .ok (.aload_n 0, 1) := by decide +kernel
theorem dX12_dale_79 : decode cX12_dale 79 = .ok (.getfield 66, 3) := by decide +kernel
theorem dX12_dale_82 : decode cX12_dale 82 = .ok (.bipush 54, 2) := by decide +kernel
theorem dX12_dale_84 : decode cX12_dale 84 = .ok (.iload_n 2, 1) := by decide +kernel
theorem dX12_dale_85 : decode cX12_dale 85 = .ok (.iadd, 1) := by decide +kernel
theorem dX12_dale_86 : decode cX12_dale 86 = .ok (.iconst 0, 1) := by decide +kernel
theorem dX12_dale_87 : decode cX12_dale 87 = .ok (.iastore, 1) := by decide +kernel
theorem dX12_dale_88 : decode cX12_dale 88 = .ok (.iinc 2 1, 3) := by decide +kernel
theorem dX12_dale_91 : decode cX12_dale 91 = .ok (.goto (-19), 3) := by decide +kernel
theorem dX12_dale_94 : decode cX12_dale 94 = .ok (.aload_n 0, 1) := by decide +kernel
theorem dX12_dale_95 : decode cX12_dale 95 = .ok (.invokevirtual 258, 3) := by decide +kernel
theorem dX12_dale_98 : decode cX12_dale 98 = .ok (.iconst 0, 1) := by decide +kernel
theorem dX12_dale_99 : decode cX12_dale 99 = .ok (.istore_n 2, 1) := by decide +kernel
theorem dX12_dale_100 : decode cX12_dale 100 = .ok (.aload_n 0, 1) := by decide +kernel
theorem dX12_dale_101 : decode cX12_dale 101 = .ok (.getfield 233, 3) := by decide +kernel
theorem dX12_dale_104 : decode cX12_dale 104 = .ok (.ifCond .ne 19, 3) := by decide +kernel
theorem dX12_dale_107 : decode cX12_dale 107 = .ok (.aload_n 0, 1) := by decide +kernel
theorem dX12_dale_108 : decode cX12_dale 108 = .ok (.getfield 207, 3) := by decide +kernel
theorem dX12_dale_111 : decode cX12_dale 111 = .ok (.ifCond .eq 12, 3) := by decide +kernel
theorem dX12_dale_114 : decode cX12_dale 114 = .ok (.aload_n 0, 1) := by decide +kernel
theorem dX12_dale_115 : decode cX12_dale 115 = .ok (.iload_n 2, 1) := by decide +kernel
theorem dX12_dale_116 : decode cX12_dale 116 = .ok (.invokevirtual 332, 3) := by decide +kernel
theorem dX12_dale_119 : decode cX12_dale 119 = .ok (.istore_n 2, 1) := by decide +kernel
theorem dX12_dale_120 : decode cX12_dale 120 = .ok (.goto (-20), 3) := by decide +kernel
theorem dX12_dale_123 : decode cX12_dale 123 = .ok (.aload_n 0, 1) := by decide +kernel
theorem dX12_dale_124 : decode cX12_dale 124 = .ok (.getfield 233, 3) := by decide +kernel
theorem dX12_dale_127 : decode cX12_dale 127 = .ok (.ifCond .eq 26, 3) := by decide +kernel
theorem dX12_dale_130 : decode cX12_dale 130 = .ok (.aload_n 0, 1) := by decide +kernel
theorem dX12_dale_131 : decode cX12_dale 131 = .ok (.aload_n 0, 1) := by decide +kernel
theorem dX12_dale_132 : decode cX12_dale 132 = .ok (.getfield 236, 3) := by decide +kernel
theorem dX12_dale_135 : decode cX12_dale 135 = .ok (.putfield 81, 3) := by decide +kernel
theorem dX12_dale_138 : decode cX12_dale 138 = .ok (.aload_n 0, 1) := by decide +kernel
theorem dX12_dale_139 : decode cX12_dale 139 = .ok (.getfield 75, 3) := by decide +kernel
theorem dX12_dale_142 : decode cX12_dale 142 = .ok (.iconst 0, 1) := by decide +kernel
theorem dX12_dale_143 : decode cX12_dale 143 = .ok (.dup2, 1) := by decide +kernel
theorem dX12_dale_144 : decode cX12_dale 144 = .ok (.iaload, 1) := by decide +kernel
theorem dX12_dale_145 : decode cX12_dale 145 = .ok (.iconst 1, 1) := by decide +kernel
theorem dX12_dale_146 : decode cX12_dale 146 = .ok (.iadd, 1) := by decide +kernel
theorem dX12_dale_147 : decode cX12_dale 147 = .ok (.iastore, 1) := by decide +kernel
theorem dX12_dale_148 : decode cX12_dale 148 = .ok (.aload_n 0, 1) := by decide +kernel
theorem dX12_dale_149 : decode cX12_dale 149 = .ok (.getfield 233, 3) := by decide +kernel
theorem dX12_dale_152 : decode cX12_dale 152 = .ok (.ireturn, 1) := by decide +kernel
theorem dX12_dale_153 : decode cX12_dale 153 = .ok (.aload_n 0, 1) := by decide +kernel
theorem dX12_dale_154 : decode cX12_dale 154 = .ok (.invokevirtual 335, 3) := by decide +kernel
theorem dX12_dale_157 : decode cX12_dale 157 = .ok (.iconst 0, 1) := by decide +kernel
theorem dX12_dale_158 : decode cX12_dale 158 = .ok (.ireturn, 1) := by decide +kernel
theorem dX12_takeHalf_0 : decode cX12_takeHalf 0 = .ok (.iconst 0, 1) := by decide +kernel
theorem dX12_takeHalf_1 : decode cX12_takeHalf 1 = .ok (.istore_n 1, 1) := by decide +kernel
theorem dX12_takeHalf_2 : decode cX12_takeHalf 2 = .ok (.iload_n 1, 1) := by decide +kernel
theorem dX12_takeHalf_3 : decode cX12_takeHalf 3 = .ok (.aload_n 0, 1) := by decide +kernel
theorem dX12_takeHalf_4 : decode cX12_takeHalf 4 = .ok (.arraylength, 1) := by decide +kernel
theorem dX12_takeHalf_5 : decode cX12_takeHalf 5 = .ok (.iconst 2, 1) := by decide +kernel
theorem dX12_takeHalf_6 : decode cX12_takeHalf 6 = .ok (.idiv, 1) := by decide +kernel
theorem dX12_takeHalf_7 : decode cX12_takeHalf 7 = .ok (.if_icmp .ge 20, 3) := by decide +kernel
theorem dX12_takeHalf_10 : decode cX12_takeHalf 10 = .ok (.aload_n 0, 1) := by decide +kernel
theorem dX12_takeHalf_11 : decode cX12_takeHalf 11 = .ok (.iload_n 1, 1) := by decide +kernel
theorem dX12_takeHalf_12 : decode cX12_takeHalf 12 = .ok (.aload_n 0, 1) := by decide +kernel
theorem dX12_takeHalf_13 : decode cX12_takeHalf 13 = .ok (.aload_n 0, 1) := by decide +kernel
theorem dX12_takeHalf_14 : decode cX12_takeHalf 14 = .ok (.arraylength, 1) := by decide +kernel
theorem dX12_takeHalf_15 : decode cX12_takeHalf 15 = .ok (.iconst 2, 1) := by decide +kernel
theorem dX12_takeHalf_16 : decode cX12_takeHalf 16 = .ok (.idiv, 1) := by decide +kernel
theorem dX12_takeHalf_17 : decode cX12_takeHalf 17 = .ok (.iload_n 1, 1) := by decide +kernel
theorem dX12_takeHalf_18 : decode cX12_takeHalf 18 = .ok (.iadd, 1) := by decide +kernel
theorem dX12_takeHalf_19 : decode cX12_takeHalf 19 = .ok (.iaload, 1) := by decide +kernel
theorem dX12_takeHalf_20 : decode cX12_takeHalf 20 = .ok (.iastore, 1) := by decide +kernel
theorem dX12_takeHalf_21 : decode cX12_takeHalf 21 = .ok (.iinc 1 1, 3) := by decide +kernel
theorem dX12_takeHalf_24 : decode cX12_takeHalf 24 = .ok (.goto (-22), 3) := by decide +kernel
theorem dX12_takeHalf_27 : decode cX12_takeHalf 27 = .ok (.return_, 1) := by decide +kernel
theorem dX12_takeOver_0 : decode cX12_takeOver 0 = .ok (.aload_n 0, 1) := by decide +kernel
theorem dX12_takeOver_1 : decode cX12_takeOver 1 = .ok (.getfield 48, 3) := by decide +kernel
theorem dX12_takeOver_4 : decode cX12_takeOver 4 = .ok (.invokestatic 338, 3) := by decide +kernel
theorem dX12_takeOver_7 : decode cX12_takeOver 7 = .ok (.aload_n 0, 1) := by decide +kernel
theorem dX12_takeOver_8 : decode cX12_takeOver 8 = .ok (.getfield 52, 3) := by decide +kernel
theorem dX12_takeOver_11 : decode cX12_takeOver 11 = .ok (.invokestatic 338, 3) := by decide +kernel
theorem dX12_takeOver_14 : decode cX12_takeOver 14 = .ok (.aload_n 0, 1) := by decide +kernel
theorem dX12_takeOver_15 : decode cX12_takeOver 15 = .ok (.getfield 54, 3) := by decide +kernel
theorem dX12_takeOver_18 : decode cX12_takeOver 18 = .ok (.invokestatic 338, 3) := by decide +kernel
theorem dX12_takeOver_21 : decode cX12_takeOver 21 = .ok (.aload_n 0, 1) := by decide +kernel
theorem dX12_takeOver_22 : decode cX12_takeOver 22 = .ok (.getfield 57, 3) := by decide +kernel
theorem dX12_takeOver_25 : decode cX12_takeOver 25 = .ok (.invokestatic 338, 3) := by decide +kernel
theorem dX12_takeOver_28 : decode cX12_takeOver 28 = .ok (.aload_n 0, 1) := by decide +kernel
theorem dX12_takeOver_29 : decode cX12_takeOver 29 = .ok (.getfield 60, 3) := by decide +kernel
theorem dX12_takeOver_32 : decode cX12_takeOver 32 = .ok (.invokestatic 338, 3) := by decide +kernel
theorem dX12_takeOver_35 : decode cX12_takeOver 35 = .ok (.aload_n 0, 1) := by decide +kernel
theorem dX12_takeOver_36 : decode cX12_takeOver 36 = .ok (.getfield 63, 3) := by decide +kernel
theorem dX12_takeOver_39 : decode cX12_takeOver 39 = .ok (.invokestatic 338, 3) := by decide +kernel
theorem dX12_takeOver_42 : decode cX12_takeOver 42 = .ok (.aload_n 0, 1) := by decide +kernel
theorem dX12_takeOver_43 : decode cX12_takeOver 43 = .ok (.getfield 66, 3) := by decide +kernel
theorem dX12_takeOver_46 : decode cX12_takeOver 46 = .ok (.invokestatic 338, 3) := by decide +kernel
theorem dX12_takeOver_49 : decode cX12_takeOver 49 = .ok (.aload_n 0, 1) := by decide +kernel
theorem dX12_takeOver_50 : decode cX12_takeOver 50 = .ok (.getfield 69, 3) := by decide +kernel
theorem dX12_takeOver_53 : decode cX12_takeOver 53 = .ok (.invokestatic 338, 3) := by decide +kernel
theorem dX12_takeOver_56 : decode cX12_takeOver 56 = .ok (.aload_n 0, 1) := by decide +kernel
theorem dX12_takeOver_57 : decode cX12_takeOver 57 = .ok (.getfield 72, 3) := by decide +kernel
theorem dX12_takeOver_60 : decode cX12_takeOver 60 = .ok (.invokestatic 338, 3) := by decide +kernel
theorem dX12_takeOver_63 : decode cX12_takeOver 63 = .ok (.aload_n 0, 1) := by decide +kernel
theorem dX12_takeOver_64 : decode cX12_takeOver 64 = .ok (.iconst 0, 1) := by decide +kernel
theorem dX12_takeOver_65 : decode cX12_takeOver 65 = .ok (.putfield 342, 3) := by decide +kernel
theorem dX12_takeOver_68 : decode cX12_takeOver 68 = .ok (.aload_n 0, 1) := by decide +kernel
theorem dX12_takeOver_69 : decode cX12_takeOver 69 = .ok (.iconst 0, 1) := by decide +kernel
theorem dX12_takeOver_70 : decode cX12_takeOver 70 = .ok (.putfield 344, 3) := by decide +kernel
theorem dX12_takeOver_73 : decode cX12_takeOver 73 = .ok (.iconst 0, 1) := by decide +kernel
theorem dX12_takeOver_74 : decode cX12_takeOver 74 = .ok (.istore_n 1, 1) := by decide +kernel
theorem dX12_takeOver_75 : decode cX12_takeOver 75 = .ok (.iload_n 1, 1) := by decide +kernel
theorem dX12_takeOver_76 : decode cX12_takeOver 76 = .ok (.bipush 9, 2) := by decide +kernel
theorem dX12_takeOver_78 : decode cX12_takeOver 78 = .ok (.if_icmp .ge 92, 3) := by decide +kernel
theorem dX12_takeOver_81 : decode cX12_takeOver 81 = .ok (.iload_n 1, 1) := by decide +kernel
theorem dX12_takeOver_82 : decode cX12_takeOver 82 = .ok (.aload_n 0, 1) := by decide +kernel
theorem dX12_takeOver_83 : decode cX12_takeOver 83 = .ok (.getfield 48, 3) := by decide +kernel
theorem dX12_takeOver_86 : decode cX12_takeOver 86 = .ok (.iconst 0, 1) := by decide +kernel
theorem dX12_takeOver_87 : decode cX12_takeOver 87 = .ok (.iaload, 1) := by decide +kernel
theorem dX12_takeOver_88 : decode cX12_takeOver 88 = .ok (.if_icmp .ge 7, 3) := by decide +kernel
theorem dX12_takeOver_91 : decode cX12_takeOver 91 = .ok (.iconst 1, 1) := by decide +kernel
theorem dX12_takeOver_92 : decode cX12_takeOver 92 = .ok (.goto 4, 3) := by decide +kernel
theorem dX12_takeOver_95 : decode cX12_takeOver 95 = .ok (.iconst 0, 1) := by decide +kernel
theorem dX12_takeOver_96 : decode cX12_takeOver 96 = .ok (.istore_n 2, 1) := by decide +kernel
theorem dX12_takeOver_97 : decode cX12_takeOver 97 = .ok (.aload_n 0, 1) := by decide +kernel
theorem dX12_takeOver_98 : decode cX12_takeOver 98 = .ok (.getfield 85, 3) := by decide +kernel
theorem dX12_takeOver_101 : decode cX12_takeOver 101 = .ok (.iload_n 1, 1) := by decide +kernel
theorem dX12_takeOver_102 : decode cX12_takeOver 102 = .ok (.iload_n 2, 1) := by decide +kernel
theorem dX12_takeOver_103 : decode cX12_takeOver 103 = .ok (.ifCond .eq 12, 3) := by decide +kernel
theorem dX12_takeOver_106 : decode cX12_takeOver 106 = .ok (.aload_n 0, 1) := by decide +kernel
theorem dX12_takeOver_107 : decode cX12_takeOver 107 = .ok (.getfield 54, 3) := by decide +kernel
theorem dX12_takeOver_110 : decode cX12_takeOver 110 = .ok (.iload_n 1, 1) := by decide +kernel
theorem dX12_takeOver_111 : decode cX12_takeOver 111 = .ok (.iaload, 1) := by decide +kernel
theorem dX12_takeOver_112 : decode cX12_takeOver 112 = .ok (.goto 4, 3) := by decide +kernel
theorem dX12_takeOver_115 : decode cX12_takeOver 115 = .ok (.iconst 0, 1) := by decide +kernel
theorem dX12_takeOver_116 : decode cX12_takeOver 116 = .ok (.iastore, 1) := by decide +kernel
theorem dX12_takeOver_117 : decode cX12_takeOver 117 = .ok (.aload_n 0, 1) := by decide +kernel
theorem dX12_takeOver_118 : decode cX12_takeOver 118 = .ok (.getfield 87, 3) := by decide +kernel
theorem dX12_takeOver_121 : decode cX12_takeOver 121 = .ok (.iload_n 1, 1) := by decide +kernel
theorem dX12_takeOver_122 : decode cX12_takeOver 122 = .ok (.iload_n 2, 1) := by decide +kernel
theorem dX12_takeOver_123 : decode cX12_takeOver 123 = .ok (.ifCond .eq 12, 3) := by decide +kernel
theorem dX12_takeOver_126 : decode cX12_takeOver 126 = .ok (.aload_n 0, 1) := by decide +kernel
theorem dX12_takeOver_127 : decode cX12_takeOver 127 = .ok (.getfield 57, 3) := by decide +kernel
theorem dX12_takeOver_130 : decode cX12_takeOver 130 = .ok (.iload_n 1, 1) := by decide +kernel
theorem dX12_takeOver_131 : decode cX12_takeOver 131 = .ok (.iaload, 1) := by decide +kernel
theorem dX12_takeOver_132 : decode cX12_takeOver 132 = .ok (.goto 4, 3) := by decide +kernel
theorem dX12_takeOver_135 : decode cX12_takeOver 135 = .ok (.iconst 0, 1) := by decide +kernel
theorem dX12_takeOver_136 : decode cX12_takeOver 136 = .ok (.iastore, 1) := by decide +kernel
theorem dX12_takeOver_137 : decode cX12_takeOver 137 = .ok (.aload_n 0, 1) := by decide +kernel
theorem dX12_takeOver_138 : decode cX12_takeOver 138 = .ok (.getfield 90, 3) := by decide +kernel
theorem dX12_takeOver_141 : decode cX12_takeOver 141 = .ok (.iload_n 1, 1) := by decide +kernel
theorem dX12_takeOver_142 : decode cX12_takeOver 142 = .ok (.iload_n 2, 1) := by decide +kernel
theorem dX12_takeOver_143 : decode cX12_takeOver 143 = .ok (.ifCond .eq 12, 3) := by decide +kernel
theorem dX12_takeOver_146 : decode cX12_takeOver 146 = .ok (.aload_n 0, 1) := by decide +kernel
theorem dX12_takeOver_147 : decode cX12_takeOver 147 = .ok (.getfield 60, 3) := by decide +kernel
theorem dX12_takeOver_150 : decode cX12_takeOver 150 = .ok (.iload_n 1, 1) := by decide +kernel
theorem dX12_takeOver_151 : decode cX12_takeOver 151 = .ok (.iaload, 1) := by decide +kernel
theorem dX12_takeOver_152 : decode cX12_takeOver 152 = .ok (.goto 4, 3) := by decide +kernel
theorem dX12_takeOver_155 : decode cX12_takeOver 155 = .ok (.iconst 0, 1) := by decide +kernel
theorem dX12_takeOver_156 : decode cX12_takeOver 156 = .ok (.iastore, 1) := by decide +kernel
theorem dX12_takeOver_157 : decode cX12_takeOver 157 = .ok (.aload_n 0, 1) := by decide +kernel
theorem dX12_takeOver_158 : decode cX12_takeOver 158 = .ok (.getfield 93, 3) := by decide +kernel
theorem dX12_takeOver_161 : decode cX12_takeOver 161 = .ok (.iload_n 1, 1) := by decide +kernel
theorem dX12_takeOver_162 : decode cX12_takeOver 162 = .ok (.iconst 0, 1) := by decide +kernel
theorem dX12_takeOver_163 : decode cX12_takeOver 163 = .ok (.iastore, 1) := by decide +kernel
theorem dX12_takeOver_164 : decode cX12_takeOver 164 = .ok (.iinc 1 1, 3) := by decide +kernel
theorem dX12_takeOver_167 : decode cX12_takeOver 167 = .ok (.goto (-92), 3) := by decide +kernel
theorem dX12_takeOver_170 : decode cX12_takeOver 170 = .ok (.iconst 0, 1) := by decide +kernel
theorem dX12_takeOver_171 : decode cX12_takeOver 171 = .ok (.istore_n 1, 1) := by decide +kernel
theorem dX12_takeOver_172 : decode cX12_takeOver 172 = .ok (.iload_n 1, 1) := by decide +kernel
theorem dX12_takeOver_173 : decode cX12_takeOver 173 = .ok (.bipush 6, 2) := by decide +kernel
theorem dX12_takeOver_175 : decode cX12_takeOver 175 = .ok (.if_icmp .ge 63, 3) := by decide +kernel
theorem dX12_takeOver_178 : decode cX12_takeOver 178 = .ok (.aload_n 0, 1) := by decide +kernel
theorem dX12_takeOver_179 : decode cX12_takeOver 179 = .ok (.getfield 96, 3) := by decide +kernel
theorem dX12_takeOver_182 : decode cX12_takeOver 182 = .ok (.iload_n 1, 1) := by decide +kernel
theorem dX12_takeOver_183 : decode cX12_takeOver 183 = .ok (.iload_n 1, 1) := by decide +kernel
theorem dX12_takeOver_184 : decode cX12_takeOver 184 = .ok (.aload_n 0, 1) := by decide +kernel
theorem dX12_takeOver_185 : decode cX12_takeOver 185 = .ok (.getfield 48, 3) := by decide +kernel
theorem dX12_takeOver_188 : decode cX12_takeOver 188 = .ok (.iconst 1, 1) := by decide +kernel
theorem dX12_takeOver_189 : decode cX12_takeOver 189 = .ok (.iaload, 1) := by decide +kernel
theorem dX12_takeOver_190 : decode cX12_takeOver 190 = .ok (.if_icmp .ge 12, 3) := by decide +kernel
theorem dX12_takeOver_193 : decode cX12_takeOver 193 = .ok (.aload_n 0, 1) := by decide +kernel
theorem dX12_takeOver_194 : decode cX12_takeOver 194 = .ok (.getfield 63, 3) := by decide +kernel
theorem dX12_takeOver_197 : decode cX12_takeOver 197 = .ok (.iload_n 1, 1) := by decide +kernel
theorem dX12_takeOver_198 : decode cX12_takeOver 198 = .ok (.iaload, 1) := by decide +kernel
theorem dX12_takeOver_199 : decode cX12_takeOver 199 = .ok (.goto 4, 3) := by decide +kernel
theorem dX12_takeOver_202 : decode cX12_takeOver 202 = .ok (.iconst 0, 1) := by decide +kernel
theorem dX12_takeOver_203 : decode cX12_takeOver 203 = .ok (.iastore, 1) := by decide +kernel
theorem dX12_takeOver_204 : decode cX12_takeOver 204 = .ok (.aload_n 0, 1) := by decide +kernel
theorem dX12_takeOver_205 : decode cX12_takeOver 205 = .ok (.getfield 99, 3) := by decide +kernel
theorem dX12_takeOver_208 : decode cX12_takeOver 208 = .ok (.iload_n 1, 1) := by decide +kernel
theorem dX12_takeOver_209 : decode cX12_takeOver 209 = .ok (.iload_n 1, 1) := by decide +kernel
theorem dX12_takeOver_210 : decode cX12_takeOver 210 = .ok (.aload_n 0, 1) := by decide +kernel
theorem dX12_takeOver_211 : decode cX12_takeOver 211 = .ok (.getfield 48, 3) := by decide +kernel
theorem dX12_takeOver_214 : decode cX12_takeOver 214 = .ok (.iconst 1, 1) := by decide +kernel
theorem dX12_takeOver_215 : decode cX12_takeOver 215 = .ok (.iaload, 1) := by decide +kernel
theorem dX12_takeOver_216 : decode cX12_takeOver 216 = .ok (.if_icmp .ge 7, 3) := by decide +kernel
theorem dX12_takeOver_219 : decode cX12_takeOver 219 = .ok (.iconst 1, 1) := by decide +kernel
theorem dX12_takeOver_220 : decode cX12_takeOver 220 = .ok (.goto 4, 3) := by decide +kernel
theorem dX12_takeOver_223 : decode cX12_takeOver 223 = .ok (.iconst 0, 1) := by decide +kernel
theorem dX12_takeOver_224 : decode cX12_takeOver 224 = .ok (.iastore, 1) := by decide +kernel
theorem dX12_takeOver_225 : decode cX12_takeOver 225 = .ok (.aload_n 0, 1) := by decide +kernel
theorem dX12_takeOver_226 : decode cX12_takeOver 226 = .ok (.getfield 102, 3) := by decide +kernel
theorem dX12_takeOver_229 : decode cX12_takeOver 229 = .ok (.iload_n 1, 1) := by decide +kernel
theorem dX12_takeOver_230 : decode cX12_takeOver 230 = .ok (.iconst (-1), 1) := by decide +kernel
theorem dX12_takeOver_231 : decode cX12_takeOver 231 = .ok (.iastore, 1) := by decide +kernel
theorem dX12_takeOver_232 : decode cX12_takeOver 232 = .ok (.iinc 1 1, 3) := by decide +kernel
theorem dX12_takeOver_235 : decode cX12_takeOver 235 = .ok (.goto (-63), 3) := by decide +kernel
theorem dX12_takeOver_238 : decode cX12_takeOver 238 = .ok (.iconst 0, 1) := by decide +kernel
theorem dX12_takeOver_239 : decode cX12_takeOver 239 = .ok (.istore_n 1, 1) := by decide +kernel
theorem dX12_takeOver_240 : decode cX12_takeOver 240 = .ok (.iload_n 1, 1) := by decide +kernel
theorem dX12_takeOver_241 : decode cX12_takeOver 241 = .ok (.aload_n 0, 1) := by decide +kernel
theorem dX12_takeOver_242 : decode cX12_takeOver 242 = .ok (.getfield 105, 3) := by decide +kernel
theorem dX12_takeOver_245 : decode cX12_takeOver 245 = .ok (.arraylength, 1) := by decide +kernel
theorem dX12_takeOver_246 : decode cX12_takeOver 246 = .ok (.if_icmp .ge 21, 3) := by decide +kernel
theorem dX12_takeOver_249 : decode cX12_takeOver 249 = .ok (.aload_n 0, 1) := by decide +kernel
theorem dX12_takeOver_250 : decode cX12_takeOver 250 = .ok (.getfield 105, 3) := by decide +kernel
theorem dX12_takeOver_253 : decode cX12_takeOver 253 = .ok (.iload_n 1, 1) := by decide +kernel
theorem dX12_takeOver_254 : decode cX12_takeOver 254 = .ok (.aload_n 0, 1) := by decide +kernel
theorem dX12_takeOver_255 : decode cX12_takeOver 255 = .ok (.getfield 66, 3) := by decide +kernel
theorem dX12_takeOver_258 : decode cX12_takeOver 258 = .ok (.iload_n 1, 1) := by decide +kernel
theorem dX12_takeOver_259 : decode cX12_takeOver 259 = .ok (.iaload, 1) := by decide +kernel
theorem dX12_takeOver_260 : decode cX12_takeOver 260 = .ok (.iastore, 1) := by decide +kernel
theorem dX12_takeOver_261 : decode cX12_takeOver 261 = .ok (.iinc 1 1, 3) := by decide +kernel
theorem dX12_takeOver_264 : decode cX12_takeOver 264 = .ok (.goto (-24), 3) := by decide +kernel
theorem dX12_takeOver_267 : decode cX12_takeOver 267 = .ok (.aload_n 0, 1) := by decide +kernel
theorem dX12_takeOver_268 : decode cX12_takeOver 268 = .ok (.iconst 0, 1) := by decide +kernel
theorem dX12_takeOver_269 : decode cX12_takeOver 269 = .ok (.putfield 347, 3) := by decide +kernel
theorem dX12_takeOver_272 : decode cX12_takeOver 272 = .ok (.aload_n 0, 1) := by decide +kernel
theorem dX12_takeOver_273 : decode cX12_takeOver 273 = .ok (.iconst 0, 1) := by decide +kernel
theorem dX12_takeOver_274 : decode cX12_takeOver 274 = .ok (.putfield 350, 3) := by decide +kernel
theorem dX12_takeOver_277 : decode cX12_takeOver 277 = .ok (.aload_n 0, 1) := by decide +kernel
theorem dX12_takeOver_278 : decode cX12_takeOver 278 = .ok (.iconst 0, 1) := by decide +kernel
theorem dX12_takeOver_279 : decode cX12_takeOver 279 = .ok (.putfield 353, 3) := by decide +kernel
theorem dX12_takeOver_282 : decode cX12_takeOver 282 = .ok (.return_, 1) := by decide +kernel
theorem dX12_fault_0 : decode cX12_fault 0 = .ok (.aload_n 0, 1) := by decide +kernel
theorem dX12_fault_1 : decode cX12_fault 1 = .ok (.iconst 0, 1) := by decide +kernel
theorem dX12_fault_2 : decode cX12_fault 2 = .ok (.putfield 184, 3) := by decide +kernel
theorem dX12_fault_5 : decode cX12_fault 5 = .ok (.aload_n 0, 1) := by decide +kernel
theorem dX12_fault_6 : decode cX12_fault 6 = .ok (.getfield 81, 3) := by decide +kernel
theorem dX12_fault_9 : decode cX12_fault 9 = .ok (.ireturn, 1) := by decide +kernel
theorem dX12_pack_0 : decode cX12_pack 0 = .ok (.aload_n 1, 1) := by decide +kernel
theorem dX12_pack_1 : decode cX12_pack 1 = .ok (.iload_n 2, 1) := by decide +kernel
theorem dX12_pack_2 : decode cX12_pack 2 = .ok (.aload_n 0, 1) := by decide +kernel
theorem dX12_pack_3 : decode cX12_pack 3 = .ok (.getfield 342, 3) := by decide +kernel
theorem dX12_pack_6 : decode cX12_pack 6 = .ok (.iastore, 1) := by decide +kernel
theorem dX12_pack_7 : decode cX12_pack 7 = .ok (.aload_n 1, 1) := by decide +kernel
theorem dX12_pack_8 : decode cX12_pack 8 = .ok (.iload_n 2, 1) := by decide +kernel
theorem dX12_pack_9 : decode cX12_pack 9 = .ok (.iconst 1, 1) := by decide +kernel
theorem dX12_pack_10 : decode cX12_pack 10 = .ok (.iadd, 1) := by decide +kernel
theorem dX12_pack_11 : decode cX12_pack 11 = .ok (.aload_n 0, 1) := by decide +kernel
theorem dX12_pack_12 : decode cX12_pack 12 = .ok (.getfield 344, 3) := by decide +kernel
theorem dX12_pack_15 : decode cX12_pack 15 = .ok (.iastore, 1) := by decide +kernel
theorem dX12_pack_16 : decode cX12_pack 16 = .ok (.iload_n 2, 1) := by decide +kernel
theorem dX12_pack_17 : decode cX12_pack 17 = .ok (.iconst 2, 1) := by decide +kernel
theorem dX12_pack_18 : decode cX12_pack 18 = .ok (.iadd, 1) := by decide +kernel
theorem dX12_pack_19 : decode cX12_pack 19 = .ok (.istore_n 3, 1) := by decide +kernel
theorem dX12_pack_20 : decode cX12_pack 20 = .ok (.iconst 0, 1) := by decide +kernel
theorem dX12_pack_21 : decode cX12_pack 21 = .ok (.istore 4, 2) := by decide +kernel
theorem dX12_pack_23 : decode cX12_pack 23 = .ok (.iload 4, 2) := by decide +kernel
theorem dX12_pack_25 : decode cX12_pack 25 = .ok (.bipush 9, 2) := by decide +kernel
theorem dX12_pack_27 : decode cX12_pack 27 = .ok (.if_icmp .ge 70, 3) := by decide +kernel
theorem dX12_pack_30 : decode cX12_pack 30 = .ok (.aload_n 1, 1) := by decide +kernel
theorem dX12_pack_31 : decode cX12_pack 31 = .ok (.iload_n 3, 1) := by decide +kernel
theorem dX12_pack_32 : decode cX12_pack 32 = .ok (.iload 4, 2) := by decide +kernel
theorem dX12_pack_34 : decode cX12_pack 34 = .ok (.iadd, 1) := by decide +kernel
theorem dX12_pack_35 : decode cX12_pack 35 = .ok (.aload_n 0, 1) := by decide +kernel
theorem dX12_pack_36 : decode cX12_pack 36 = .ok (.getfield 85, 3) := by decide +kernel
theorem dX12_pack_39 : decode cX12_pack 39 = .ok (.iload 4, 2) := by decide +kernel
theorem dX12_pack_41 : decode cX12_pack 41 = .ok (.iaload, 1) := by decide +kernel
theorem dX12_pack_42 : decode cX12_pack 42 = .ok (.iastore, 1) := by decide +kernel
theorem dX12_pack_43 : decode cX12_pack 43 = .ok (.aload_n 1, 1) := by decide +kernel
theorem dX12_pack_44 : decode cX12_pack 44 = .ok (.iload_n 3, 1) := by decide +kernel
theorem dX12_pack_45 : decode cX12_pack 45 = .ok (.bipush 9, 2) := by decide +kernel
theorem dX12_pack_47 : decode cX12_pack 47 = .ok (.iadd, 1) := by decide +kernel
theorem dX12_pack_48 : decode cX12_pack 48 = .ok (.iload 4, 2) := by decide +kernel
theorem dX12_pack_50 : decode cX12_pack 50 = .ok (.iadd, 1) := by decide +kernel
theorem dX12_pack_51 : decode cX12_pack 51 = .ok (.aload_n 0, 1) := by decide +kernel
theorem dX12_pack_52 : decode cX12_pack 52 = .ok (.getfield 87, 3) := by decide +kernel
theorem dX12_pack_55 : decode cX12_pack 55 = .ok (.iload 4, 2) := by decide +kernel
theorem dX12_pack_57 : decode cX12_pack 57 = .ok (.iaload, 1) := by decide +kernel
theorem dX12_pack_58 : decode cX12_pack 58 = .ok (.iastore, 1) := by decide +kernel
theorem dX12_pack_59 : decode cX12_pack 59 = .ok (.aload_n 1, 1) := by decide +kernel
theorem dX12_pack_60 : decode cX12_pack 60 = .ok (.iload_n 3, 1) := by decide +kernel
theorem dX12_pack_61 : decode cX12_pack 61 = .ok (.bipush 18, 2) := by decide +kernel
theorem dX12_pack_63 : decode cX12_pack 63 = .ok (.iadd, 1) := by decide +kernel
theorem dX12_pack_64 : decode cX12_pack 64 = .ok (.iload 4, 2) := by decide +kernel
theorem dX12_pack_66 : decode cX12_pack 66 = .ok (.iadd, 1) := by decide +kernel
theorem dX12_pack_67 : decode cX12_pack 67 = .ok (.aload_n 0, 1) := by decide +kernel
theorem dX12_pack_68 : decode cX12_pack 68 = .ok (.getfield 90, 3) := by decide +kernel
theorem dX12_pack_71 : decode cX12_pack 71 = .ok (.iload 4, 2) := by decide +kernel
theorem dX12_pack_73 : decode cX12_pack 73 = .ok (.iaload, 1) := by decide +kernel
theorem dX12_pack_74 : decode cX12_pack 74 = .ok (.iastore, 1) := by decide +kernel
theorem dX12_pack_75 : decode cX12_pack 75 = .ok (.aload_n 1, 1) := by decide +kernel
theorem dX12_pack_76 : decode cX12_pack 76 = .ok (.iload_n 3, 1) := by decide +kernel
theorem dX12_pack_77 : decode cX12_pack 77 = .ok (.bipush 27, 2) := by decide +kernel
theorem dX12_pack_79 : decode cX12_pack 79 = .ok (.iadd, 1) := by decide +kernel
theorem dX12_pack_80 : decode cX12_pack 80 = .ok (.iload 4, 2) := by decide +kernel
theorem dX12_pack_82 : decode cX12_pack 82 = .ok (.iadd, 1) := by decide +kernel
theorem dX12_pack_83 : decode cX12_pack 83 = .ok (.aload_n 0, 1) := by decide +kernel
theorem dX12_pack_84 : decode cX12_pack 84 = .ok (.getfield 93, 3) := by decide +kernel
theorem dX12_pack_87 : decode cX12_pack 87 = .ok (.iload 4, 2) := by decide +kernel
theorem dX12_pack_89 : decode cX12_pack 89 = .ok (.iaload, 1) := by decide +kernel
theorem dX12_pack_90 : decode cX12_pack 90 = .ok (.iastore, 1) := by decide +kernel
theorem dX12_pack_91 : decode cX12_pack 91 = .ok (.iinc 4 1, 3) := by decide +kernel
theorem dX12_pack_94 : decode cX12_pack 94 = .ok (.goto (-71), 3) := by decide +kernel
theorem dX12_pack_97 : decode cX12_pack 97 = .ok (.iinc 3 36, 3) := by decide +kernel
theorem dX12_pack_100 : decode cX12_pack 100 = .ok (.iconst 0, 1) := by decide +kernel
theorem dX12_pack_101 : decode cX12_pack 101 = .ok (.istore 4, 2) := by decide +kernel
theorem dX12_pack_103 : decode cX12_pack 103 = .ok (.iload 4, 2) := by decide +kernel
theorem dX12_pack_105 : decode cX12_pack 105 = .ok (.bipush 6, 2) := by decide +kernel
theorem dX12_pack_107 : decode cX12_pack 107 = .ok (.if_icmp .ge 54, 3) := by decide +kernel
theorem dX12_pack_110 : decode cX12_pack 110 = .ok (.aload_n 1, 1) := by decide +kernel
theorem dX12_pack_111 : decode cX12_pack 111 = .ok (.iload_n 3, 1) := by decide +kernel
theorem dX12_pack_112 : decode cX12_pack 112 = .ok (.iload 4, 2) := by decide +kernel
theorem dX12_pack_114 : decode cX12_pack 114 = .ok (.iadd, 1) := by decide +kernel
theorem dX12_pack_115 : decode cX12_pack 115 = .ok (.aload_n 0, 1) := by decide +kernel
theorem dX12_pack_116 : decode cX12_pack 116 = .ok (.getfield 96, 3) := by decide +kernel
theorem dX12_pack_119 : decode cX12_pack 119 = .ok (.iload 4, 2) := by decide +kernel
theorem dX12_pack_121 : decode cX12_pack 121 = .ok (.iaload, 1) := by decide +kernel
theorem dX12_pack_122 : decode cX12_pack 122 = .ok (.iastore, 1) := by decide +kernel
theorem dX12_pack_123 : decode cX12_pack 123 = .ok (.aload_n 1, 1) := by decide +kernel
theorem dX12_pack_124 : decode cX12_pack 124 = .ok (.iload_n 3, 1) := by decide +kernel
theorem dX12_pack_125 : decode cX12_pack 125 = .ok (.bipush 6, 2) := by decide +kernel
theorem dX12_pack_127 : decode cX12_pack 127 = .ok (.iadd, 1) := by decide +kernel
theorem dX12_pack_128 : decode cX12_pack 128 = .ok (.iload 4, 2) := by decide +kernel
theorem dX12_pack_130 : decode cX12_pack 130 = .ok (.iadd, 1) := by decide +kernel
theorem dX12_pack_131 : decode cX12_pack 131 = .ok (.aload_n 0, 1) := by decide +kernel
theorem dX12_pack_132 : decode cX12_pack 132 = .ok (.getfield 99, 3) := by decide +kernel
theorem dX12_pack_135 : decode cX12_pack 135 = .ok (.iload 4, 2) := by decide +kernel
theorem dX12_pack_137 : decode cX12_pack 137 = .ok (.iaload, 1) := by decide +kernel
theorem dX12_pack_138 : decode cX12_pack 138 = .ok (.iastore, 1) := by decide +kernel
theorem dX12_pack_139 : decode cX12_pack 139 = .ok (.aload_n 1, 1) := by decide +kernel
theorem dX12_pack_140 : decode cX12_pack 140 = .ok (.iload_n 3, 1) := by decide +kernel
theorem dX12_pack_141 : decode cX12_pack 141 = .ok (.bipush 12, 2) := by decide +kernel
theorem dX12_pack_143 : decode cX12_pack 143 = .ok (.iadd, 1) := by decide +kernel
theorem dX12_pack_144 : decode cX12_pack 144 = .ok (.iload 4, 2) := by decide +kernel
theorem dX12_pack_146 : decode cX12_pack 146 = .ok (.iadd, 1) := by decide +kernel
theorem dX12_pack_147 : decode cX12_pack 147 = .ok (.aload_n 0, 1) := by decide +kernel
theorem dX12_pack_148 : decode cX12_pack 148 = .ok (.getfield 102, 3) := by decide +kernel
theorem dX12_pack_151 : decode cX12_pack 151 = .ok (.iload 4, 2) := by decide +kernel
theorem dX12_pack_153 : decode cX12_pack 153 = .ok (.iaload, 1) := by decide +kernel
theorem dX12_pack_154 : decode cX12_pack 154 = .ok (.iastore, 1) := by decide +kernel
theorem dX12_pack_155 : decode cX12_pack 155 = .ok (.iinc 4 1, 3) := by decide +kernel
theorem dX12_pack_158 : decode cX12_pack 158 = .ok (.goto (-55), 3) := by decide +kernel
theorem dX12_pack_161 : decode cX12_pack 161 = .ok (.iinc 3 18, 3) := by decide +kernel
theorem dX12_pack_164 : decode cX12_pack 164 = .ok (.iconst 0, 1) := by decide +kernel
theorem dX12_pack_165 : decode cX12_pack 165 = .ok (.istore 4, 2) := by decide +kernel
theorem dX12_pack_167 : decode cX12_pack 167 = .ok (.iload 4, 2) := by decide +kernel
theorem dX12_pack_169 : decode cX12_pack 169 = .ok (.aload_n 0, 1) := by decide +kernel
theorem dX12_pack_170 : decode cX12_pack 170 = .ok (.getfield 105, 3) := by decide +kernel
theorem dX12_pack_173 : decode cX12_pack 173 = .ok (.arraylength, 1) := by decide +kernel
theorem dX12_pack_174 : decode cX12_pack 174 = .ok (.if_icmp .ge 22, 3) := by decide +kernel
theorem dX12_pack_177 : decode cX12_pack 177 = .ok (.aload_n 1, 1) := by decide +kernel
theorem dX12_pack_178 : decode cX12_pack 178 = .ok (.iload_n 3, 1) := by decide +kernel
theorem dX12_pack_179 : decode cX12_pack 179 = .ok (.iload 4, 2) := by decide +kernel
theorem dX12_pack_181 : decode cX12_pack 181 = .ok (.iadd, 1) := by decide +kernel
theorem dX12_pack_182 : decode cX12_pack 182 = .ok (.aload_n 0, 1) := by decide +kernel
theorem dX12_pack_183 : decode cX12_pack 183 = .ok (.getfield 105, 3) := by decide +kernel
theorem dX12_pack_186 : decode cX12_pack 186 = .ok (.iload 4, 2) := by decide +kernel
theorem dX12_pack_188 : decode cX12_pack 188 = .ok (.iaload, 1) := by decide +kernel
theorem dX12_pack_189 : decode cX12_pack 189 = .ok (.iastore, 1) := by decide +kernel
theorem dX12_pack_190 : decode cX12_pack 190 = .ok (.iinc 4 1, 3) := by decide +kernel
theorem dX12_pack_193 : decode cX12_pack 193 = .ok (.goto (-26), 3) := by decide +kernel
theorem dX12_pack_196 : decode cX12_pack 196 = .ok (.return_, 1) := by decide +kernel
theorem dX12_unpack_0 : decode cX12_unpack 0 = .ok (.aload_n 0, 1) := by decide +kernel
theorem dX12_unpack_1 : decode cX12_unpack 1 = .ok (.aload_n 1, 1) := by decide +kernel
theorem dX12_unpack_2 : decode cX12_unpack 2 = .ok (.iload_n 2, 1) := by decide +kernel
theorem dX12_unpack_3 : decode cX12_unpack 3 = .ok (.iaload, 1) := by decide +kernel
theorem dX12_unpack_4 : decode cX12_unpack 4 = .ok (.putfield 342, 3) := by decide +kernel
theorem dX12_unpack_7 : decode cX12_unpack 7 = .ok (.aload_n 0, 1) := by decide +kernel
theorem dX12_unpack_8 : decode cX12_unpack 8 = .ok (.aload_n 1, 1) := by decide +kernel
theorem dX12_unpack_9 : decode cX12_unpack 9 = .ok (.iload_n 2, 1) := by decide +kernel
theorem dX12_unpack_10 : decode cX12_unpack 10 = .ok (.iconst 1, 1) := by decide +kernel
theorem dX12_unpack_11 : decode cX12_unpack 11 = .ok (.iadd, 1) := by decide +kernel
theorem dX12_unpack_12 : decode cX12_unpack 12 = .ok (.iaload, 1) := by decide +kernel
theorem dX12_unpack_13 : decode cX12_unpack 13 = .ok (.putfield 344, 3) := by decide +kernel
theorem dX12_unpack_16 : decode cX12_unpack 16 = .ok (.iload_n 2, 1) := by decide +kernel
theorem dX12_unpack_17 : decode cX12_unpack 17 = .ok (.iconst 2, 1) := by decide +kernel
theorem dX12_unpack_18 : decode cX12_unpack 18 = .ok (.iadd, 1) := by decide +kernel
theorem dX12_unpack_19 : decode cX12_unpack 19 = .ok (.istore_n 3, 1) := by decide +kernel
theorem dX12_unpack_20 : decode cX12_unpack 20 = .ok (.iconst 0, 1) := by decide +kernel
theorem dX12_unpack_21 : decode cX12_unpack 21 = .ok (.istore 4, 2) := by decide +kernel
theorem dX12_unpack_23 : decode cX12_unpack 23 = .ok (.iload 4, 2) := by decide +kernel
theorem dX12_unpack_25 : decode cX12_unpack 25 = .ok (.bipush 9, 2) := by decide +kernel
theorem dX12_unpack_27 : decode cX12_unpack 27 = .ok (.if_icmp .ge 70, 3) := by decide +kernel
theorem dX12_unpack_30 : decode cX12_unpack 30 = .ok (.aload_n 0, 1) := by decide +kernel
theorem dX12_unpack_31 : decode cX12_unpack 31 = .ok (.getfield 85, 3) := by decide +kernel
theorem dX12_unpack_34 : decode cX12_unpack 34 = .ok (.iload 4, 2) := by decide +kernel
theorem dX12_unpack_36 : decode cX12_unpack 36 = .ok (.aload_n 1, 1) := by decide +kernel
theorem dX12_unpack_37 : decode cX12_unpack 37 = .ok (.iload_n 3, 1) := by decide +kernel
theorem dX12_unpack_38 : decode cX12_unpack 38 = .ok (.iload 4, 2) := by decide +kernel
theorem dX12_unpack_40 : decode cX12_unpack 40 = .ok (.iadd, 1) := by decide +kernel
theorem dX12_unpack_41 : decode cX12_unpack 41 = .ok (.iaload, 1) := by decide +kernel
theorem dX12_unpack_42 : decode cX12_unpack 42 = .ok (.iastore, 1) := by decide +kernel
theorem dX12_unpack_43 : decode cX12_unpack 43 = .ok (.aload_n 0, 1) := by decide +kernel
theorem dX12_unpack_44 : decode cX12_unpack 44 = .ok (.getfield 87, 3) := by decide +kernel
theorem dX12_unpack_47 : decode cX12_unpack 47 = .ok (.iload 4, 2) := by decide +kernel
theorem dX12_unpack_49 : decode cX12_unpack 49 = .ok (.aload_n 1, 1) := by decide +kernel
theorem dX12_unpack_50 : decode cX12_unpack 50 = .ok (.iload_n 3, 1) := by decide +kernel
theorem dX12_unpack_51 : decode cX12_unpack 51 = .ok (.bipush 9, 2) := by decide +kernel
theorem dX12_unpack_53 : decode cX12_unpack 53 = .ok (.iadd, 1) := by decide +kernel
theorem dX12_unpack_54 : decode cX12_unpack 54 = .ok (.iload 4, 2) := by decide +kernel
theorem dX12_unpack_56 : decode cX12_unpack 56 = .ok (.iadd, 1) := by decide +kernel
theorem dX12_unpack_57 : decode cX12_unpack 57 = .ok (.iaload, 1) := by decide +kernel
theorem dX12_unpack_58 : decode cX12_unpack 58 = .ok (.iastore, 1) := by decide +kernel
theorem dX12_unpack_59 : decode cX12_unpack 59 = .ok (.aload_n 0, 1) := by decide +kernel
theorem dX12_unpack_60 : decode cX12_unpack 60 = .ok (.getfield 90, 3) := by decide +kernel
theorem dX12_unpack_63 : decode cX12_unpack 63 = .ok (.iload 4, 2) := by decide +kernel
theorem dX12_unpack_65 : decode cX12_unpack 65 = .ok (.aload_n 1, 1) := by decide +kernel
theorem dX12_unpack_66 : decode cX12_unpack 66 = .ok (.iload_n 3, 1) := by decide +kernel
theorem dX12_unpack_67 : decode cX12_unpack 67 = .ok (.bipush 18, 2) := by decide +kernel
theorem dX12_unpack_69 : decode cX12_unpack 69 = .ok (.iadd, 1) := by decide +kernel
theorem dX12_unpack_70 : decode cX12_unpack 70 = .ok (.iload 4, 2) := by decide +kernel
theorem dX12_unpack_72 : decode cX12_unpack 72 = .ok (.iadd, 1) := by decide +kernel
theorem dX12_unpack_73 : decode cX12_unpack 73 = .ok (.iaload, 1) := by decide +kernel
theorem dX12_unpack_74 : decode cX12_unpack 74 = .ok (.iastore, 1) := by decide +kernel
theorem dX12_unpack_75 : decode cX12_unpack 75 = .ok (.aload_n 0, 1) := by decide +kernel
theorem dX12_unpack_76 : decode cX12_unpack 76 = .ok (.getfield 93, 3) := by decide +kernel
theorem dX12_unpack_79 : decode cX12_unpack 79 = .ok (.iload 4, 2) := by decide +kernel
theorem dX12_unpack_81 : decode cX12_unpack 81 = .ok (.aload_n 1, 1) := by decide +kernel
theorem dX12_unpack_82 : decode cX12_unpack 82 = .ok (.iload_n 3, 1) := by decide +kernel
theorem dX12_unpack_83 : decode cX12_unpack 83 = .ok (.bipush 27, 2) := by decide +kernel
theorem dX12_unpack_85 : decode cX12_unpack 85 = .ok (.iadd, 1) := by decide +kernel
theorem dX12_unpack_86 : decode cX12_unpack 86 = .ok (.iload 4, 2) := by decide +kernel
theorem dX12_unpack_88 : decode cX12_unpack 88 = .ok (.iadd, 1) := by decide +kernel
theorem dX12_unpack_89 : decode cX12_unpack 89 = .ok (.iaload, 1) := by decide +kernel
theorem dX12_unpack_90 : decode cX12_unpack 90 = .ok (.iastore, 1) := by decide +kernel
theorem dX12_unpack_91 : decode cX12_unpack 91 = .ok (.iinc 4 1, 3) := by decide +kernel
theorem dX12_unpack_94 : decode cX12_unpack 94 = .ok (.goto (-71), 3) := by decide +kernel
theorem dX12_unpack_97 : decode cX12_unpack 97 = .ok (.iinc 3 36, 3) := by decide +kernel
theorem dX12_unpack_100 : decode cX12_unpack 100 = .ok (.iconst 0, 1) := by decide +kernel
theorem dX12_unpack_101 : decode cX12_unpack 101 = .ok (.istore 4, 2) := by decide +kernel
theorem dX12_unpack_103 : decode cX12_unpack 103 = .ok (.iload 4, 2) := by decide +kernel
theorem dX12_unpack_105 : decode cX12_unpack 105 = .ok (.bipush 6, 2) := by decide +kernel
theorem dX12_unpack_107 : decode cX12_unpack 107 = .ok (.if_icmp .ge 54, 3) := by decide +kernel
theorem dX12_unpack_110 : decode cX12_unpack 110 = .ok (.aload_n 0, 1) := by decide +kernel
theorem dX12_unpack_111 : decode cX12_unpack 111 = .ok (.getfield 96, 3) := by decide +kernel
theorem dX12_unpack_114 : decode cX12_unpack 114 = .ok (.iload 4, 2) := by decide +kernel
theorem dX12_unpack_116 : decode cX12_unpack 116 = .ok (.aload_n 1, 1) := by decide +kernel
theorem dX12_unpack_117 : decode cX12_unpack 117 = .ok (.iload_n 3, 1) := by decide +kernel
theorem dX12_unpack_118 : decode cX12_unpack 118 = .ok (.iload 4, 2) := by decide +kernel
theorem dX12_unpack_120 : decode cX12_unpack 120 = .ok (.iadd, 1) := by decide +kernel
theorem dX12_unpack_121 : decode cX12_unpack 121 = .ok (.iaload, 1) := by decide +kernel
theorem dX12_unpack_122 : decode cX12_unpack 122 = .ok (.iastore, 1) := by decide +kernel
theorem dX12_unpack_123 : decode cX12_unpack 123 = .ok (.aload_n 0, 1) := by decide +kernel
theorem dX12_unpack_124 : decode cX12_unpack 124 = .ok (.getfield 99, 3) := by decide +kernel
theorem dX12_unpack_127 : decode cX12_unpack 127 = .ok (.iload 4, 2) := by decide +kernel
theorem dX12_unpack_129 : decode cX12_unpack 129 = .ok (.aload_n 1, 1) := by decide +kernel
theorem dX12_unpack_130 : decode cX12_unpack 130 = .ok (.iload_n 3, 1) := by decide +kernel
theorem dX12_unpack_131 : decode cX12_unpack 131 = .ok (.bipush 6, 2) := by decide +kernel
theorem dX12_unpack_133 : decode cX12_unpack 133 = .ok (.iadd, 1) := by decide +kernel
theorem dX12_unpack_134 : decode cX12_unpack 134 = .ok (.iload 4, 2) := by decide +kernel
theorem dX12_unpack_136 : decode cX12_unpack 136 = .ok (.iadd, 1) := by decide +kernel
theorem dX12_unpack_137 : decode cX12_unpack 137 = .ok (.iaload, 1) := by decide +kernel
theorem dX12_unpack_138 : decode cX12_unpack 138 = .ok (.iastore, 1) := by decide +kernel
theorem dX12_unpack_139 : decode cX12_unpack 139 = .ok (.aload_n 0, 1) := by decide +kernel
theorem dX12_unpack_140 : decode cX12_unpack 140 = .ok (.getfield 102, 3) := by decide +kernel
theorem dX12_unpack_143 : decode cX12_unpack 143 = .ok (.iload 4, 2) := by decide +kernel
theorem dX12_unpack_145 : decode cX12_unpack 145 = .ok (.aload_n 1, 1) := by decide +kernel
theorem dX12_unpack_146 : decode cX12_unpack 146 = .ok (.iload_n 3, 1) := by decide +kernel
theorem dX12_unpack_147 : decode cX12_unpack 147 = .ok (.bipush 12, 2) := by decide +kernel
theorem dX12_unpack_149 : decode cX12_unpack 149 = .ok (.iadd, 1) := by decide +kernel
theorem dX12_unpack_150 : decode cX12_unpack 150 = .ok (.iload 4, 2) := by decide +kernel
theorem dX12_unpack_152 : decode cX12_unpack 152 = .ok (.iadd, 1) := by decide +kernel
theorem dX12_unpack_153 : decode cX12_unpack 153 = .ok (.iaload, 1) := by decide +kernel
theorem dX12_unpack_154 : decode cX12_unpack 154 = .ok (.iastore, 1) := by decide +kernel
theorem dX12_unpack_155 : decode cX12_unpack 155 = .ok (.iinc 4 1, 3) := by decide +kernel
theorem dX12_unpack_158 : decode cX12_unpack 158 = .ok (.goto (-55), 3) := by decide +kernel
theorem dX12_unpack_161 : decode cX12_unpack 161 = .ok (.iinc 3 18, 3) := by decide +kernel
theorem dX12_unpack_164 : decode cX12_unpack 164 = .ok (.iconst 0, 1) := by decide +kernel
theorem dX12_unpack_165 : decode cX12_unpack 165 = .ok (.istore 4, 2) := by decide +kernel
theorem dX12_unpack_167 : decode cX12_unpack 167 = .ok (.iload 4, 2) := by decide +kernel
theorem dX12_unpack_169 : decode cX12_unpack 169 = .ok (.aload_n 0, 1) := by decide +kernel
theorem dX12_unpack_170 : decode cX12_unpack 170 = .ok (.getfield 105, 3) := by decide +kernel
theorem dX12_unpack_173 : decode cX12_unpack 173 = .ok (.arraylength, 1) := by decide +kernel
theorem dX12_unpack_174 : decode cX12_unpack 174 = .ok (.if_icmp .ge 22, 3) := by decide +kernel
theorem dX12_unpack_177 : decode cX12_unpack 177 = .ok (.aload_n 0, 1) := by decide +kernel
theorem dX12_unpack_178 : decode cX12_unpack 178 = .ok (.getfield 105, 3) := by decide +kernel
theorem dX12_unpack_181 : decode cX12_unpack 181 = .ok (.iload 4, 2) := by decide +kernel
theorem dX12_unpack_183 : decode cX12_unpack 183 = .ok (.aload_n 1, 1) := by decide +kernel
theorem dX12_unpack_184 : decode cX12_unpack 184 = .ok (.iload_n 3, 1) := by decide +kernel
theorem dX12_unpack_185 : decode cX12_unpack 185 = .ok (.iload 4, 2) := by decide +kernel
theorem dX12_unpack_187 : decode cX12_unpack 187 = .ok (.iadd, 1) := by decide +kernel
theorem dX12_unpack_188 : decode cX12_unpack 188 = .ok (.iaload, 1) := by decide +kernel
theorem dX12_unpack_189 : decode cX12_unpack 189 = .ok (.iastore, 1) := by decide +kernel
theorem dX12_unpack_190 : decode cX12_unpack 190 = .ok (.iinc 4 1, 3) := by decide +kernel
theorem dX12_unpack_193 : decode cX12_unpack 193 = .ok (.goto (-26), 3) := by decide +kernel
theorem dX12_unpack_196 : decode cX12_unpack 196 = .ok (.return_, 1) := by decide +kernel
theorem dX12_reckon_0 : decode cX12_reckon 0 = .ok (.iload_n 0, 1) := by decide +kernel
theorem dX12_reckon_1 : decode cX12_reckon 1 = .ok (.tableswitch 103 (-26) (-20) #[89, 78, 67, 55, 51, 47, 43], 43) := by decide +kernel
theorem dX12_reckon_44 : decode cX12_reckon 44 = .ok (.iload_n 1, 1) := by decide +kernel
theorem dX12_reckon_45 : decode cX12_reckon 45 = .ok (.iload_n 2, 1) := by decide +kernel
theorem dX12_reckon_46 : decode cX12_reckon 46 = .ok (.iadd, 1) := by decide +kernel
theorem dX12_reckon_47 : decode cX12_reckon 47 = .ok (.ireturn, 1) := by decide +kernel
theorem dX12_reckon_48 : decode cX12_reckon 48 = .ok (.iload_n 1, 1) := by decide +kernel
theorem dX12_reckon_49 : decode cX12_reckon 49 = .ok (.iload_n 2, 1) := by decide +kernel
theorem dX12_reckon_50 : decode cX12_reckon 50 = .ok (.isub, 1) := by decide +kernel
theorem dX12_reckon_51 : decode cX12_reckon 51 = .ok (.ireturn, 1) := by decide +kernel
theorem dX12_reckon_52 : decode cX12_reckon 52 = .ok (.iload_n 1, 1) := by decide +kernel
theorem dX12_reckon_53 : decode cX12_reckon 53 = .ok (.iload_n 2, 1) := by decide +kernel
theorem dX12_reckon_54 : decode cX12_reckon 54 = .ok (.imul, 1) := by decide +kernel
theorem dX12_reckon_55 : decode cX12_reckon 55 = .ok (.ireturn, 1) := by decide +kernel
theorem dX12_reckon_56 : decode cX12_reckon 56 = .ok (.iload_n 2, 1) := by decide +kernel
theorem dX12_reckon_57 : decode cX12_reckon 57 = .ok (.ifCond .ne 7, 3) := by decide +kernel
theorem dX12_reckon_60 : decode cX12_reckon 60 = .ok (.iconst 0, 1) := by decide +kernel
theorem dX12_reckon_61 : decode cX12_reckon 61 = .ok (.goto 6, 3) := by decide +kernel
theorem dX12_reckon_64 : decode cX12_reckon 64 = .ok (.iload_n 1, 1) := by decide +kernel
theorem dX12_reckon_65 : decode cX12_reckon 65 = .ok (.iload_n 2, 1) := by decide +kernel
theorem dX12_reckon_66 : decode cX12_reckon 66 = .ok (.idiv, 1) := by decide +kernel
theorem dX12_reckon_67 : decode cX12_reckon 67 = .ok (.ireturn, 1) := by decide +kernel
theorem dX12_reckon_68 : decode cX12_reckon 68 = .ok (.iload_n 1, 1) := by decide +kernel
theorem dX12_reckon_69 : decode cX12_reckon 69 = .ok (.iload_n 2, 1) := by decide +kernel
theorem dX12_reckon_70 : decode cX12_reckon 70 = .ok (.if_icmp .ge 7, 3) := by decide +kernel
theorem dX12_reckon_73 : decode cX12_reckon 73 = .ok (.iconst 1, 1) := by decide +kernel
theorem dX12_reckon_74 : decode cX12_reckon 74 = .ok (.goto 4, 3) := by decide +kernel
theorem dX12_reckon_77 : decode cX12_reckon 77 = .ok (.iconst 0, 1) := by decide +kernel
theorem dX12_reckon_78 : decode cX12_reckon 78 = .ok (.ireturn, 1) := by decide +kernel
theorem dX12_reckon_79 : decode cX12_reckon 79 = .ok (.iload_n 1, 1) := by decide +kernel
theorem dX12_reckon_80 : decode cX12_reckon 80 = .ok (.iload_n 2, 1) := by decide +kernel
theorem dX12_reckon_81 : decode cX12_reckon 81 = .ok (.if_icmp .ne 7, 3) := by decide +kernel
theorem dX12_reckon_84 : decode cX12_reckon 84 = .ok (.iconst 1, 1) := by decide +kernel
theorem dX12_reckon_85 : decode cX12_reckon 85 = .ok (.goto 4, 3) := by decide +kernel
theorem dX12_reckon_88 : decode cX12_reckon 88 = .ok (.iconst 0, 1) := by decide +kernel
theorem dX12_reckon_89 : decode cX12_reckon 89 = .ok (.ireturn, 1) := by decide +kernel
theorem dX12_reckon_90 : decode cX12_reckon 90 = .ok (.iload_n 1, 1) := by decide +kernel
theorem dX12_reckon_91 : decode cX12_reckon 91 = .ok (.ifCond .eq 11, 3) := by decide +kernel
theorem dX12_reckon_94 : decode cX12_reckon 94 = .ok (.iload_n 2, 1) := by decide +kernel
theorem dX12_reckon_95 : decode cX12_reckon 95 = .ok (.ifCond .eq 7, 3) := by decide +kernel
theorem dX12_reckon_98 : decode cX12_reckon 98 = .ok (.iconst 1, 1) := by decide +kernel
theorem dX12_reckon_99 : decode cX12_reckon 99 = .ok (.goto 4, 3) := by decide +kernel
theorem dX12_reckon_102 : decode cX12_reckon 102 = .ok (.iconst 0, 1) := by decide +kernel
theorem dX12_reckon_103 : decode cX12_reckon 103 = .ok (.ireturn, 1) := by decide +kernel
theorem dX12_reckon_104 : decode cX12_reckon 104 = .ok (.iload_n 1, 1) := by decide +kernel
theorem dX12_reckon_105 : decode cX12_reckon 105 = .ok (.ifCond .ne 7, 3) := by decide +kernel
theorem dX12_reckon_108 : decode cX12_reckon 108 = .ok (.iload_n 2, 1) := by decide +kernel
theorem dX12_reckon_109 : decode cX12_reckon 109 = .ok (.ifCond .eq 7, 3) := by decide +kernel
theorem dX12_reckon_112 : decode cX12_reckon 112 = .ok (.iconst 1, 1) := by decide +kernel
theorem dX12_reckon_113 : decode cX12_reckon 113 = .ok (.goto 4, 3) := by decide +kernel
theorem dX12_reckon_116 : decode cX12_reckon 116 = .ok (.iconst 0, 1) := by decide +kernel
theorem dX12_reckon_117 : decode cX12_reckon 117 = .ok (.ireturn, 1) := by decide +kernel
theorem dX12_valueNow_0 : decode cX12_valueNow 0 = .ok (.iconst 0, 1) := by decide +kernel
theorem dX12_valueNow_1 : decode cX12_valueNow 1 = .ok (.istore_n 3, 1) := by decide +kernel
theorem dX12_valueNow_2 : decode cX12_valueNow 2 = .ok (.iconst 0, 1) := by decide +kernel
theorem dX12_valueNow_3 : decode cX12_valueNow 3 = .ok (.istore 4, 2) := by decide +kernel
theorem dX12_valueNow_5 : decode cX12_valueNow 5 = .ok (.iload 4, 2) := by decide +kernel
theorem dX12_valueNow_7 : decode cX12_valueNow 7 = .ok (.iload_n 2, 1) := by decide +kernel
theorem dX12_valueNow_8 : decode cX12_valueNow 8 = .ok (.if_icmp .ge 117, 3) := by decide +kernel
theorem dX12_valueNow_11 : decode cX12_valueNow 11 = .ok (.aload_n 1, 1) := by decide +kernel
theorem dX12_valueNow_12 : decode cX12_valueNow 12 = .ok (.iload 4, 2) := by decide +kernel
theorem dX12_valueNow_14 : decode cX12_valueNow 14 = .ok (.iaload, 1) := by decide +kernel
theorem dX12_valueNow_15 : decode cX12_valueNow 15 = .ok (.istore 5, 2) := by decide +kernel
theorem dX12_valueNow_17 : decode cX12_valueNow 17 = .ok (.iload 5, 2) := by decide +kernel
theorem dX12_valueNow_19 : decode cX12_valueNow 19 = .ok (.bipush (-20), 2) := by decide +kernel
theorem dX12_valueNow_21 : decode cX12_valueNow 21 = .ok (.if_icmp .le 34, 3) := by decide +kernel
theorem dX12_valueNow_24 : decode cX12_valueNow 24 = .ok (.aload_n 0, 1) := by decide +kernel
theorem dX12_valueNow_25 : decode cX12_valueNow 25 = .ok (.getfield 114, 3) := by decide +kernel
theorem dX12_valueNow_28 : decode cX12_valueNow 28 = .ok (.iload_n 3, 1) := by decide +kernel
theorem dX12_valueNow_29 : decode cX12_valueNow 29 = .ok (.iload 5, 2) := by decide +kernel
theorem dX12_valueNow_31 : decode cX12_valueNow 31 = .ok (.ifCond .lt 8, 3) := by decide +kernel
theorem dX12_valueNow_34 : decode cX12_valueNow 34 = .ok (.iload 5, 2) := by decide +kernel
theorem dX12_valueNow_36 : decode cX12_valueNow 36 = .ok (.goto 12, 3) := by decide +kernel
theorem dX12_valueNow_39 : decode cX12_valueNow 39 = .ok (.aload_n 0, 1) := by decide +kernel
theorem dX12_valueNow_40 : decode cX12_valueNow 40 = .ok (.getfield 111, 3) := by decide +kernel
theorem dX12_valueNow_43 : decode cX12_valueNow 43 = .ok (.iconst (-1), 1) := by decide +kernel
theorem dX12_valueNow_44 : decode cX12_valueNow 44 = .ok (.iload 5, 2) := by decide +kernel
theorem dX12_valueNow_46 : decode cX12_valueNow 46 = .ok (.isub, 1) := by decide +kernel
theorem dX12_valueNow_47 : decode cX12_valueNow 47 = .ok (.iaload, 1) := by decide +kernel
theorem dX12_valueNow_48 : decode cX12_valueNow 48 = .ok (.iastore, 1) := by decide +kernel
theorem dX12_valueNow_49 : decode cX12_valueNow 49 = .ok (.iinc 3 1, 3) := by decide +kernel
theorem dX12_valueNow_52 : decode cX12_valueNow 52 = .ok (.goto 67, 3) := by decide +kernel
theorem dX12_valueNow_55 : decode cX12_valueNow 55 = .ok (.iload 5, 2) := by decide +kernel
theorem dX12_valueNow_57 : decode cX12_valueNow 57 = .ok (.bipush (-28), 2) := by decide +kernel
theorem dX12_valueNow_59 : decode cX12_valueNow 59 = .ok (.if_icmp .ne 30, 3) := by decide +kernel
theorem dX12_valueNow_62 : decode cX12_valueNow 62 = .ok (.aload_n 0, 1) := by decide +kernel
theorem dX12_valueNow_63 : decode cX12_valueNow 63 = .ok (.getfield 114, 3) := by decide +kernel
theorem dX12_valueNow_66 : decode cX12_valueNow 66 = .ok (.iload_n 3, 1) := by decide +kernel
theorem dX12_valueNow_67 : decode cX12_valueNow 67 = .ok (.iconst 1, 1) := by decide +kernel
theorem dX12_valueNow_68 : decode cX12_valueNow 68 = .ok (.isub, 1) := by decide +kernel
theorem dX12_valueNow_69 : decode cX12_valueNow 69 = .ok (.aload_n 0, 1) := by decide +kernel
theorem dX12_valueNow_70 : decode cX12_valueNow 70 = .ok (.getfield 114, 3) := by decide +kernel
theorem dX12_valueNow_73 : decode cX12_valueNow 73 = .ok (.iload_n 3, 1) := by decide +kernel
theorem dX12_valueNow_74 : decode cX12_valueNow 74 = .ok (.iconst 1, 1) := by decide +kernel
theorem dX12_valueNow_75 : decode cX12_valueNow 75 = .ok (.isub, 1) := by decide +kernel
theorem dX12_valueNow_76 : decode cX12_valueNow 76 = .ok (.iaload, 1) := by decide +kernel
theorem dX12_valueNow_77 : decode cX12_valueNow 77 = .ok (.ifCond .eq 7, 3) := by decide +kernel
theorem dX12_valueNow_80 : decode cX12_valueNow 80 = .ok (.iconst 0, 1) := by decide +kernel
theorem dX12_valueNow_81 : decode cX12_valueNow 81 = .ok (.goto 4, 3) := by decide +kernel
theorem dX12_valueNow_84 : decode cX12_valueNow 84 = .ok (.iconst 1, 1) := by decide +kernel
theorem dX12_valueNow_85 : decode cX12_valueNow 85 = .ok (.iastore, 1) := by decide +kernel
theorem dX12_valueNow_86 : decode cX12_valueNow 86 = .ok (.goto 33, 3) := by decide +kernel
theorem dX12_valueNow_89 : decode cX12_valueNow 89 = .ok (.iinc 3 (-1), 3) := by decide +kernel
theorem dX12_valueNow_92 : decode cX12_valueNow 92 = .ok (.aload_n 0, 1) := by decide +kernel
theorem dX12_valueNow_93 : decode cX12_valueNow 93 = .ok (.getfield 114, 3) := by decide +kernel
theorem dX12_valueNow_96 : decode cX12_valueNow 96 = .ok (.iload_n 3, 1) := by decide +kernel
theorem dX12_valueNow_97 : decode cX12_valueNow 97 = .ok (.iconst 1, 1) := by decide +kernel
theorem dX12_valueNow_98 : decode cX12_valueNow 98 = .ok (.isub, 1) := by decide +kernel
theorem dX12_valueNow_99 : decode cX12_valueNow 99 = .ok (.iload 5, 2) := by decide +kernel
theorem dX12_valueNow_101 : decode cX12_valueNow 101 = .ok (.aload_n 0, 1) := by decide +kernel
theorem dX12_valueNow_102 : decode cX12_valueNow 102 = .ok (.getfield 114, 3) := by decide +kernel
theorem dX12_valueNow_105 : decode cX12_valueNow 105 = .ok (.iload_n 3, 1) := by decide +kernel
theorem dX12_valueNow_106 : decode cX12_valueNow 106 = .ok (.iconst 1, 1) := by decide +kernel
theorem dX12_valueNow_107 : decode cX12_valueNow 107 = .ok (.isub, 1) := by decide +kernel
theorem dX12_valueNow_108 : decode cX12_valueNow 108 = .ok (.iaload, 1) := by decide +kernel
theorem dX12_valueNow_109 : decode cX12_valueNow 109 = .ok (.aload_n 0, 1) := by decide +kernel
theorem dX12_valueNow_110 : decode cX12_valueNow 110 = .ok (.getfield 114, 3) := by decide +kernel
theorem dX12_valueNow_113 : decode cX12_valueNow 113 = .ok (.iload_n 3, 1) := by decide +kernel
theorem dX12_valueNow_114 : decode cX12_valueNow 114 = .ok (.iaload, 1) := by decide +kernel
theorem dX12_valueNow_115 : decode cX12_valueNow 115 = .ok (.invokestatic 356, 3) := by decide +kernel
theorem dX12_valueNow_118 : decode cX12_valueNow 118 = .ok (.iastore, 1) := by decide +kernel
theorem dX12_valueNow_119 : decode cX12_valueNow 119 = .ok (.iinc 4 1, 3) := by decide +kernel
theorem dX12_valueNow_122 : decode cX12_valueNow 122 = .ok (.goto (-117), 3) := by decide +kernel
theorem dX12_valueNow_125 : decode cX12_valueNow 125 = .ok (.aload_n 0, 1) := by decide +kernel
theorem dX12_valueNow_126 : decode cX12_valueNow 126 = .ok (.getfield 114, 3) := by decide +kernel
theorem dX12_valueNow_129 : decode cX12_valueNow 129 = .ok (.iconst 0, 1) := by decide +kernel
theorem dX12_valueNow_130 : decode cX12_valueNow 130 = .ok (.iaload, 1) := by decide +kernel
theorem dX12_valueNow_131 : decode cX12_valueNow 131 = .ok (.ireturn, 1) := by decide +kernel
theorem dX12_ask_0 : decode cX12_ask 0 = .ok (.aload_n 0, 1) := by decide +kernel
theorem dX12_ask_1 : decode cX12_ask 1 = .ok (.getfield 111, 3) := by decide +kernel
theorem dX12_ask_4 : decode cX12_ask 4 = .ok (.iconst 0, 1) := by decide +kernel
theorem dX12_ask_5 : decode cX12_ask 5 = .ok (.aload_n 0, 1) := by decide +kernel
theorem dX12_ask_6 : decode cX12_ask 6 = .ok (.getfield 85, 3) := by decide +kernel
theorem dX12_ask_9 : decode cX12_ask 9 = .ok (.iload_n 1, 1) := by decide +kernel
theorem dX12_ask_10 : decode cX12_ask 10 = .ok (.iaload, 1) := by decide +kernel
theorem dX12_ask_11 : decode cX12_ask 11 = .ok (.iastore, 1) := by decide +kernel
theorem dX12_ask_12 : decode cX12_ask 12 = .ok (.aload_n 0, 1) := by decide +kernel
theorem dX12_ask_13 : decode cX12_ask 13 = .ok (.getfield 111, 3) := by decide +kernel
theorem dX12_ask_16 : decode cX12_ask 16 = .ok (.iconst 1, 1) := by decide +kernel
theorem dX12_ask_17 : decode cX12_ask 17 = .ok (.aload_n 0, 1) := by decide +kernel
theorem dX12_ask_18 : decode cX12_ask 18 = .ok (.getfield 90, 3) := by decide +kernel
theorem dX12_ask_21 : decode cX12_ask 21 = .ok (.iload_n 1, 1) := by decide +kernel
theorem dX12_ask_22 : decode cX12_ask 22 = .ok (.iaload, 1) := by decide +kernel
theorem dX12_ask_23 : decode cX12_ask 23 = .ok (.iastore, 1) := by decide +kernel
theorem dX12_ask_24 : decode cX12_ask 24 = .ok (.aload_n 0, 1) := by decide +kernel
theorem dX12_ask_25 : decode cX12_ask 25 = .ok (.getfield 111, 3) := by decide +kernel
theorem dX12_ask_28 : decode cX12_ask 28 = .ok (.iconst 2, 1) := by decide +kernel
theorem dX12_ask_29 : decode cX12_ask 29 = .ok (.aload_n 0, 1) := by decide +kernel
theorem dX12_ask_30 : decode cX12_ask 30 = .ok (.getfield 52, 3) := by decide +kernel
theorem dX12_ask_33 : decode cX12_ask 33 = .ok (.iload_n 1, 1) := by decide +kernel
theorem dX12_ask_34 : decode cX12_ask 34 = .ok (.iaload, 1) := by decide +kernel
theorem dX12_ask_35 : decode cX12_ask 35 = .ok (.iastore, 1) := by decide +kernel
theorem dX12_ask_36 : decode cX12_ask 36 = .ok (.aload_n 0, 1) := by decide +kernel
theorem dX12_ask_37 : decode cX12_ask 37 = .ok (.getfield 111, 3) := by decide +kernel
theorem dX12_ask_40 : decode cX12_ask 40 = .ok (.iconst 3, 1) := by decide +kernel
theorem dX12_ask_41 : decode cX12_ask 41 = .ok (.aload_n 0, 1) := by decide +kernel
theorem dX12_ask_42 : decode cX12_ask 42 = .ok (.getfield 93, 3) := by decide +kernel
theorem dX12_ask_45 : decode cX12_ask 45 = .ok (.iload_n 1, 1) := by decide +kernel
theorem dX12_ask_46 : decode cX12_ask 46 = .ok (.iaload, 1) := by decide +kernel
theorem dX12_ask_47 : decode cX12_ask 47 = .ok (.invokestatic 360, 3) := by decide +kernel
theorem dX12_ask_50 : decode cX12_ask 50 = .ok (.iastore, 1) := by decide +kernel
theorem dX12_ask_51 : decode cX12_ask 51 = .ok (.aload_n 0, 1) := by decide +kernel
theorem dX12_ask_52 : decode cX12_ask 52 = .ok (.getfield 111, 3) := by decide +kernel
theorem dX12_ask_55 : decode cX12_ask 55 = .ok (.iconst 4, 1) := by decide +kernel
theorem dX12_ask_56 : decode cX12_ask 56 = .ok (.aload_n 0, 1) := by decide +kernel
theorem dX12_ask_57 : decode cX12_ask 57 = .ok (.getfield 342, 3) := by decide +kernel
theorem dX12_ask_60 : decode cX12_ask 60 = .ok (.iastore, 1) := by decide +kernel
theorem dX12_ask_61 : decode cX12_ask 61 = .ok (.return_, 1) := by decide +kernel
theorem dX12_tiedTo_0 : decode cX12_tiedTo 0 = .ok (.iconst 0, 1) := by decide +kernel
theorem dX12_tiedTo_1 : decode cX12_tiedTo 1 = .ok (.istore_n 2, 1) := by decide +kernel
theorem dX12_tiedTo_2 : decode cX12_tiedTo 2 = .ok (.iconst 0, 1) := by decide +kernel
theorem dX12_tiedTo_3 : decode cX12_tiedTo 3 = .ok (.istore_n 3, 1) := by decide +kernel
theorem dX12_tiedTo_4 : decode cX12_tiedTo 4 = .ok (.iload_n 3, 1) := by decide +kernel
theorem dX12_tiedTo_5 : decode cX12_tiedTo 5 = .ok (.aload_n 0, 1) := by decide +kernel
theorem dX12_tiedTo_6 : decode cX12_tiedTo 6 = .ok (.getfield 48, 3) := by decide +kernel
theorem dX12_tiedTo_9 : decode cX12_tiedTo 9 = .ok (.iconst 0, 1) := by decide +kernel
theorem dX12_tiedTo_10 : decode cX12_tiedTo 10 = .ok (.iaload, 1) := by decide +kernel
theorem dX12_tiedTo_11 : decode cX12_tiedTo 11 = .ok (.if_icmp .ge 33, 3) := by decide +kernel
theorem dX12_tiedTo_14 : decode cX12_tiedTo 14 = .ok (.iload_n 2, 1) := by decide +kernel
theorem dX12_tiedTo_15 : decode cX12_tiedTo 15 = .ok (.aload_n 0, 1) := by decide +kernel
theorem dX12_tiedTo_16 : decode cX12_tiedTo 16 = .ok (.getfield 105, 3) := by decide +kernel
theorem dX12_tiedTo_19 : decode cX12_tiedTo 19 = .ok (.bipush 6, 2) := by decide +kernel
theorem dX12_tiedTo_21 : decode cX12_tiedTo 21 = .ok (.iload_n 3, 1) := by decide +kernel
theorem dX12_tiedTo_22 : decode cX12_tiedTo 22 = .ok (.imul, 1) := by decide +kernel
theorem dX12_tiedTo_23 : decode cX12_tiedTo 23 = .ok (.iload_n 1, 1) := by decide +kernel
theorem dX12_tiedTo_24 : decode cX12_tiedTo 24 = .ok (.iadd, 1) := by decide +kernel
theorem dX12_tiedTo_25 : decode cX12_tiedTo 25 = .ok (.iaload, 1) := by decide +kernel
theorem dX12_tiedTo_26 : decode cX12_tiedTo 26 = .ok (.ifCond .le 9, 3) := by decide +kernel
theorem dX12_tiedTo_29 : decode cX12_tiedTo 29 = .ok (.iconst 1, 1) := by decide +kernel
theorem dX12_tiedTo_30 : decode cX12_tiedTo 30 = .ok (.iload_n 3, 1) := by decide +kernel
theorem dX12_tiedTo_31 : decode cX12_tiedTo 31 = .ok (.ishl, 1) := by decide +kernel
theorem dX12_tiedTo_32 : decode cX12_tiedTo 32 = .ok (.goto 4, 3) := by decide +kernel
theorem dX12_tiedTo_35 : decode cX12_tiedTo 35 = .ok (.iconst 0, 1) := by decide +kernel
theorem dX12_tiedTo_36 : decode cX12_tiedTo 36 = .ok (.ior, 1) := by decide +kernel
theorem dX12_tiedTo_37 : decode cX12_tiedTo 37 = .ok (.istore_n 2, 1) := by decide +kernel
theorem dX12_tiedTo_38 : decode cX12_tiedTo 38 = .ok (.iinc 3 1, 3) := by decide +kernel
theorem dX12_tiedTo_41 : decode cX12_tiedTo 41 = .ok (.goto (-37), 3) := by decide +kernel
theorem dX12_tiedTo_44 : decode cX12_tiedTo 44 = .ok (.iload_n 2, 1) := by decide +kernel
theorem dX12_tiedTo_45 : decode cX12_tiedTo 45 = .ok (.ireturn, 1) := by decide +kernel
theorem dX12_tiesOf_0 : decode cX12_tiesOf 0 = .ok (.iconst 0, 1) := by decide +kernel
theorem dX12_tiesOf_1 : decode cX12_tiesOf 1 = .ok (.istore_n 2, 1) := by decide +kernel
theorem dX12_tiesOf_2 : decode cX12_tiesOf 2 = .ok (.iconst 0, 1) := by decide +kernel
theorem dX12_tiesOf_3 : decode cX12_tiesOf 3 = .ok (.istore_n 3, 1) := by decide +kernel
theorem dX12_tiesOf_4 : decode cX12_tiesOf 4 = .ok (.iload_n 3, 1) := by decide +kernel
theorem dX12_tiesOf_5 : decode cX12_tiesOf 5 = .ok (.aload_n 0, 1) := by decide +kernel
theorem dX12_tiesOf_6 : decode cX12_tiesOf 6 = .ok (.getfield 48, 3) := by decide +kernel
theorem dX12_tiesOf_9 : decode cX12_tiesOf 9 = .ok (.iconst 1, 1) := by decide +kernel
theorem dX12_tiesOf_10 : decode cX12_tiesOf 10 = .ok (.iaload, 1) := by decide +kernel
theorem dX12_tiesOf_11 : decode cX12_tiesOf 11 = .ok (.if_icmp .ge 33, 3) := by decide +kernel
theorem dX12_tiesOf_14 : decode cX12_tiesOf 14 = .ok (.iload_n 2, 1) := by decide +kernel
theorem dX12_tiesOf_15 : decode cX12_tiesOf 15 = .ok (.aload_n 0, 1) := by decide +kernel
theorem dX12_tiesOf_16 : decode cX12_tiesOf 16 = .ok (.getfield 105, 3) := by decide +kernel
theorem dX12_tiesOf_19 : decode cX12_tiesOf 19 = .ok (.bipush 6, 2) := by decide +kernel
theorem dX12_tiesOf_21 : decode cX12_tiesOf 21 = .ok (.iload_n 1, 1) := by decide +kernel
theorem dX12_tiesOf_22 : decode cX12_tiesOf 22 = .ok (.imul, 1) := by decide +kernel
theorem dX12_tiesOf_23 : decode cX12_tiesOf 23 = .ok (.iload_n 3, 1) := by decide +kernel
theorem dX12_tiesOf_24 : decode cX12_tiesOf 24 = .ok (.iadd, 1) := by decide +kernel
theorem dX12_tiesOf_25 : decode cX12_tiesOf 25 = .ok (.iaload, 1) := by decide +kernel
theorem dX12_tiesOf_26 : decode cX12_tiesOf 26 = .ok (.ifCond .le 9, 3) := by decide +kernel
theorem dX12_tiesOf_29 : decode cX12_tiesOf 29 = .ok (.iconst 1, 1) := by decide +kernel
theorem dX12_tiesOf_30 : decode cX12_tiesOf 30 = .ok (.iload_n 3, 1) := by decide +kernel
theorem dX12_tiesOf_31 : decode cX12_tiesOf 31 = .ok (.ishl, 1) := by decide +kernel
theorem dX12_tiesOf_32 : decode cX12_tiesOf 32 = .ok (.goto 4, 3) := by decide +kernel
theorem dX12_tiesOf_35 : decode cX12_tiesOf 35 = .ok (.iconst 0, 1) := by decide +kernel
theorem dX12_tiesOf_36 : decode cX12_tiesOf 36 = .ok (.ior, 1) := by decide +kernel
theorem dX12_tiesOf_37 : decode cX12_tiesOf 37 = .ok (.istore_n 2, 1) := by decide +kernel
theorem dX12_tiesOf_38 : decode cX12_tiesOf 38 = .ok (.iinc 3 1, 3) := by decide +kernel
theorem dX12_tiesOf_41 : decode cX12_tiesOf 41 = .ok (.goto (-37), 3) := by decide +kernel
theorem dX12_tiesOf_44 : decode cX12_tiesOf 44 = .ok (.iload_n 2, 1) := by decide +kernel
theorem dX12_tiesOf_45 : decode cX12_tiesOf 45 = .ok (.ireturn, 1) := by decide +kernel
theorem dX12_weightOf_0 : decode cX12_weightOf 0 = .ok (.aload_n 0, 1) := by decide +kernel
theorem dX12_weightOf_1 : decode cX12_weightOf 1 = .ok (.getfield 105, 3) := by decide +kernel
theorem dX12_weightOf_4 : decode cX12_weightOf 4 = .ok (.bipush 6, 2) := by decide +kernel
theorem dX12_weightOf_6 : decode cX12_weightOf 6 = .ok (.iload_n 1, 1) := by decide +kernel
theorem dX12_weightOf_7 : decode cX12_weightOf 7 = .ok (.imul, 1) := by decide +kernel
theorem dX12_weightOf_8 : decode cX12_weightOf 8 = .ok (.iload_n 2, 1) := by decide +kernel
theorem dX12_weightOf_9 : decode cX12_weightOf 9 = .ok (.iadd, 1) := by decide +kernel
theorem dX12_weightOf_10 : decode cX12_weightOf 10 = .ok (.iaload, 1) := by decide +kernel
theorem dX12_weightOf_11 : decode cX12_weightOf 11 = .ok (.istore_n 3, 1) := by decide +kernel
theorem dX12_weightOf_12 : decode cX12_weightOf 12 = .ok (.iload_n 3, 1) := by decide +kernel
theorem dX12_weightOf_13 : decode cX12_weightOf 13 = .ok (.ifCond .ne 5, 3) := by decide +kernel
theorem dX12_weightOf_16 : decode cX12_weightOf 16 = .ok (.iconst (-1), 1) := by decide +kernel
theorem dX12_weightOf_17 : decode cX12_weightOf 17 = .ok (.ireturn, 1) := by decide +kernel
theorem dX12_weightOf_18 : decode cX12_weightOf 18 = .ok (.aload_n 0, 1) := by decide +kernel
theorem dX12_weightOf_19 : decode cX12_weightOf 19 = .ok (.getfield 85, 3) := by decide +kernel
theorem dX12_weightOf_22 : decode cX12_weightOf 22 = .ok (.iload_n 1, 1) := by decide +kernel
theorem dX12_weightOf_23 : decode cX12_weightOf 23 = .ok (.iaload, 1) := by decide +kernel
theorem dX12_weightOf_24 : decode cX12_weightOf 24 = .ok (.iload_n 3, 1) := by decide +kernel
theorem dX12_weightOf_25 : decode cX12_weightOf 25 = .ok (.iadd, 1) := by decide +kernel
theorem dX12_weightOf_26 : decode cX12_weightOf 26 = .ok (.iconst 2, 1) := by decide +kernel
theorem dX12_weightOf_27 : decode cX12_weightOf 27 = .ok (.aload_n 0, 1) := by decide +kernel
theorem dX12_weightOf_28 : decode cX12_weightOf 28 = .ok (.getfield 90, 3) := by decide +kernel
theorem dX12_weightOf_31 : decode cX12_weightOf 31 = .ok (.iload_n 1, 1) := by decide +kernel
theorem dX12_weightOf_32 : decode cX12_weightOf 32 = .ok (.iaload, 1) := by decide +kernel
theorem dX12_weightOf_33 : decode cX12_weightOf 33 = .ok (.imul, 1) := by decide +kernel
theorem dX12_weightOf_34 : decode cX12_weightOf 34 = .ok (.isub, 1) := by decide +kernel
theorem dX12_weightOf_35 : decode cX12_weightOf 35 = .ok (.istore 4, 2) := by decide +kernel
theorem dX12_weightOf_37 : decode cX12_weightOf 37 = .ok (.aload_n 0, 1) := by decide +kernel
theorem dX12_weightOf_38 : decode cX12_weightOf 38 = .ok (.getfield 48, 3) := by decide +kernel
theorem dX12_weightOf_41 : decode cX12_weightOf 41 = .ok (.iconst 3, 1) := by decide +kernel
theorem dX12_weightOf_42 : decode cX12_weightOf 42 = .ok (.iaload, 1) := by decide +kernel
theorem dX12_weightOf_43 : decode cX12_weightOf 43 = .ok (.ifCond .le 70, 3) := by decide +kernel
theorem dX12_weightOf_46 : decode cX12_weightOf 46 = .ok (.aload_n 0, 1) := by decide +kernel
theorem dX12_weightOf_47 : decode cX12_weightOf 47 = .ok (.iload_n 1, 1) := by decide +kernel
theorem dX12_weightOf_48 : decode cX12_weightOf 48 = .ok (.invokevirtual 363, 3) := by decide +kernel
theorem dX12_weightOf_51 : decode cX12_weightOf 51 = .ok (.aload_n 0, 1) := by decide +kernel
theorem dX12_weightOf_52 : decode cX12_weightOf 52 = .ok (.getfield 111, 3) := by decide +kernel
theorem dX12_weightOf_55 : decode cX12_weightOf 55 = .ok (.iconst 5, 1) := by decide +kernel
theorem dX12_weightOf_56 : decode cX12_weightOf 56 = .ok (.iload_n 3, 1) := by decide +kernel
theorem dX12_weightOf_57 : decode cX12_weightOf 57 = .ok (.iastore, 1) := by decide +kernel
theorem dX12_weightOf_58 : decode cX12_weightOf 58 = .ok (.aload_n 0, 1) := by decide +kernel
theorem dX12_weightOf_59 : decode cX12_weightOf 59 = .ok (.getfield 111, 3) := by decide +kernel
theorem dX12_weightOf_62 : decode cX12_weightOf 62 = .ok (.bipush 6, 2) := by decide +kernel
theorem dX12_weightOf_64 : decode cX12_weightOf 64 = .ok (.iconst 0, 1) := by decide +kernel
theorem dX12_weightOf_65 : decode cX12_weightOf 65 = .ok (.aload_n 0, 1) := by decide +kernel
theorem dX12_weightOf_66 : decode cX12_weightOf 66 = .ok (.getfield 96, 3) := by decide +kernel
theorem dX12_weightOf_69 : decode cX12_weightOf 69 = .ok (.iload_n 2, 1) := by decide +kernel
theorem dX12_weightOf_70 : decode cX12_weightOf 70 = .ok (.iaload, 1) := by decide +kernel
theorem dX12_weightOf_71 : decode cX12_weightOf 71 = .ok (.aload_n 0, 1) := by decide +kernel
theorem dX12_weightOf_72 : decode cX12_weightOf 72 = .ok (.getfield 342, 3) := by decide +kernel
theorem dX12_weightOf_75 : decode cX12_weightOf 75 = .ok (.isub, 1) := by decide +kernel
theorem dX12_weightOf_76 : decode cX12_weightOf 76 = .ok (.invokestatic 366, 3) := by decide +kernel
theorem dX12_weightOf_79 : decode cX12_weightOf 79 = .ok (.iastore, 1) := by decide +kernel
theorem dX12_weightOf_80 : decode cX12_weightOf 80 = .ok (.aload_n 0, 1) := by decide +kernel
theorem dX12_weightOf_81 : decode cX12_weightOf 81 = .ok (.getfield 111, 3) := by decide +kernel
theorem dX12_weightOf_84 : decode cX12_weightOf 84 = .ok (.bipush 7, 2) := by decide +kernel
theorem dX12_weightOf_86 : decode cX12_weightOf 86 = .ok (.aload_n 0, 1) := by decide +kernel
theorem dX12_weightOf_87 : decode cX12_weightOf 87 = .ok (.iload_n 2, 1) := by decide +kernel
theorem dX12_weightOf_88 : decode cX12_weightOf 88 = .ok (.invokevirtual 369, 3) := by decide +kernel
theorem dX12_weightOf_91 : decode cX12_weightOf 91 = .ok (.invokestatic 360, 3) := by decide +kernel
theorem dX12_weightOf_94 : decode cX12_weightOf 94 = .ok (.iconst 1, 1) := by decide +kernel
theorem dX12_weightOf_95 : decode cX12_weightOf 95 = .ok (.isub, 1) := by decide +kernel
theorem dX12_weightOf_96 : decode cX12_weightOf 96 = .ok (.iastore, 1) := by decide +kernel
theorem dX12_weightOf_97 : decode cX12_weightOf 97 = .ok (.aload_n 0, 1) := by decide +kernel
theorem dX12_weightOf_98 : decode cX12_weightOf 98 = .ok (.aload_n 0, 1) := by decide +kernel
theorem dX12_weightOf_99 : decode cX12_weightOf 99 = .ok (.getfield 69, 3) := by decide +kernel
theorem dX12_weightOf_102 : decode cX12_weightOf 102 = .ok (.aload_n 0, 1) := by decide +kernel
theorem dX12_weightOf_103 : decode cX12_weightOf 103 = .ok (.getfield 48, 3) := by decide +kernel
theorem dX12_weightOf_106 : decode cX12_weightOf 106 = .ok (.iconst 3, 1) := by decide +kernel
theorem dX12_weightOf_107 : decode cX12_weightOf 107 = .ok (.iaload, 1) := by decide +kernel
theorem dX12_weightOf_108 : decode cX12_weightOf 108 = .ok (.invokevirtual 372, 3) := by decide +kernel
theorem dX12_weightOf_111 : decode cX12_weightOf 111 = .ok (.istore 4, 2) := by decide +kernel
theorem dX12_weightOf_113 : decode cX12_weightOf 113 = .ok (.iconst 0, 1) := by decide +kernel
theorem dX12_weightOf_114 : decode cX12_weightOf 114 = .ok (.sipush 999, 3) := by decide +kernel
theorem dX12_weightOf_117 : decode cX12_weightOf 117 = .ok (.iload 4, 2) := by decide +kernel
theorem dX12_weightOf_119 : decode cX12_weightOf 119 = .ok (.invokestatic 221, 3) := by decide +kernel
theorem dX12_weightOf_122 : decode cX12_weightOf 122 = .ok (.invokestatic 366, 3) := by decide +kernel
theorem dX12_weightOf_125 : decode cX12_weightOf 125 = .ok (.ireturn, 1) := by decide +kernel
theorem dX12_heaviest_0 : decode cX12_heaviest 0 = .ok (.iconst (-1), 1) := by decide +kernel
theorem dX12_heaviest_1 : decode cX12_heaviest 1 = .ok (.istore_n 2, 1) := by decide +kernel
theorem dX12_heaviest_2 : decode cX12_heaviest 2 = .ok (.iconst (-1), 1) := by decide +kernel
theorem dX12_heaviest_3 : decode cX12_heaviest 3 = .ok (.istore_n 3, 1) := by decide +kernel
theorem dX12_heaviest_4 : decode cX12_heaviest 4 = .ok (.iconst 0, 1) := by decide +kernel
theorem dX12_heaviest_5 : decode cX12_heaviest 5 = .ok (.istore 4, 2) := by decide +kernel
theorem dX12_heaviest_7 : decode cX12_heaviest 7 = .ok (.iload 4, 2) := by decide +kernel
theorem dX12_heaviest_9 : decode cX12_heaviest 9 = .ok (.aload_n 0, 1) := by decide +kernel
theorem dX12_heaviest_10 : decode cX12_heaviest 10 = .ok (.getfield 48, 3) := by decide +kernel
theorem dX12_heaviest_13 : decode cX12_heaviest 13 = .ok (.iconst 0, 1) := by decide +kernel
theorem dX12_heaviest_14 : decode cX12_heaviest 14 = .ok (.iaload, 1) := by decide +kernel
theorem dX12_heaviest_15 : decode cX12_heaviest 15 = .ok (.if_icmp .ge 33, 3) := by decide +kernel
theorem dX12_heaviest_18 : decode cX12_heaviest 18 = .ok (.aload_n 0, 1) := by decide +kernel
theorem dX12_heaviest_19 : decode cX12_heaviest 19 = .ok (.iload 4, 2) := by decide +kernel
theorem dX12_heaviest_21 : decode cX12_heaviest 21 = .ok (.iload_n 1, 1) := by decide +kernel
theorem dX12_heaviest_22 : decode cX12_heaviest 22 = .ok (.invokevirtual 376, 3) := by decide +kernel
theorem dX12_heaviest_25 : decode cX12_heaviest 25 = .ok (.istore 5, 2) := by decide +kernel
theorem dX12_heaviest_27 : decode cX12_heaviest 27 = .ok (.iload 5, 2) := by decide +kernel
theorem dX12_heaviest_29 : decode cX12_heaviest 29 = .ok (.iload_n 3, 1) := by decide +kernel
theorem dX12_heaviest_30 : decode cX12_heaviest 30 = .ok (.if_icmp .gt 6, 3) := by decide +kernel
theorem dX12_heaviest_33 : decode cX12_heaviest 33 = .ok (.goto 9, 3) := by decide +kernel
theorem dX12_heaviest_36 : decode cX12_heaviest 36 = .ok (.iload 4, 2) := by decide +kernel
theorem dX12_heaviest_38 : decode cX12_heaviest 38 = .ok (.istore_n 2, 1) := by decide +kernel
theorem dX12_heaviest_39 : decode cX12_heaviest 39 = .ok (.iload 5, 2) := by decide +kernel
theorem dX12_heaviest_41 : decode cX12_heaviest 41 = .ok (.istore_n 3, 1) := by decide +kernel
theorem dX12_heaviest_42 : decode cX12_heaviest 42 = .ok (.iinc 4 1, 3) := by decide +kernel
theorem dX12_heaviest_45 : decode cX12_heaviest 45 = .ok (.goto (-38), 3) := by decide +kernel
theorem dX12_heaviest_48 : decode cX12_heaviest 48 = .ok (.iload_n 2, 1) := by decide +kernel
theorem dX12_heaviest_49 : decode cX12_heaviest 49 = .ok (.ireturn, 1) := by decide +kernel
theorem dX12_leaderNow_0 : decode cX12_leaderNow 0 = .ok (.aload_n 0, 1) := by decide +kernel
theorem dX12_leaderNow_1 : decode cX12_leaderNow 1 = .ok (.iload_n 1, 1) := by decide +kernel
theorem dX12_leaderNow_2 : decode cX12_leaderNow 2 = .ok (.invokevirtual 379, 3) := by decide +kernel
theorem dX12_leaderNow_5 : decode cX12_leaderNow 5 = .ok (.istore_n 2, 1) := by decide +kernel
theorem dX12_leaderNow_6 : decode cX12_leaderNow 6 = .ok (.iload_n 2, 1) := by decide +kernel
theorem dX12_leaderNow_7 : decode cX12_leaderNow 7 = .ok (.iconst (-1), 1) := by decide +kernel
theorem dX12_leaderNow_8 : decode cX12_leaderNow 8 = .ok (.if_icmp .eq 12, 3) := by decide +kernel
theorem dX12_leaderNow_11 : decode cX12_leaderNow 11 = .ok (.aload_n 0, 1) := by decide +kernel
theorem dX12_leaderNow_12 : decode cX12_leaderNow 12 = .ok (.iload_n 2, 1) := by decide +kernel
theorem dX12_leaderNow_13 : decode cX12_leaderNow 13 = .ok (.iload_n 1, 1) := by decide +kernel
theorem dX12_leaderNow_14 : decode cX12_leaderNow 14 = .ok (.invokevirtual 376, 3) := by decide +kernel
theorem dX12_leaderNow_17 : decode cX12_leaderNow 17 = .ok (.ifCond .ne 7, 3) := by decide +kernel
theorem dX12_leaderNow_20 : decode cX12_leaderNow 20 = .ok (.iconst (-1), 1) := by decide +kernel
theorem dX12_leaderNow_21 : decode cX12_leaderNow 21 = .ok (.goto 4, 3) := by decide +kernel
theorem dX12_leaderNow_24 : decode cX12_leaderNow 24 = .ok (.iload_n 2, 1) := by decide +kernel
theorem dX12_leaderNow_25 : decode cX12_leaderNow 25 = .ok (.ireturn, 1) := by decide +kernel
theorem dX12_lead_0 : decode cX12_lead 0 = .ok (.aload_n 0, 1) := by decide +kernel
theorem dX12_lead_1 : decode cX12_lead 1 = .ok (.iload_n 1, 1) := by decide +kernel
theorem dX12_lead_2 : decode cX12_lead 2 = .ok (.invokevirtual 382, 3) := by decide +kernel
theorem dX12_lead_5 : decode cX12_lead 5 = .ok (.istore_n 2, 1) := by decide +kernel
theorem dX12_lead_6 : decode cX12_lead 6 = .ok (.aload_n 0, 1) := by decide +kernel
theorem dX12_lead_7 : decode cX12_lead 7 = .ok (.getfield 99, 3) := by decide +kernel
theorem dX12_lead_10 : decode cX12_lead 10 = .ok (.iload_n 1, 1) := by decide +kernel
theorem dX12_lead_11 : decode cX12_lead 11 = .ok (.iconst 0, 1) := by decide +kernel
theorem dX12_lead_12 : decode cX12_lead 12 = .ok (.iastore, 1) := by decide +kernel
theorem dX12_lead_13 : decode cX12_lead 13 = .ok (.aload_n 0, 1) := by decide +kernel
theorem dX12_lead_14 : decode cX12_lead 14 = .ok (.getfield 102, 3) := by decide +kernel
theorem dX12_lead_17 : decode cX12_lead 17 = .ok (.iload_n 1, 1) := by decide +kernel
theorem dX12_lead_18 : decode cX12_lead 18 = .ok (.iload_n 2, 1) := by decide +kernel
theorem dX12_lead_19 : decode cX12_lead 19 = .ok (.iastore, 1) := by decide +kernel
theorem dX12_lead_20 : decode cX12_lead 20 = .ok (.aload_n 0, 1) := by decide +kernel
theorem dX12_lead_21 : decode cX12_lead 21 = .ok (.getfield 117, 3) := by decide +kernel
theorem dX12_lead_24 : decode cX12_lead 24 = .ok (.iload_n 1, 1) := by decide +kernel
theorem dX12_lead_25 : decode cX12_lead 25 = .ok (.iload_n 2, 1) := by decide +kernel
theorem dX12_lead_26 : decode cX12_lead 26 = .ok (.iconst (-1), 1) := by decide +kernel
theorem dX12_lead_27 : decode cX12_lead 27 = .ok (.if_icmp .ne 7, 3) := by decide +kernel
theorem dX12_lead_30 : decode cX12_lead 30 = .ok (.iconst 0, 1) := by decide +kernel
theorem dX12_lead_31 : decode cX12_lead 31 = .ok (.goto 9, 3) := by decide +kernel
theorem dX12_lead_34 : decode cX12_lead 34 = .ok (.aload_n 0, 1) := by decide +kernel
theorem dX12_lead_35 : decode cX12_lead 35 = .ok (.iload_n 2, 1) := by decide +kernel
theorem dX12_lead_36 : decode cX12_lead 36 = .ok (.iload_n 1, 1) := by decide +kernel
theorem dX12_lead_37 : decode cX12_lead 37 = .ok (.invokevirtual 376, 3) := by decide +kernel
theorem dX12_lead_40 : decode cX12_lead 40 = .ok (.iastore, 1) := by decide +kernel
theorem dX12_lead_41 : decode cX12_lead 41 = .ok (.iload_n 2, 1) := by decide +kernel
theorem dX12_lead_42 : decode cX12_lead 42 = .ok (.iconst (-1), 1) := by decide +kernel
theorem dX12_lead_43 : decode cX12_lead 43 = .ok (.if_icmp .ne 14, 3) := by decide +kernel
theorem dX12_lead_46 : decode cX12_lead 46 = .ok (.aload_n 0, 1) := by decide +kernel
theorem dX12_lead_47 : decode cX12_lead 47 = .ok (.dup, 1) := by decide +kernel
theorem dX12_lead_48 : decode cX12_lead 48 = .ok (.getfield 344, 3) := by decide +kernel
theorem dX12_lead_51 : decode cX12_lead 51 = .ok (.iconst 1, 1) := by decide +kernel
theorem dX12_lead_52 : decode cX12_lead 52 = .ok (.iadd, 1) := by decide +kernel
theorem dX12_lead_53 : decode cX12_lead 53 = .ok (.putfield 344, 3) := by decide +kernel
theorem dX12_lead_56 : decode cX12_lead 56 = .ok (.return_, 1) := by decide +kernel
theorem dX12_lead_57 : decode cX12_lead 57 = .ok (.aload_n 0, 1) := by decide +kernel
theorem dX12_lead_58 : decode cX12_lead 58 = .ok (.getfield 85, 3) := by decide +kernel
theorem dX12_lead_61 : decode cX12_lead 61 = .ok (.iload_n 2, 1) := by decide +kernel
theorem dX12_lead_62 : decode cX12_lead 62 = .ok (.dup2, 1) := by decide +kernel
theorem dX12_lead_63 : decode cX12_lead 63 = .ok (.iaload, 1) := by decide +kernel
theorem dX12_lead_64 : decode cX12_lead 64 = .ok (.iconst 2, 1) := by decide +kernel
theorem dX12_lead_65 : decode cX12_lead 65 = .ok (.idiv, 1) := by decide +kernel
theorem dX12_lead_66 : decode cX12_lead 66 = .ok (.iastore, 1) := by decide +kernel
theorem dX12_lead_67 : decode cX12_lead 67 = .ok (.aload_n 0, 1) := by decide +kernel
theorem dX12_lead_68 : decode cX12_lead 68 = .ok (.getfield 93, 3) := by decide +kernel
theorem dX12_lead_71 : decode cX12_lead 71 = .ok (.iload_n 2, 1) := by decide +kernel
theorem dX12_lead_72 : decode cX12_lead 72 = .ok (.dup2, 1) := by decide +kernel
theorem dX12_lead_73 : decode cX12_lead 73 = .ok (.iaload, 1) := by decide +kernel
theorem dX12_lead_74 : decode cX12_lead 74 = .ok (.iconst 1, 1) := by decide +kernel
theorem dX12_lead_75 : decode cX12_lead 75 = .ok (.iload_n 1, 1) := by decide +kernel
theorem dX12_lead_76 : decode cX12_lead 76 = .ok (.ishl, 1) := by decide +kernel
theorem dX12_lead_77 : decode cX12_lead 77 = .ok (.ior, 1) := by decide +kernel
theorem dX12_lead_78 : decode cX12_lead 78 = .ok (.iastore, 1) := by decide +kernel
theorem dX12_lead_79 : decode cX12_lead 79 = .ok (.return_, 1) := by decide +kernel
theorem dX12_mournsOf_0 : decode cX12_mournsOf 0 = .ok (.aload_n 0, 1) := by decide +kernel
theorem dX12_mournsOf_1 : decode cX12_mournsOf 1 = .ok (.getfield 48, 3) := by decide +kernel
theorem dX12_mournsOf_4 : decode cX12_mournsOf 4 = .ok (.iconst 4, 1) := by decide +kernel
theorem dX12_mournsOf_5 : decode cX12_mournsOf 5 = .ok (.iaload, 1) := by decide +kernel
theorem dX12_mournsOf_6 : decode cX12_mournsOf 6 = .ok (.ifCond .ne 24, 3) := by decide +kernel
theorem dX12_mournsOf_9 : decode cX12_mournsOf 9 = .ok (.aload_n 0, 1) := by decide +kernel
theorem dX12_mournsOf_10 : decode cX12_mournsOf 10 = .ok (.getfield 52, 3) := by decide +kernel
theorem dX12_mournsOf_13 : decode cX12_mournsOf 13 = .ok (.iload_n 1, 1) := by decide +kernel
theorem dX12_mournsOf_14 : decode cX12_mournsOf 14 = .ok (.iaload, 1) := by decide +kernel
theorem dX12_mournsOf_15 : decode cX12_mournsOf 15 = .ok (.iconst 3, 1) := by decide +kernel
theorem dX12_mournsOf_16 : decode cX12_mournsOf 16 = .ok (.if_icmp .ne 7, 3) := by decide +kernel
theorem dX12_mournsOf_19 : decode cX12_mournsOf 19 = .ok (.iconst 0, 1) := by decide +kernel
theorem dX12_mournsOf_20 : decode cX12_mournsOf 20 = .ok (.goto 9, 3) := by decide +kernel
theorem dX12_mournsOf_23 : decode cX12_mournsOf 23 = .ok (.aload_n 0, 1) := by decide +kernel
theorem dX12_mournsOf_24 : decode cX12_mournsOf 24 = .ok (.getfield 87, 3) := by decide +kernel
theorem dX12_mournsOf_27 : decode cX12_mournsOf 27 = .ok (.iload_n 1, 1) := by decide +kernel
theorem dX12_mournsOf_28 : decode cX12_mournsOf 28 = .ok (.iaload, 1) := by decide +kernel
theorem dX12_mournsOf_29 : decode cX12_mournsOf 29 = .ok (.ireturn, 1) := by decide +kernel
theorem dX12_mournsOf_30 : decode cX12_mournsOf 30 = .ok (.aload_n 0, 1) := by decide +kernel
theorem dX12_mournsOf_31 : decode cX12_mournsOf 31 = .ok (.iload_n 1, 1) := by decide +kernel
theorem dX12_mournsOf_32 : decode cX12_mournsOf 32 = .ok (.invokevirtual 363, 3) := by decide +kernel
theorem dX12_mournsOf_35 : decode cX12_mournsOf 35 = .ok (.iconst 0, 1) := by decide +kernel
theorem dX12_mournsOf_36 : decode cX12_mournsOf 36 = .ok (.bipush 20, 2) := by decide +kernel
theorem dX12_mournsOf_38 : decode cX12_mournsOf 38 = .ok (.aload_n 0, 1) := by decide +kernel
theorem dX12_mournsOf_39 : decode cX12_mournsOf 39 = .ok (.aload_n 0, 1) := by decide +kernel
theorem dX12_mournsOf_40 : decode cX12_mournsOf 40 = .ok (.getfield 72, 3) := by decide +kernel
theorem dX12_mournsOf_43 : decode cX12_mournsOf 43 = .ok (.aload_n 0, 1) := by decide +kernel
theorem dX12_mournsOf_44 : decode cX12_mournsOf 44 = .ok (.getfield 48, 3) := by decide +kernel
theorem dX12_mournsOf_47 : decode cX12_mournsOf 47 = .ok (.iconst 4, 1) := by decide +kernel
theorem dX12_mournsOf_48 : decode cX12_mournsOf 48 = .ok (.iaload, 1) := by decide +kernel
theorem dX12_mournsOf_49 : decode cX12_mournsOf 49 = .ok (.invokevirtual 372, 3) := by decide +kernel
theorem dX12_mournsOf_52 : decode cX12_mournsOf 52 = .ok (.invokestatic 221, 3) := by decide +kernel
theorem dX12_mournsOf_55 : decode cX12_mournsOf 55 = .ok (.invokestatic 366, 3) := by decide +kernel
theorem dX12_mournsOf_58 : decode cX12_mournsOf 58 = .ok (.ireturn, 1) := by decide +kernel
theorem dX12_aDay_0 : decode cX12_aDay 0 = .ok (.iconst 0, 1) := by decide +kernel
theorem dX12_aDay_1 : decode cX12_aDay 1 = .ok (.istore_n 1, 1) := by decide +kernel
theorem dX12_aDay_2 : decode cX12_aDay 2 = .ok (.iload_n 1, 1) := by decide +kernel
theorem dX12_aDay_3 : decode cX12_aDay 3 = .ok (.aload_n 0, 1) := by decide +kernel
theorem dX12_aDay_4 : decode cX12_aDay 4 = .ok (.getfield 48, 3) := by decide +kernel
theorem dX12_aDay_7 : decode cX12_aDay 7 = .ok (.iconst 1, 1) := by decide +kernel
theorem dX12_aDay_8 : decode cX12_aDay 8 = .ok (.iaload, 1) := by decide +kernel
theorem dX12_aDay_9 : decode cX12_aDay 9 = .ok (.if_icmp .ge 37, 3) := by decide +kernel
theorem dX12_aDay_12 : decode cX12_aDay 12 = .ok (.aload_n 0, 1) := by decide +kernel
theorem dX12_aDay_13 : decode cX12_aDay 13 = .ok (.getfield 99, 3) := by decide +kernel
theorem dX12_aDay_16 : decode cX12_aDay 16 = .ok (.iload_n 1, 1) := by decide +kernel
theorem dX12_aDay_17 : decode cX12_aDay 17 = .ok (.iaload, 1) := by decide +kernel
theorem dX12_aDay_18 : decode cX12_aDay 18 = .ok (.iconst 1, 1) := by decide +kernel
theorem dX12_aDay_19 : decode cX12_aDay 19 = .ok (.if_icmp .ne 21, 3) := by decide +kernel
theorem dX12_aDay_22 : decode cX12_aDay 22 = .ok (.aload_n 0, 1) := by decide +kernel
theorem dX12_aDay_23 : decode cX12_aDay 23 = .ok (.getfield 96, 3) := by decide +kernel
theorem dX12_aDay_26 : decode cX12_aDay 26 = .ok (.iload_n 1, 1) := by decide +kernel
theorem dX12_aDay_27 : decode cX12_aDay 27 = .ok (.iaload, 1) := by decide +kernel
theorem dX12_aDay_28 : decode cX12_aDay 28 = .ok (.aload_n 0, 1) := by decide +kernel
theorem dX12_aDay_29 : decode cX12_aDay 29 = .ok (.getfield 342, 3) := by decide +kernel
theorem dX12_aDay_32 : decode cX12_aDay 32 = .ok (.if_icmp .ne 8, 3) := by decide +kernel
theorem dX12_aDay_35 : decode cX12_aDay 35 = .ok (.aload_n 0, 1) := by decide +kernel
theorem dX12_aDay_36 : decode cX12_aDay 36 = .ok (.iload_n 1, 1) := by decide +kernel
theorem dX12_aDay_37 : decode cX12_aDay 37 = .ok (.invokevirtual 385, 3) := by decide +kernel
theorem dX12_aDay_40 : decode cX12_aDay 40 = .ok (.iinc 1 1, 3) := by decide +kernel
theorem dX12_aDay_43 : decode cX12_aDay 43 = .ok (.goto (-41), 3) := by decide +kernel
theorem dX12_aDay_46 : decode cX12_aDay 46 = .ok (.iconst 0, 1) := by decide +kernel
theorem dX12_aDay_47 : decode cX12_aDay 47 = .ok (.istore_n 1, 1) := by decide +kernel
theorem dX12_aDay_48 : decode cX12_aDay 48 = .ok (.iload_n 1, 1) := by decide +kernel
theorem dX12_aDay_49 : decode cX12_aDay 49 = .ok (.aload_n 0, 1) := by decide +kernel
theorem dX12_aDay_50 : decode cX12_aDay 50 = .ok (.getfield 48, 3) := by decide +kernel
theorem dX12_aDay_53 : decode cX12_aDay 53 = .ok (.iconst 0, 1) := by decide +kernel
theorem dX12_aDay_54 : decode cX12_aDay 54 = .ok (.iaload, 1) := by decide +kernel
theorem dX12_aDay_55 : decode cX12_aDay 55 = .ok (.if_icmp .ge 50, 3) := by decide +kernel
theorem dX12_aDay_58 : decode cX12_aDay 58 = .ok (.aload_n 0, 1) := by decide +kernel
theorem dX12_aDay_59 : decode cX12_aDay 59 = .ok (.getfield 85, 3) := by decide +kernel
theorem dX12_aDay_62 : decode cX12_aDay 62 = .ok (.iload_n 1, 1) := by decide +kernel
theorem dX12_aDay_63 : decode cX12_aDay 63 = .ok (.bipush 99, 2) := by decide +kernel
theorem dX12_aDay_65 : decode cX12_aDay 65 = .ok (.aload_n 0, 1) := by decide +kernel
theorem dX12_aDay_66 : decode cX12_aDay 66 = .ok (.getfield 85, 3) := by decide +kernel
theorem dX12_aDay_69 : decode cX12_aDay 69 = .ok (.iload_n 1, 1) := by decide +kernel
theorem dX12_aDay_70 : decode cX12_aDay 70 = .ok (.iaload, 1) := by decide +kernel
theorem dX12_aDay_71 : decode cX12_aDay 71 = .ok (.aload_n 0, 1) := by decide +kernel
theorem dX12_aDay_72 : decode cX12_aDay 72 = .ok (.iload_n 1, 1) := by decide +kernel
theorem dX12_aDay_73 : decode cX12_aDay 73 = .ok (.invokevirtual 388, 3) := by decide +kernel
theorem dX12_aDay_76 : decode cX12_aDay 76 = .ok (.iadd, 1) := by decide +kernel
theorem dX12_aDay_77 : decode cX12_aDay 77 = .ok (.invokestatic 221, 3) := by decide +kernel
theorem dX12_aDay_80 : decode cX12_aDay 80 = .ok (.iastore, 1) := by decide +kernel
theorem dX12_aDay_81 : decode cX12_aDay 81 = .ok (.aload_n 0, 1) := by decide +kernel
theorem dX12_aDay_82 : decode cX12_aDay 82 = .ok (.getfield 90, 3) := by decide +kernel
theorem dX12_aDay_85 : decode cX12_aDay 85 = .ok (.iload_n 1, 1) := by decide +kernel
theorem dX12_aDay_86 : decode cX12_aDay 86 = .ok (.iconst 0, 1) := by decide +kernel
theorem dX12_aDay_87 : decode cX12_aDay 87 = .ok (.aload_n 0, 1) := by decide +kernel
theorem dX12_aDay_88 : decode cX12_aDay 88 = .ok (.getfield 90, 3) := by decide +kernel
theorem dX12_aDay_91 : decode cX12_aDay 91 = .ok (.iload_n 1, 1) := by decide +kernel
theorem dX12_aDay_92 : decode cX12_aDay 92 = .ok (.iaload, 1) := by decide +kernel
theorem dX12_aDay_93 : decode cX12_aDay 93 = .ok (.iconst 1, 1) := by decide +kernel
theorem dX12_aDay_94 : decode cX12_aDay 94 = .ok (.isub, 1) := by decide +kernel
theorem dX12_aDay_95 : decode cX12_aDay 95 = .ok (.invokestatic 366, 3) := by decide +kernel
theorem dX12_aDay_98 : decode cX12_aDay 98 = .ok (.iastore, 1) := by decide +kernel
theorem dX12_aDay_99 : decode cX12_aDay 99 = .ok (.iinc 1 1, 3) := by decide +kernel
theorem dX12_aDay_102 : decode cX12_aDay 102 = .ok (.goto (-54), 3) := by decide +kernel
theorem dX12_aDay_105 : decode cX12_aDay 105 = .ok (.aload_n 0, 1) := by decide +kernel
theorem dX12_aDay_106 : decode cX12_aDay 106 = .ok (.dup, 1) := by decide +kernel
theorem dX12_aDay_107 : decode cX12_aDay 107 = .ok (.getfield 342, 3) := by decide +kernel
theorem dX12_aDay_110 : decode cX12_aDay 110 = .ok (.iconst 1, 1) := by decide +kernel
theorem dX12_aDay_111 : decode cX12_aDay 111 = .ok (.iadd, 1) := by decide +kernel
theorem dX12_aDay_112 : decode cX12_aDay 112 = .ok (.putfield 342, 3) := by decide +kernel
theorem dX12_aDay_115 : decode cX12_aDay 115 = .ok (.return_, 1) := by decide +kernel
theorem dX12_goOn_0 : decode cX12_goOn 0 = .ok (.iconst 0, 1) := by decide +kernel
theorem dX12_goOn_1 : decode cX12_goOn 1 = .ok (.istore_n 2, 1) := by decide +kernel
theorem dX12_goOn_2 : decode cX12_goOn 2 = .ok (.iload_n 2, 1) := by decide +kernel
theorem dX12_goOn_3 : decode cX12_goOn 3 = .ok (.iload_n 1, 1) := by decide +kernel
theorem dX12_goOn_4 : decode cX12_goOn 4 = .ok (.if_icmp .ge 13, 3) := by decide +kernel
theorem dX12_goOn_7 : decode cX12_goOn 7 = .ok (.aload_n 0, 1) := by decide +kernel
theorem dX12_goOn_8 : decode cX12_goOn 8 = .ok (.invokevirtual 391, 3) := by decide +kernel
theorem dX12_goOn_11 : decode cX12_goOn 11 = .ok (.iinc 2 1, 3) := by decide +kernel
theorem dX12_goOn_14 : decode cX12_goOn 14 = .ok (.goto (-12), 3) := by decide +kernel
theorem dX12_goOn_17 : decode cX12_goOn 17 = .ok (.return_, 1) := by decide +kernel
theorem dX12_atHome_0 : decode cX12_atHome 0 = .ok (.iconst 0, 1) := by decide +kernel
theorem dX12_atHome_1 : decode cX12_atHome 1 = .ok (.istore_n 1, 1) := by decide +kernel
theorem dX12_atHome_2 : decode cX12_atHome 2 = .ok (.iconst 0, 1) := by decide +kernel
theorem dX12_atHome_3 : decode cX12_atHome 3 = .ok (.istore_n 2, 1) := by decide +kernel
theorem dX12_atHome_4 : decode cX12_atHome 4 = .ok (.iload_n 2, 1) := by decide +kernel
theorem dX12_atHome_5 : decode cX12_atHome 5 = .ok (.aload_n 0, 1) := by decide +kernel
theorem dX12_atHome_6 : decode cX12_atHome 6 = .ok (.getfield 48, 3) := by decide +kernel
theorem dX12_atHome_9 : decode cX12_atHome 9 = .ok (.iconst 1, 1) := by decide +kernel
theorem dX12_atHome_10 : decode cX12_atHome 10 = .ok (.iaload, 1) := by decide +kernel
theorem dX12_atHome_11 : decode cX12_atHome 11 = .ok (.if_icmp .ge 29, 3) := by decide +kernel
theorem dX12_atHome_14 : decode cX12_atHome 14 = .ok (.iload_n 1, 1) := by decide +kernel
theorem dX12_atHome_15 : decode cX12_atHome 15 = .ok (.aload_n 0, 1) := by decide +kernel
theorem dX12_atHome_16 : decode cX12_atHome 16 = .ok (.getfield 99, 3) := by decide +kernel
theorem dX12_atHome_19 : decode cX12_atHome 19 = .ok (.iload_n 2, 1) := by decide +kernel
theorem dX12_atHome_20 : decode cX12_atHome 20 = .ok (.iaload, 1) := by decide +kernel
theorem dX12_atHome_21 : decode cX12_atHome 21 = .ok (.iconst 1, 1) := by decide +kernel
theorem dX12_atHome_22 : decode cX12_atHome 22 = .ok (.if_icmp .ne 9, 3) := by decide +kernel
theorem dX12_atHome_25 : decode cX12_atHome 25 = .ok (.iconst 1, 1) := by decide +kernel
theorem dX12_atHome_26 : decode cX12_atHome 26 = .ok (.iload_n 2, 1) := by decide +kernel
theorem dX12_atHome_27 : decode cX12_atHome 27 = .ok (.ishl, 1) := by decide +kernel
theorem dX12_atHome_28 : decode cX12_atHome 28 = .ok (.goto 4, 3) := by decide +kernel
theorem dX12_atHome_31 : decode cX12_atHome 31 = .ok (.iconst 0, 1) := by decide +kernel
theorem dX12_atHome_32 : decode cX12_atHome 32 = .ok (.ior, 1) := by decide +kernel
theorem dX12_atHome_33 : decode cX12_atHome 33 = .ok (.istore_n 1, 1) := by decide +kernel
theorem dX12_atHome_34 : decode cX12_atHome 34 = .ok (.iinc 2 1, 3) := by decide +kernel
theorem dX12_atHome_37 : decode cX12_atHome 37 = .ok (.goto (-33), 3) := by decide +kernel
theorem dX12_atHome_40 : decode cX12_atHome 40 = .ok (.iload_n 1, 1) := by decide +kernel
theorem dX12_atHome_41 : decode cX12_atHome 41 = .ok (.ireturn, 1) := by decide +kernel
theorem dX12_allGrief_0 : decode cX12_allGrief 0 = .ok (.iconst 0, 1) := by decide +kernel
theorem dX12_allGrief_1 : decode cX12_allGrief 1 = .ok (.istore_n 1, 1) := by decide +kernel
theorem dX12_allGrief_2 : decode cX12_allGrief 2 = .ok (.iconst 0, 1) := by decide +kernel
theorem dX12_allGrief_3 : decode cX12_allGrief 3 = .ok (.istore_n 2, 1) := by decide +kernel
theorem dX12_allGrief_4 : decode cX12_allGrief 4 = .ok (.iload_n 2, 1) := by decide +kernel
theorem dX12_allGrief_5 : decode cX12_allGrief 5 = .ok (.aload_n 0, 1) := by decide +kernel
theorem dX12_allGrief_6 : decode cX12_allGrief 6 = .ok (.getfield 48, 3) := by decide +kernel
theorem dX12_allGrief_9 : decode cX12_allGrief 9 = .ok (.iconst 0, 1) := by decide +kernel
theorem dX12_allGrief_10 : decode cX12_allGrief 10 = .ok (.iaload, 1) := by decide +kernel
theorem dX12_allGrief_11 : decode cX12_allGrief 11 = .ok (.if_icmp .ge 18, 3) := by decide +kernel
theorem dX12_allGrief_14 : decode cX12_allGrief 14 = .ok (.iload_n 1, 1) := by decide +kernel
theorem dX12_allGrief_15 : decode cX12_allGrief 15 = .ok (.aload_n 0, 1) := by decide +kernel
theorem dX12_allGrief_16 : decode cX12_allGrief 16 = .ok (.getfield 85, 3) := by decide +kernel
theorem dX12_allGrief_19 : decode cX12_allGrief 19 = .ok (.iload_n 2, 1) := by decide +kernel
theorem dX12_allGrief_20 : decode cX12_allGrief 20 = .ok (.iaload, 1) := by decide +kernel
theorem dX12_allGrief_21 : decode cX12_allGrief 21 = .ok (.iadd, 1) := by decide +kernel
theorem dX12_allGrief_22 : decode cX12_allGrief 22 = .ok (.istore_n 1, 1) := by decide +kernel
theorem dX12_allGrief_23 : decode cX12_allGrief 23 = .ok (.iinc 2 1, 3) := by decide +kernel
theorem dX12_allGrief_26 : decode cX12_allGrief 26 = .ok (.goto (-22), 3) := by decide +kernel
theorem dX12_allGrief_29 : decode cX12_allGrief 29 = .ok (.iload_n 1, 1) := by decide +kernel
theorem dX12_allGrief_30 : decode cX12_allGrief 30 = .ok (.ireturn, 1) := by decide +kernel
theorem dX12_tieMany_0 : decode cX12_tieMany 0 = .ok (.iconst 0, 1) := by decide +kernel
theorem dX12_tieMany_1 : decode cX12_tieMany 1 = .ok (.istore_n 1, 1) := by decide +kernel
theorem dX12_tieMany_2 : decode cX12_tieMany 2 = .ok (.iconst 0, 1) := by decide +kernel
theorem dX12_tieMany_3 : decode cX12_tieMany 3 = .ok (.istore_n 2, 1) := by decide +kernel
theorem dX12_tieMany_4 : decode cX12_tieMany 4 = .ok (.iload_n 2, 1) := by decide +kernel
theorem dX12_tieMany_5 : decode cX12_tieMany 5 = .ok (.aload_n 0, 1) := by decide +kernel
theorem dX12_tieMany_6 : decode cX12_tieMany 6 = .ok (.getfield 48, 3) := by decide +kernel
theorem dX12_tieMany_9 : decode cX12_tieMany 9 = .ok (.iconst 0, 1) := by decide +kernel
theorem dX12_tieMany_10 : decode cX12_tieMany 10 = .ok (.iaload, 1) := by decide +kernel
theorem dX12_tieMany_11 : decode cX12_tieMany 11 = .ok (.if_icmp .ge 20, 3) := by decide +kernel
theorem dX12_tieMany_14 : decode cX12_tieMany 14 = .ok (.iload_n 1, 1) := by decide +kernel
theorem dX12_tieMany_15 : decode cX12_tieMany 15 = .ok (.aload_n 0, 1) := by decide +kernel
theorem dX12_tieMany_16 : decode cX12_tieMany 16 = .ok (.iload_n 2, 1) := by decide +kernel
theorem dX12_tieMany_17 : decode cX12_tieMany 17 = .ok (.invokevirtual 394, 3) := by decide +kernel
theorem dX12_tieMany_20 : decode cX12_tieMany 20 = .ok (.invokestatic 360, 3) := by decide +kernel
theorem dX12_tieMany_23 : decode cX12_tieMany 23 = .ok (.iadd, 1) := by decide +kernel
theorem dX12_tieMany_24 : decode cX12_tieMany 24 = .ok (.istore_n 1, 1) := by decide +kernel
theorem dX12_tieMany_25 : decode cX12_tieMany 25 = .ok (.iinc 2 1, 3) := by decide +kernel
theorem dX12_tieMany_28 : decode cX12_tieMany 28 = .ok (.goto (-24), 3) := by decide +kernel
theorem dX12_tieMany_31 : decode cX12_tieMany 31 = .ok (.iload_n 1, 1) := by decide +kernel
theorem dX12_tieMany_32 : decode cX12_tieMany 32 = .ok (.ireturn, 1) := by decide +kernel
theorem dX12_count_0 : decode cX12_count 0 = .ok (.aload_n 0, 1) := by decide +kernel
theorem dX12_count_1 : decode cX12_count 1 = .ok (.iconst 0, 1) := by decide +kernel
theorem dX12_count_2 : decode cX12_count 2 = .ok (.putfield 184, 3) := by decide +kernel
theorem dX12_count_5 : decode cX12_count 5 = .ok (.iload_n 1, 1) := by decide +kernel
theorem dX12_count_6 : decode cX12_count 6 = .ok (.tableswitch 123 0 12 #[66, 66, 73, 78, 83, 88, 93, 98, 103, 108, 113, 113, 113], 66) := by decide +kernel
theorem dX12_count_72 : decode cX12_count 72 = .ok (.aload_n 0, 1) := by decide +kernel
theorem dX12_count_73 : decode cX12_count 73 = .ok (.getfield 48, 3) := by decide +kernel
theorem dX12_count_76 : decode cX12_count 76 = .ok (.iload_n 1, 1) := by decide +kernel
theorem dX12_count_77 : decode cX12_count 77 = .ok (.iaload, 1) := by decide +kernel
theorem dX12_count_78 : decode cX12_count 78 = .ok (.ireturn, 1) := by decide +kernel
theorem dX12_count_79 : decode cX12_count 79 = .ok (.aload_n 0, 1) := by decide +kernel
theorem dX12_count_80 : decode cX12_count 80 = .ok (.invokevirtual 397, 3) := by decide +kernel
theorem dX12_count_83 : decode cX12_count 83 = .ok (.ireturn, 1) := by decide +kernel
theorem dX12_count_84 : decode cX12_count 84 = .ok (.aload_n 0, 1) := by decide +kernel
theorem dX12_count_85 : decode cX12_count 85 = .ok (.getfield 342, 3) := by decide +kernel
theorem dX12_count_88 : decode cX12_count 88 = .ok (.ireturn, 1) := by decide +kernel
theorem dX12_count_89 : decode cX12_count 89 = .ok (.aload_n 0, 1) := by decide +kernel
theorem dX12_count_90 : decode cX12_count 90 = .ok (.invokevirtual 400, 3) := by decide +kernel
theorem dX12_count_93 : decode cX12_count 93 = .ok (.ireturn, 1) := by decide +kernel
theorem dX12_count_94 : decode cX12_count 94 = .ok (.aload_n 0, 1) := by decide +kernel
theorem dX12_count_95 : decode cX12_count 95 = .ok (.getfield 344, 3) := by decide +kernel
theorem dX12_count_98 : decode cX12_count 98 = .ok (.ireturn, 1) := by decide +kernel
theorem dX12_count_99 : decode cX12_count 99 = .ok (.aload_n 0, 1) := by decide +kernel
theorem dX12_count_100 : decode cX12_count 100 = .ok (.invokevirtual 403, 3) := by decide +kernel
theorem dX12_count_103 : decode cX12_count 103 = .ok (.ireturn, 1) := by decide +kernel
theorem dX12_count_104 : decode cX12_count 104 = .ok (.aload_n 0, 1) := by decide +kernel
theorem dX12_count_105 : decode cX12_count 105 = .ok (.getfield 347, 3) := by decide +kernel
theorem dX12_count_108 : decode cX12_count 108 = .ok (.ireturn, 1) := by decide +kernel
theorem dX12_count_109 : decode cX12_count 109 = .ok (.aload_n 0, 1) := by decide +kernel
theorem dX12_count_110 : decode cX12_count 110 = .ok (.getfield 350, 3) := by decide +kernel
theorem dX12_count_113 : decode cX12_count 113 = .ok (.ireturn, 1) := by decide +kernel
theorem dX12_count_114 : decode cX12_count 114 = .ok (.aload_n 0, 1) := by decide +kernel
theorem dX12_count_115 : decode cX12_count 115 = .ok (.getfield 191, 3) := by decide +kernel
theorem dX12_count_118 : decode cX12_count 118 = .ok (.ireturn, 1) := by decide +kernel
theorem dX12_count_119 : decode cX12_count 119 = .ok (.aload_n 0, 1) := by decide +kernel
theorem dX12_count_120 : decode cX12_count 120 = .ok (.getfield 75, 3) := by decide +kernel
theorem dX12_count_123 : decode cX12_count 123 = .ok (.iload_n 1, 1) := by decide +kernel
theorem dX12_count_124 : decode cX12_count 124 = .ok (.bipush 10, 2) := by decide +kernel
theorem dX12_count_126 : decode cX12_count 126 = .ok (.isub, 1) := by decide +kernel
theorem dX12_count_127 : decode cX12_count 127 = .ok (.iaload, 1) := by decide +kernel
theorem dX12_count_128 : decode cX12_count 128 = .ok (.ireturn, 1) := by decide +kernel
theorem dX12_count_129 : decode cX12_count 129 = .ok (.aload_n 0, 1) := by decide +kernel
theorem dX12_count_130 : decode cX12_count 130 = .ok (.iconst 1, 1) := by decide +kernel
theorem dX12_count_131 : decode cX12_count 131 = .ok (.invokevirtual 329, 3) := by decide +kernel
theorem dX12_count_134 : decode cX12_count 134 = .ok (.ireturn, 1) := by decide +kernel
theorem dX12_person_0 : decode cX12_person 0 = .ok (.aload_n 0, 1) := by decide +kernel
theorem dX12_person_1 : decode cX12_person 1 = .ok (.iconst 0, 1) := by decide +kernel
theorem dX12_person_2 : decode cX12_person 2 = .ok (.putfield 184, 3) := by decide +kernel
theorem dX12_person_5 : decode cX12_person 5 = .ok (.aload_n 0, 1) := by decide +kernel
theorem dX12_person_6 : decode cX12_person 6 = .ok (.iload_n 1, 1) := by decide +kernel
theorem dX12_person_7 : decode cX12_person 7 = .ok (.invokevirtual 406, 3) := by decide +kernel
theorem dX12_person_10 : decode cX12_person 10 = .ok (.ifCond .ne 9, 3) := by decide +kernel
theorem dX12_person_13 : decode cX12_person 13 = .ok (.aload_n 0, 1) := by decide +kernel
theorem dX12_person_14 : decode cX12_person 14 = .ok (.iconst 1, 1) := by decide +kernel
theorem dX12_person_15 : decode cX12_person 15 = .ok (.invokevirtual 329, 3) := by decide +kernel
theorem dX12_person_18 : decode cX12_person 18 = .ok (.ireturn, 1) := by decide +kernel
theorem dX12_person_19 : decode cX12_person 19 = .ok (.iload_n 2, 1) := by decide +kernel
theorem dX12_person_20 : decode cX12_person 20 = .ok (.tableswitch 81 0 5 #[40, 47, 54, 61, 68, 75], 40) := by decide +kernel
theorem dX12_person_60 : decode cX12_person 60 = .ok (.aload_n 0, 1) := by decide +kernel
theorem dX12_person_61 : decode cX12_person 61 = .ok (.getfield 52, 3) := by decide +kernel
theorem dX12_person_64 : decode cX12_person 64 = .ok (.iload_n 1, 1) := by decide +kernel
theorem dX12_person_65 : decode cX12_person 65 = .ok (.iaload, 1) := by decide +kernel
theorem dX12_person_66 : decode cX12_person 66 = .ok (.ireturn, 1) := by decide +kernel
theorem dX12_person_67 : decode cX12_person 67 = .ok (.aload_n 0, 1) := by decide +kernel
theorem dX12_person_68 : decode cX12_person 68 = .ok (.getfield 85, 3) := by decide +kernel
theorem dX12_person_71 : decode cX12_person 71 = .ok (.iload_n 1, 1) := by decide +kernel
theorem dX12_person_72 : decode cX12_person 72 = .ok (.iaload, 1) := by decide +kernel
theorem dX12_person_73 : decode cX12_person 73 = .ok (.ireturn, 1) := by decide +kernel
theorem dX12_person_74 : decode cX12_person 74 = .ok (.aload_n 0, 1) := by decide +kernel
theorem dX12_person_75 : decode cX12_person 75 = .ok (.getfield 87, 3) := by decide +kernel
theorem dX12_person_78 : decode cX12_person 78 = .ok (.iload_n 1, 1) := by decide +kernel
theorem dX12_person_79 : decode cX12_person 79 = .ok (.iaload, 1) := by decide +kernel
theorem dX12_person_80 : decode cX12_person 80 = .ok (.ireturn, 1) := by decide +kernel
theorem dX12_person_81 : decode cX12_person 81 = .ok (.aload_n 0, 1) := by decide +kernel
theorem dX12_person_82 : decode cX12_person 82 = .ok (.getfield 90, 3) := by decide +kernel
theorem dX12_person_85 : decode cX12_person 85 = .ok (.iload_n 1, 1) := by decide +kernel
theorem dX12_person_86 : decode cX12_person 86 = .ok (.iaload, 1) := by decide +kernel
theorem dX12_person_87 : decode cX12_person 87 = .ok (.ireturn, 1) := by decide +kernel
theorem dX12_person_88 : decode cX12_person 88 = .ok (.aload_n 0, 1) := by decide +kernel
theorem dX12_person_89 : decode cX12_person 89 = .ok (.getfield 93, 3) := by decide +kernel
theorem dX12_person_92 : decode cX12_person 92 = .ok (.iload_n 1, 1) := by decide +kernel
theorem dX12_person_93 : decode cX12_person 93 = .ok (.iaload, 1) := by decide +kernel
theorem dX12_person_94 : decode cX12_person 94 = .ok (.ireturn, 1) := by decide +kernel
theorem dX12_person_95 : decode cX12_person 95 = .ok (.aload_n 0, 1) := by decide +kernel
theorem dX12_person_96 : decode cX12_person 96 = .ok (.iload_n 1, 1) := by decide +kernel
theorem dX12_person_97 : decode cX12_person 97 = .ok (.invokevirtual 394, 3) := by decide +kernel
theorem dX12_person_100 : decode cX12_person 100 = .ok (.ireturn, 1) := by decide +kernel
theorem dX12_person_101 : decode cX12_person 101 = .ok (.aload_n 0, 1) := by decide +kernel
theorem dX12_person_102 : decode cX12_person 102 = .ok (.iconst 1, 1) := by decide +kernel
theorem dX12_person_103 : decode cX12_person 103 = .ok (.invokevirtual 329, 3) := by decide +kernel
theorem dX12_person_106 : decode cX12_person 106 = .ok (.ireturn, 1) := by decide +kernel
theorem dX12_bride_0 : decode cX12_bride 0 = .ok (.aload_n 0, 1) := by decide +kernel
theorem dX12_bride_1 : decode cX12_bride 1 = .ok (.iconst 0, 1) := by decide +kernel
theorem dX12_bride_2 : decode cX12_bride 2 = .ok (.putfield 184, 3) := by decide +kernel
theorem dX12_bride_5 : decode cX12_bride 5 = .ok (.aload_n 0, 1) := by decide +kernel
theorem dX12_bride_6 : decode cX12_bride 6 = .ok (.iload_n 1, 1) := by decide +kernel
theorem dX12_bride_7 : decode cX12_bride 7 = .ok (.invokevirtual 409, 3) := by decide +kernel
theorem dX12_bride_10 : decode cX12_bride 10 = .ok (.ifCond .ne 9, 3) := by decide +kernel
theorem dX12_bride_13 : decode cX12_bride 13 = .ok (.aload_n 0, 1) := by decide +kernel
theorem dX12_bride_14 : decode cX12_bride 14 = .ok (.iconst 1, 1) := by decide +kernel
theorem dX12_bride_15 : decode cX12_bride 15 = .ok (.invokevirtual 329, 3) := by decide +kernel
theorem dX12_bride_18 : decode cX12_bride 18 = .ok (.ireturn, 1) := by decide +kernel
theorem dX12_bride_19 : decode cX12_bride 19 = .ok (.iload_n 2, 1) := by decide +kernel
theorem dX12_bride_20 : decode cX12_bride 20 = .ok (.tableswitch 88 0 5 #[40, 47, 54, 61, 67, 73], 40) := by decide +kernel
theorem dX12_bride_60 : decode cX12_bride 60 = .ok (.aload_n 0, 1) := by decide +kernel
theorem dX12_bride_61 : decode cX12_bride 61 = .ok (.getfield 96, 3) := by decide +kernel
theorem dX12_bride_64 : decode cX12_bride 64 = .ok (.iload_n 1, 1) := by decide +kernel
theorem dX12_bride_65 : decode cX12_bride 65 = .ok (.iaload, 1) := by decide +kernel
theorem dX12_bride_66 : decode cX12_bride 66 = .ok (.ireturn, 1) := by decide +kernel
theorem dX12_bride_67 : decode cX12_bride 67 = .ok (.aload_n 0, 1) := by decide +kernel
theorem dX12_bride_68 : decode cX12_bride 68 = .ok (.getfield 99, 3) := by decide +kernel
theorem dX12_bride_71 : decode cX12_bride 71 = .ok (.iload_n 1, 1) := by decide +kernel
theorem dX12_bride_72 : decode cX12_bride 72 = .ok (.iaload, 1) := by decide +kernel
theorem dX12_bride_73 : decode cX12_bride 73 = .ok (.ireturn, 1) := by decide +kernel
theorem dX12_bride_74 : decode cX12_bride 74 = .ok (.aload_n 0, 1) := by decide +kernel
theorem dX12_bride_75 : decode cX12_bride 75 = .ok (.getfield 102, 3) := by decide +kernel
theorem dX12_bride_78 : decode cX12_bride 78 = .ok (.iload_n 1, 1) := by decide +kernel
theorem dX12_bride_79 : decode cX12_bride 79 = .ok (.iaload, 1) := by decide +kernel
theorem dX12_bride_80 : decode cX12_bride 80 = .ok (.ireturn, 1) := by decide +kernel
theorem dX12_bride_81 : decode cX12_bride 81 = .ok (.aload_n 0, 1) := by decide +kernel
theorem dX12_bride_82 : decode cX12_bride 82 = .ok (.iload_n 1, 1) := by decide +kernel
theorem dX12_bride_83 : decode cX12_bride 83 = .ok (.invokevirtual 369, 3) := by decide +kernel
theorem dX12_bride_86 : decode cX12_bride 86 = .ok (.ireturn, 1) := by decide +kernel
theorem dX12_bride_87 : decode cX12_bride 87 = .ok (.aload_n 0, 1) := by decide +kernel
theorem dX12_bride_88 : decode cX12_bride 88 = .ok (.iload_n 1, 1) := by decide +kernel
theorem dX12_bride_89 : decode cX12_bride 89 = .ok (.invokevirtual 379, 3) := by decide +kernel
theorem dX12_bride_92 : decode cX12_bride 92 = .ok (.ireturn, 1) := by decide +kernel
theorem dX12_bride_93 : decode cX12_bride 93 = .ok (.iconst 0, 1) := by decide +kernel
theorem dX12_bride_94 : decode cX12_bride 94 = .ok (.aload_n 0, 1) := by decide +kernel
theorem dX12_bride_95 : decode cX12_bride 95 = .ok (.iload_n 1, 1) := by decide +kernel
theorem dX12_bride_96 : decode cX12_bride 96 = .ok (.invokevirtual 369, 3) := by decide +kernel
theorem dX12_bride_99 : decode cX12_bride 99 = .ok (.invokestatic 360, 3) := by decide +kernel
theorem dX12_bride_102 : decode cX12_bride 102 = .ok (.iconst 1, 1) := by decide +kernel
theorem dX12_bride_103 : decode cX12_bride 103 = .ok (.isub, 1) := by decide +kernel
theorem dX12_bride_104 : decode cX12_bride 104 = .ok (.invokestatic 366, 3) := by decide +kernel
theorem dX12_bride_107 : decode cX12_bride 107 = .ok (.ireturn, 1) := by decide +kernel
theorem dX12_bride_108 : decode cX12_bride 108 = .ok (.aload_n 0, 1) := by decide +kernel
theorem dX12_bride_109 : decode cX12_bride 109 = .ok (.iconst 1, 1) := by decide +kernel
theorem dX12_bride_110 : decode cX12_bride 110 = .ok (.invokevirtual 329, 3) := by decide +kernel
theorem dX12_bride_113 : decode cX12_bride 113 = .ok (.ireturn, 1) := by decide +kernel
theorem dX12_years_0 : decode cX12_years 0 = .ok (.aload_n 0, 1) := by decide +kernel
theorem dX12_years_1 : decode cX12_years 1 = .ok (.iconst 0, 1) := by decide +kernel
theorem dX12_years_2 : decode cX12_years 2 = .ok (.putfield 184, 3) := by decide +kernel
theorem dX12_years_5 : decode cX12_years 5 = .ok (.aload_n 0, 1) := by decide +kernel
theorem dX12_years_6 : decode cX12_years 6 = .ok (.iload_n 1, 1) := by decide +kernel
theorem dX12_years_7 : decode cX12_years 7 = .ok (.invokevirtual 406, 3) := by decide +kernel
theorem dX12_years_10 : decode cX12_years 10 = .ok (.ifCond .eq 25, 3) := by decide +kernel
theorem dX12_years_13 : decode cX12_years 13 = .ok (.aload_n 0, 1) := by decide +kernel
theorem dX12_years_14 : decode cX12_years 14 = .ok (.iload_n 2, 1) := by decide +kernel
theorem dX12_years_15 : decode cX12_years 15 = .ok (.invokevirtual 409, 3) := by decide +kernel
theorem dX12_years_18 : decode cX12_years 18 = .ok (.ifCond .eq 17, 3) := by decide +kernel
theorem dX12_years_21 : decode cX12_years 21 = .ok (.aload_n 0, 1) := by decide +kernel
theorem dX12_years_22 : decode cX12_years 22 = .ok (.getfield 105, 3) := by decide +kernel
theorem dX12_years_25 : decode cX12_years 25 = .ok (.bipush 6, 2) := by decide +kernel
theorem dX12_years_27 : decode cX12_years 27 = .ok (.iload_n 1, 1) := by decide +kernel
theorem dX12_years_28 : decode cX12_years 28 = .ok (.imul, 1) := by decide +kernel
theorem dX12_years_29 : decode cX12_years 29 = .ok (.iload_n 2, 1) := by decide +kernel
theorem dX12_years_30 : decode cX12_years 30 = .ok (.iadd, 1) := by decide +kernel
theorem dX12_years_31 : decode cX12_years 31 = .ok (.iaload, 1) := by decide +kernel
theorem dX12_years_32 : decode cX12_years 32 = .ok (.goto 8, 3) := by decide +kernel
theorem dX12_years_35 : decode cX12_years 35 = .ok (.aload_n 0, 1) := by decide +kernel
theorem dX12_years_36 : decode cX12_years 36 = .ok (.iconst 1, 1) := by decide +kernel
theorem dX12_years_37 : decode cX12_years 37 = .ok (.invokevirtual 329, 3) := by decide +kernel
theorem dX12_years_40 : decode cX12_years 40 = .ok (.ireturn, 1) := by decide +kernel
theorem dX12_weight_0 : decode cX12_weight 0 = .ok (.aload_n 0, 1) := by decide +kernel
theorem dX12_weight_1 : decode cX12_weight 1 = .ok (.iconst 0, 1) := by decide +kernel
theorem dX12_weight_2 : decode cX12_weight 2 = .ok (.putfield 184, 3) := by decide +kernel
theorem dX12_weight_5 : decode cX12_weight 5 = .ok (.aload_n 0, 1) := by decide +kernel
theorem dX12_weight_6 : decode cX12_weight 6 = .ok (.iload_n 1, 1) := by decide +kernel
theorem dX12_weight_7 : decode cX12_weight 7 = .ok (.invokevirtual 406, 3) := by decide +kernel
theorem dX12_weight_10 : decode cX12_weight 10 = .ok (.ifCond .eq 20, 3) := by decide +kernel
theorem dX12_weight_13 : decode cX12_weight 13 = .ok (.aload_n 0, 1) := by decide +kernel
theorem dX12_weight_14 : decode cX12_weight 14 = .ok (.iload_n 2, 1) := by decide +kernel
theorem dX12_weight_15 : decode cX12_weight 15 = .ok (.invokevirtual 409, 3) := by decide +kernel
theorem dX12_weight_18 : decode cX12_weight 18 = .ok (.ifCond .eq 12, 3) := by decide +kernel
theorem dX12_weight_21 : decode cX12_weight 21 = .ok (.aload_n 0, 1) := by decide +kernel
theorem dX12_weight_22 : decode cX12_weight 22 = .ok (.iload_n 1, 1) := by decide +kernel
theorem dX12_weight_23 : decode cX12_weight 23 = .ok (.iload_n 2, 1) := by decide +kernel
theorem dX12_weight_24 : decode cX12_weight 24 = .ok (.invokevirtual 376, 3) := by decide +kernel
theorem dX12_weight_27 : decode cX12_weight 27 = .ok (.goto 8, 3) := by decide +kernel
theorem dX12_weight_30 : decode cX12_weight 30 = .ok (.aload_n 0, 1) := by decide +kernel
theorem dX12_weight_31 : decode cX12_weight 31 = .ok (.iconst 1, 1) := by decide +kernel
theorem dX12_weight_32 : decode cX12_weight 32 = .ok (.invokevirtual 329, 3) := by decide +kernel
theorem dX12_weight_35 : decode cX12_weight 35 = .ok (.ireturn, 1) := by decide +kernel
theorem dX12_refuse_0 : decode cX12_refuse 0 = .ok (.aload_n 0, 1) := by decide +kernel
theorem dX12_refuse_1 : decode cX12_refuse 1 = .ok (.getfield 75, 3) := by decide +kernel
theorem dX12_refuse_4 : decode cX12_refuse 4 = .ok (.iload_n 1, 1) := by decide +kernel
theorem dX12_refuse_5 : decode cX12_refuse 5 = .ok (.dup2, 1) := by decide +kernel
theorem dX12_refuse_6 : decode cX12_refuse 6 = .ok (.iaload, 1) := by decide +kernel
theorem dX12_refuse_7 : decode cX12_refuse 7 = .ok (.iconst 1, 1) := by decide +kernel
theorem dX12_refuse_8 : decode cX12_refuse 8 = .ok (.iadd, 1) := by decide +kernel
theorem dX12_refuse_9 : decode cX12_refuse 9 = .ok (.iastore, 1) := by decide +kernel
theorem dX12_refuse_10 : decode cX12_refuse 10 = .ok (.iconst (-1), 1) := by decide +kernel
theorem dX12_refuse_11 : decode cX12_refuse 11 = .ok (.ireturn, 1) := by decide +kernel
theorem dX12_keep_0 : decode cX12_keep 0 = .ok (.aload_n 0, 1) := by decide +kernel
theorem dX12_keep_1 : decode cX12_keep 1 = .ok (.getfield 347, 3) := by decide +kernel
theorem dX12_keep_4 : decode cX12_keep 4 = .ok (.bipush 40, 2) := by decide +kernel
theorem dX12_keep_6 : decode cX12_keep 6 = .ok (.if_icmp .ne 46, 3) := by decide +kernel
theorem dX12_keep_9 : decode cX12_keep 9 = .ok (.bipush 110, 2) := by decide +kernel
theorem dX12_keep_11 : decode cX12_keep 11 = .ok (.istore_n 1, 1) := by decide +kernel
theorem dX12_keep_12 : decode cX12_keep 12 = .ok (.iload_n 1, 1) := by decide +kernel
theorem dX12_keep_13 : decode cX12_keep 13 = .ok (.aload_n 0, 1) := by decide +kernel
theorem dX12_keep_14 : decode cX12_keep 14 = .ok (.getfield 108, 3) := by decide +kernel
theorem dX12_keep_17 : decode cX12_keep 17 = .ok (.arraylength, 1) := by decide +kernel
theorem dX12_keep_18 : decode cX12_keep 18 = .ok (.if_icmp .ge 24, 3) := by decide +kernel
theorem dX12_keep_21 : decode cX12_keep 21 = .ok (.aload_n 0, 1) := by decide +kernel
theorem dX12_keep_22 : decode cX12_keep 22 = .ok (.getfield 108, 3) := by decide +kernel
theorem dX12_keep_25 : decode cX12_keep 25 = .ok (.iload_n 1, 1) := by decide +kernel
theorem dX12_keep_26 : decode cX12_keep 26 = .ok (.bipush 110, 2) := by decide +kernel
theorem dX12_keep_28 : decode cX12_keep 28 = .ok (.isub, 1) := by decide +kernel
theorem dX12_keep_29 : decode cX12_keep 29 = .ok (.aload_n 0, 1) := by decide +kernel
theorem dX12_keep_30 : decode cX12_keep 30 = .ok (.getfield 108, 3) := by decide +kernel
theorem dX12_keep_33 : decode cX12_keep 33 = .ok (.iload_n 1, 1) := by decide +kernel
theorem dX12_keep_34 : decode cX12_keep 34 = .ok (.iaload, 1) := by decide +kernel
theorem dX12_keep_35 : decode cX12_keep 35 = .ok (.iastore, 1) := by decide +kernel
theorem dX12_keep_36 : decode cX12_keep 36 = .ok (.iinc 1 1, 3) := by decide +kernel
theorem dX12_keep_39 : decode cX12_keep 39 = .ok (.goto (-27), 3) := by decide +kernel
theorem dX12_keep_42 : decode cX12_keep 42 = .ok (.aload_n 0, 1) := by decide +kernel
theorem dX12_keep_43 : decode cX12_keep 43 = .ok (.dup, 1) := by decide +kernel
theorem dX12_keep_44 : decode cX12_keep 44 = .ok (.getfield 347, 3) := by decide +kernel
theorem dX12_keep_47 : decode cX12_keep 47 = .ok (.iconst 1, 1) := by decide +kernel
theorem dX12_keep_48 : decode cX12_keep 48 = .ok (.isub, 1) := by decide +kernel
theorem dX12_keep_49 : decode cX12_keep 49 = .ok (.putfield 347, 3) := by decide +kernel
theorem dX12_keep_52 : decode cX12_keep 52 = .ok (.aload_n 0, 1) := by decide +kernel
theorem dX12_keep_53 : decode cX12_keep 53 = .ok (.aload_n 0, 1) := by decide +kernel
theorem dX12_keep_54 : decode cX12_keep 54 = .ok (.getfield 108, 3) := by decide +kernel
theorem dX12_keep_57 : decode cX12_keep 57 = .ok (.bipush 110, 2) := by decide +kernel
theorem dX12_keep_59 : decode cX12_keep 59 = .ok (.aload_n 0, 1) := by decide +kernel
theorem dX12_keep_60 : decode cX12_keep 60 = .ok (.getfield 347, 3) := by decide +kernel
theorem dX12_keep_63 : decode cX12_keep 63 = .ok (.imul, 1) := by decide +kernel
theorem dX12_keep_64 : decode cX12_keep 64 = .ok (.invokevirtual 412, 3) := by decide +kernel
theorem dX12_keep_67 : decode cX12_keep 67 = .ok (.aload_n 0, 1) := by decide +kernel
theorem dX12_keep_68 : decode cX12_keep 68 = .ok (.dup, 1) := by decide +kernel
theorem dX12_keep_69 : decode cX12_keep 69 = .ok (.getfield 347, 3) := by decide +kernel
theorem dX12_keep_72 : decode cX12_keep 72 = .ok (.iconst 1, 1) := by decide +kernel
theorem dX12_keep_73 : decode cX12_keep 73 = .ok (.iadd, 1) := by decide +kernel
theorem dX12_keep_74 : decode cX12_keep 74 = .ok (.putfield 347, 3) := by decide +kernel
theorem dX12_keep_77 : decode cX12_keep 77 = .ok (.return_, 1) := by decide +kernel
theorem dX12_days_0 : decode cX12_days 0 = .ok (.aload_n 0, 1) := by decide +kernel
theorem dX12_days_1 : decode cX12_days 1 = .ok (.iconst 0, 1) := by decide +kernel
theorem dX12_days_2 : decode cX12_days 2 = .ok (.putfield 184, 3) := by decide +kernel
theorem dX12_days_5 : decode cX12_days 5 = .ok (.iload_n 1, 1) := by decide +kernel
theorem dX12_days_6 : decode cX12_days 6 = .ok (.i2l, 1) := by decide +kernel
theorem dX12_days_7 : decode cX12_days 7 = .ok (.lconst 1, 1) := by decide +kernel
theorem dX12_days_8 : decode cX12_days 8 = .ok (.ldc2_w 416, 3) := by decide +kernel
theorem dX12_days_11 : decode cX12_days 11 = .ok (.invokestatic 187, 3) := by decide +kernel
theorem dX12_days_14 : decode cX12_days 14 = .ok (.ifCond .eq 15, 3) := by decide +kernel
theorem dX12_days_17 : decode cX12_days 17 = .ok (.aload_n 0, 1) := by decide +kernel
theorem dX12_days_18 : decode cX12_days 18 = .ok (.getfield 342, 3) := by decide +kernel
theorem dX12_days_21 : decode cX12_days 21 = .ok (.iload_n 1, 1) := by decide +kernel
theorem dX12_days_22 : decode cX12_days 22 = .ok (.iadd, 1) := by decide +kernel
theorem dX12_days_23 : decode cX12_days 23 = .ok (.sipush 999, 3) := by decide +kernel
theorem dX12_days_26 : decode cX12_days 26 = .ok (.if_icmp .le 9, 3) := by decide +kernel
theorem dX12_days_29 : decode cX12_days 29 = .ok (.aload_n 0, 1) := by decide +kernel
theorem dX12_days_30 : decode cX12_days 30 = .ok (.iconst 1, 1) := by decide +kernel
theorem dX12_days_31 : decode cX12_days 31 = .ok (.invokevirtual 418, 3) := by decide +kernel
theorem dX12_days_34 : decode cX12_days 34 = .ok (.ireturn, 1) := by decide +kernel
theorem dX12_days_35 : decode cX12_days 35 = .ok (.aload_n 0, 1) := by decide +kernel
theorem dX12_days_36 : decode cX12_days 36 = .ok (.invokevirtual 421, 3) := by decide +kernel
theorem dX12_days_39 : decode cX12_days 39 = .ok (.aload_n 0, 1) := by decide +kernel
theorem dX12_days_40 : decode cX12_days 40 = .ok (.iload_n 1, 1) := by decide +kernel
theorem dX12_days_41 : decode cX12_days 41 = .ok (.invokevirtual 424, 3) := by decide +kernel
theorem dX12_days_44 : decode cX12_days 44 = .ok (.aload_n 0, 1) := by decide +kernel
theorem dX12_days_45 : decode cX12_days 45 = .ok (.getfield 342, 3) := by decide +kernel
theorem dX12_days_48 : decode cX12_days 48 = .ok (.ireturn, 1) := by decide +kernel
theorem dX12_train_0 : decode cX12_train 0 = .ok (.aload_n 0, 1) := by decide +kernel
theorem dX12_train_1 : decode cX12_train 1 = .ok (.iconst 0, 1) := by decide +kernel
theorem dX12_train_2 : decode cX12_train 2 = .ok (.putfield 184, 3) := by decide +kernel
theorem dX12_train_5 : decode cX12_train 5 = .ok (.aload_n 0, 1) := by decide +kernel
theorem dX12_train_6 : decode cX12_train 6 = .ok (.iload_n 1, 1) := by decide +kernel
theorem dX12_train_7 : decode cX12_train 7 = .ok (.invokevirtual 406, 3) := by decide +kernel
theorem dX12_train_10 : decode cX12_train 10 = .ok (.ifCond .ne 9, 3) := by decide +kernel
theorem dX12_train_13 : decode cX12_train 13 = .ok (.aload_n 0, 1) := by decide +kernel
theorem dX12_train_14 : decode cX12_train 14 = .ok (.iconst 1, 1) := by decide +kernel
theorem dX12_train_15 : decode cX12_train 15 = .ok (.invokevirtual 329, 3) := by decide +kernel
theorem dX12_train_18 : decode cX12_train 18 = .ok (.ireturn, 1) := by decide +kernel
theorem dX12_train_19 : decode cX12_train 19 = .ok (.iload_n 2, 1) := by decide +kernel
theorem dX12_train_20 : decode cX12_train 20 = .ok (.i2l, 1) := by decide +kernel
theorem dX12_train_21 : decode cX12_train 21 = .ok (.lconst 0, 1) := by decide +kernel
theorem dX12_train_22 : decode cX12_train 22 = .ok (.ldc2_w 427, 3) := by decide +kernel
theorem dX12_train_25 : decode cX12_train 25 = .ok (.invokestatic 187, 3) := by decide +kernel
theorem dX12_train_28 : decode cX12_train 28 = .ok (.ifCond .ne 9, 3) := by decide +kernel
theorem dX12_train_31 : decode cX12_train 31 = .ok (.aload_n 0, 1) := by decide +kernel
theorem dX12_train_32 : decode cX12_train 32 = .ok (.iconst 1, 1) := by decide +kernel
theorem dX12_train_33 : decode cX12_train 33 = .ok (.invokevirtual 418, 3) := by decide +kernel
theorem dX12_train_36 : decode cX12_train 36 = .ok (.ireturn, 1) := by decide +kernel
theorem dX12_train_37 : decode cX12_train 37 = .ok (.aload_n 0, 1) := by decide +kernel
theorem dX12_train_38 : decode cX12_train 38 = .ok (.invokevirtual 421, 3) := by decide +kernel
theorem dX12_train_41 : decode cX12_train 41 = .ok (.aload_n 0, 1) := by decide +kernel
theorem dX12_train_42 : decode cX12_train 42 = .ok (.getfield 87, 3) := by decide +kernel
theorem dX12_train_45 : decode cX12_train 45 = .ok (.iload_n 1, 1) := by decide +kernel
theorem dX12_train_46 : decode cX12_train 46 = .ok (.iaload, 1) := by decide +kernel
theorem dX12_train_47 : decode cX12_train 47 = .ok (.istore_n 3, 1) := by decide +kernel
theorem dX12_train_48 : decode cX12_train 48 = .ok (.aload_n 0, 1) := by decide +kernel
theorem dX12_train_49 : decode cX12_train 49 = .ok (.getfield 87, 3) := by decide +kernel
theorem dX12_train_52 : decode cX12_train 52 = .ok (.iload_n 1, 1) := by decide +kernel
theorem dX12_train_53 : decode cX12_train 53 = .ok (.iload_n 2, 1) := by decide +kernel
theorem dX12_train_54 : decode cX12_train 54 = .ok (.iastore, 1) := by decide +kernel
theorem dX12_train_55 : decode cX12_train 55 = .ok (.iload_n 3, 1) := by decide +kernel
theorem dX12_train_56 : decode cX12_train 56 = .ok (.ireturn, 1) := by decide +kernel
theorem dX12_onions_0 : decode cX12_onions 0 = .ok (.aload_n 0, 1) := by decide +kernel
theorem dX12_onions_1 : decode cX12_onions 1 = .ok (.iconst 0, 1) := by decide +kernel
theorem dX12_onions_2 : decode cX12_onions 2 = .ok (.putfield 184, 3) := by decide +kernel
theorem dX12_onions_5 : decode cX12_onions 5 = .ok (.aload_n 0, 1) := by decide +kernel
theorem dX12_onions_6 : decode cX12_onions 6 = .ok (.iload_n 1, 1) := by decide +kernel
theorem dX12_onions_7 : decode cX12_onions 7 = .ok (.invokevirtual 406, 3) := by decide +kernel
theorem dX12_onions_10 : decode cX12_onions 10 = .ok (.ifCond .ne 9, 3) := by decide +kernel
theorem dX12_onions_13 : decode cX12_onions 13 = .ok (.aload_n 0, 1) := by decide +kernel
theorem dX12_onions_14 : decode cX12_onions 14 = .ok (.iconst 1, 1) := by decide +kernel
theorem dX12_onions_15 : decode cX12_onions 15 = .ok (.invokevirtual 329, 3) := by decide +kernel
theorem dX12_onions_18 : decode cX12_onions 18 = .ok (.ireturn, 1) := by decide +kernel
theorem dX12_onions_19 : decode cX12_onions 19 = .ok (.iload_n 2, 1) := by decide +kernel
theorem dX12_onions_20 : decode cX12_onions 20 = .ok (.i2l, 1) := by decide +kernel
theorem dX12_onions_21 : decode cX12_onions 21 = .ok (.lconst 1, 1) := by decide +kernel
theorem dX12_onions_22 : decode cX12_onions 22 = .ok (.ldc2_w 427, 3) := by decide +kernel
theorem dX12_onions_25 : decode cX12_onions 25 = .ok (.invokestatic 187, 3) := by decide +kernel
theorem dX12_onions_28 : decode cX12_onions 28 = .ok (.ifCond .ne 9, 3) := by decide +kernel
theorem dX12_onions_31 : decode cX12_onions 31 = .ok (.aload_n 0, 1) := by decide +kernel
theorem dX12_onions_32 : decode cX12_onions 32 = .ok (.iconst 1, 1) := by decide +kernel
theorem dX12_onions_33 : decode cX12_onions 33 = .ok (.invokevirtual 418, 3) := by decide +kernel
theorem dX12_onions_36 : decode cX12_onions 36 = .ok (.ireturn, 1) := by decide +kernel
theorem dX12_onions_37 : decode cX12_onions 37 = .ok (.aload_n 0, 1) := by decide +kernel
theorem dX12_onions_38 : decode cX12_onions 38 = .ok (.invokevirtual 421, 3) := by decide +kernel
theorem dX12_onions_41 : decode cX12_onions 41 = .ok (.aload_n 0, 1) := by decide +kernel
theorem dX12_onions_42 : decode cX12_onions 42 = .ok (.getfield 90, 3) := by decide +kernel
theorem dX12_onions_45 : decode cX12_onions 45 = .ok (.iload_n 1, 1) := by decide +kernel
theorem dX12_onions_46 : decode cX12_onions 46 = .ok (.bipush 9, 2) := by decide +kernel
theorem dX12_onions_48 : decode cX12_onions 48 = .ok (.aload_n 0, 1) := by decide +kernel
theorem dX12_onions_49 : decode cX12_onions 49 = .ok (.getfield 90, 3) := by decide +kernel
theorem dX12_onions_52 : decode cX12_onions 52 = .ok (.iload_n 1, 1) := by decide +kernel
theorem dX12_onions_53 : decode cX12_onions 53 = .ok (.iaload, 1) := by decide +kernel
theorem dX12_onions_54 : decode cX12_onions 54 = .ok (.iload_n 2, 1) := by decide +kernel
theorem dX12_onions_55 : decode cX12_onions 55 = .ok (.iadd, 1) := by decide +kernel
theorem dX12_onions_56 : decode cX12_onions 56 = .ok (.invokestatic 221, 3) := by decide +kernel
theorem dX12_onions_59 : decode cX12_onions 59 = .ok (.iastore, 1) := by decide +kernel
theorem dX12_onions_60 : decode cX12_onions 60 = .ok (.aload_n 0, 1) := by decide +kernel
theorem dX12_onions_61 : decode cX12_onions 61 = .ok (.getfield 90, 3) := by decide +kernel
theorem dX12_onions_64 : decode cX12_onions 64 = .ok (.iload_n 1, 1) := by decide +kernel
theorem dX12_onions_65 : decode cX12_onions 65 = .ok (.iaload, 1) := by decide +kernel
theorem dX12_onions_66 : decode cX12_onions 66 = .ok (.ireturn, 1) := by decide +kernel
theorem dX12_putOff_0 : decode cX12_putOff 0 = .ok (.aload_n 0, 1) := by decide +kernel
theorem dX12_putOff_1 : decode cX12_putOff 1 = .ok (.iconst 0, 1) := by decide +kernel
theorem dX12_putOff_2 : decode cX12_putOff 2 = .ok (.putfield 184, 3) := by decide +kernel
theorem dX12_putOff_5 : decode cX12_putOff 5 = .ok (.aload_n 0, 1) := by decide +kernel
theorem dX12_putOff_6 : decode cX12_putOff 6 = .ok (.iload_n 1, 1) := by decide +kernel
theorem dX12_putOff_7 : decode cX12_putOff 7 = .ok (.invokevirtual 409, 3) := by decide +kernel
theorem dX12_putOff_10 : decode cX12_putOff 10 = .ok (.ifCond .ne 9, 3) := by decide +kernel
theorem dX12_putOff_13 : decode cX12_putOff 13 = .ok (.aload_n 0, 1) := by decide +kernel
theorem dX12_putOff_14 : decode cX12_putOff 14 = .ok (.iconst 1, 1) := by decide +kernel
theorem dX12_putOff_15 : decode cX12_putOff 15 = .ok (.invokevirtual 329, 3) := by decide +kernel
theorem dX12_putOff_18 : decode cX12_putOff 18 = .ok (.ireturn, 1) := by decide +kernel
theorem dX12_putOff_19 : decode cX12_putOff 19 = .ok (.aload_n 0, 1) := by decide +kernel
theorem dX12_putOff_20 : decode cX12_putOff 20 = .ok (.getfield 99, 3) := by decide +kernel
theorem dX12_putOff_23 : decode cX12_putOff 23 = .ok (.iload_n 1, 1) := by decide +kernel
theorem dX12_putOff_24 : decode cX12_putOff 24 = .ok (.iaload, 1) := by decide +kernel
theorem dX12_putOff_25 : decode cX12_putOff 25 = .ok (.ifCond .eq 19, 3) := by decide +kernel
theorem dX12_putOff_28 : decode cX12_putOff 28 = .ok (.iload_n 2, 1) := by decide +kernel
theorem dX12_putOff_29 : decode cX12_putOff 29 = .ok (.i2l, 1) := by decide +kernel
theorem dX12_putOff_30 : decode cX12_putOff 30 = .ok (.aload_n 0, 1) := by decide +kernel
theorem dX12_putOff_31 : decode cX12_putOff 31 = .ok (.getfield 342, 3) := by decide +kernel
theorem dX12_putOff_34 : decode cX12_putOff 34 = .ok (.i2l, 1) := by decide +kernel
theorem dX12_putOff_35 : decode cX12_putOff 35 = .ok (.ldc2_w 429, 3) := by decide +kernel
theorem dX12_putOff_38 : decode cX12_putOff 38 = .ok (.invokestatic 187, 3) := by decide +kernel
theorem dX12_putOff_41 : decode cX12_putOff 41 = .ok (.ifCond .ne 9, 3) := by decide +kernel
theorem dX12_putOff_44 : decode cX12_putOff 44 = .ok (.aload_n 0, 1) := by decide +kernel
theorem dX12_putOff_45 : decode cX12_putOff 45 = .ok (.iconst 1, 1) := by decide +kernel
theorem dX12_putOff_46 : decode cX12_putOff 46 = .ok (.invokevirtual 418, 3) := by decide +kernel
theorem dX12_putOff_49 : decode cX12_putOff 49 = .ok (.ireturn, 1) := by decide +kernel
theorem dX12_putOff_50 : decode cX12_putOff 50 = .ok (.aload_n 0, 1) := by decide +kernel
theorem dX12_putOff_51 : decode cX12_putOff 51 = .ok (.invokevirtual 421, 3) := by decide +kernel
theorem dX12_putOff_54 : decode cX12_putOff 54 = .ok (.aload_n 0, 1) := by decide +kernel
theorem dX12_putOff_55 : decode cX12_putOff 55 = .ok (.getfield 96, 3) := by decide +kernel
theorem dX12_putOff_58 : decode cX12_putOff 58 = .ok (.iload_n 1, 1) := by decide +kernel
theorem dX12_putOff_59 : decode cX12_putOff 59 = .ok (.iaload, 1) := by decide +kernel
theorem dX12_putOff_60 : decode cX12_putOff 60 = .ok (.istore_n 3, 1) := by decide +kernel
theorem dX12_putOff_61 : decode cX12_putOff 61 = .ok (.aload_n 0, 1) := by decide +kernel
theorem dX12_putOff_62 : decode cX12_putOff 62 = .ok (.getfield 96, 3) := by decide +kernel
theorem dX12_putOff_65 : decode cX12_putOff 65 = .ok (.iload_n 1, 1) := by decide +kernel
theorem dX12_putOff_66 : decode cX12_putOff 66 = .ok (.iload_n 2, 1) := by decide +kernel
theorem dX12_putOff_67 : decode cX12_putOff 67 = .ok (.iastore, 1) := by decide +kernel
theorem dX12_putOff_68 : decode cX12_putOff 68 = .ok (.iload_n 3, 1) := by decide +kernel
theorem dX12_putOff_69 : decode cX12_putOff 69 = .ok (.ireturn, 1) := by decide +kernel
theorem dX12_tie_0 : decode cX12_tie 0 = .ok (.aload_n 0, 1) := by decide +kernel
theorem dX12_tie_1 : decode cX12_tie 1 = .ok (.iconst 0, 1) := by decide +kernel
theorem dX12_tie_2 : decode cX12_tie 2 = .ok (.putfield 184, 3) := by decide +kernel
theorem dX12_tie_5 : decode cX12_tie 5 = .ok (.aload_n 0, 1) := by decide +kernel
theorem dX12_tie_6 : decode cX12_tie 6 = .ok (.iload_n 1, 1) := by decide +kernel
theorem dX12_tie_7 : decode cX12_tie 7 = .ok (.invokevirtual 406, 3) := by decide +kernel
theorem dX12_tie_10 : decode cX12_tie 10 = .ok (.ifCond .eq 11, 3) := by decide +kernel
theorem dX12_tie_13 : decode cX12_tie 13 = .ok (.aload_n 0, 1) := by decide +kernel
theorem dX12_tie_14 : decode cX12_tie 14 = .ok (.iload_n 2, 1) := by decide +kernel
theorem dX12_tie_15 : decode cX12_tie 15 = .ok (.invokevirtual 409, 3) := by decide +kernel
theorem dX12_tie_18 : decode cX12_tie 18 = .ok (.ifCond .ne 9, 3) := by decide +kernel
theorem dX12_tie_21 : decode cX12_tie 21 = .ok (.aload_n 0, 1) := by decide +kernel
theorem dX12_tie_22 : decode cX12_tie 22 = .ok (.iconst 1, 1) := by decide +kernel
theorem dX12_tie_23 : decode cX12_tie 23 = .ok (.invokevirtual 329, 3) := by decide +kernel
theorem dX12_tie_26 : decode cX12_tie 26 = .ok (.ireturn, 1) := by decide +kernel
theorem dX12_tie_27 : decode cX12_tie 27 = .ok (.iload_n 3, 1) := by decide +kernel
theorem dX12_tie_28 : decode cX12_tie 28 = .ok (.i2l, 1) := by decide +kernel
theorem dX12_tie_29 : decode cX12_tie 29 = .ok (.lconst 1, 1) := by decide +kernel
theorem dX12_tie_30 : decode cX12_tie 30 = .ok (.ldc2_w 431, 3) := by decide +kernel
theorem dX12_tie_33 : decode cX12_tie 33 = .ok (.invokestatic 187, 3) := by decide +kernel
theorem dX12_tie_36 : decode cX12_tie 36 = .ok (.ifCond .ne 9, 3) := by decide +kernel
theorem dX12_tie_39 : decode cX12_tie 39 = .ok (.aload_n 0, 1) := by decide +kernel
theorem dX12_tie_40 : decode cX12_tie 40 = .ok (.iconst 1, 1) := by decide +kernel
theorem dX12_tie_41 : decode cX12_tie 41 = .ok (.invokevirtual 418, 3) := by decide +kernel
theorem dX12_tie_44 : decode cX12_tie 44 = .ok (.ireturn, 1) := by decide +kernel
theorem dX12_tie_45 : decode cX12_tie 45 = .ok (.aload_n 0, 1) := by decide +kernel
theorem dX12_tie_46 : decode cX12_tie 46 = .ok (.invokevirtual 421, 3) := by decide +kernel
theorem dX12_tie_49 : decode cX12_tie 49 = .ok (.aload_n 0, 1) := by decide +kernel
theorem dX12_tie_50 : decode cX12_tie 50 = .ok (.getfield 105, 3) := by decide +kernel
theorem dX12_tie_53 : decode cX12_tie 53 = .ok (.bipush 6, 2) := by decide +kernel
theorem dX12_tie_55 : decode cX12_tie 55 = .ok (.iload_n 1, 1) := by decide +kernel
theorem dX12_tie_56 : decode cX12_tie 56 = .ok (.imul, 1) := by decide +kernel
theorem dX12_tie_57 : decode cX12_tie 57 = .ok (.iload_n 2, 1) := by decide +kernel
theorem dX12_tie_58 : decode cX12_tie 58 = .ok (.iadd, 1) := by decide +kernel
theorem dX12_tie_59 : decode cX12_tie 59 = .ok (.iaload, 1) := by decide +kernel
theorem dX12_tie_60 : decode cX12_tie 60 = .ok (.istore 4, 2) := by decide +kernel
theorem dX12_tie_62 : decode cX12_tie 62 = .ok (.aload_n 0, 1) := by decide +kernel
theorem dX12_tie_63 : decode cX12_tie 63 = .ok (.getfield 105, 3) := by decide +kernel
theorem dX12_tie_66 : decode cX12_tie 66 = .ok (.bipush 6, 2) := by decide +kernel
theorem dX12_tie_68 : decode cX12_tie 68 = .ok (.iload_n 1, 1) := by decide +kernel
theorem dX12_tie_69 : decode cX12_tie 69 = .ok (.imul, 1) := by decide +kernel
theorem dX12_tie_70 : decode cX12_tie 70 = .ok (.iload_n 2, 1) := by decide +kernel
theorem dX12_tie_71 : decode cX12_tie 71 = .ok (.iadd, 1) := by decide +kernel
theorem dX12_tie_72 : decode cX12_tie 72 = .ok (.iload_n 3, 1) := by decide +kernel
theorem dX12_tie_73 : decode cX12_tie 73 = .ok (.iastore, 1) := by decide +kernel
theorem dX12_tie_74 : decode cX12_tie 74 = .ok (.iload 4, 2) := by decide +kernel
theorem dX12_tie_76 : decode cX12_tie 76 = .ok (.ireturn, 1) := by decide +kernel
theorem dX12_undo_0 : decode cX12_undo 0 = .ok (.aload_n 0, 1) := by decide +kernel
theorem dX12_undo_1 : decode cX12_undo 1 = .ok (.iconst 0, 1) := by decide +kernel
theorem dX12_undo_2 : decode cX12_undo 2 = .ok (.putfield 184, 3) := by decide +kernel
theorem dX12_undo_5 : decode cX12_undo 5 = .ok (.aload_n 0, 1) := by decide +kernel
theorem dX12_undo_6 : decode cX12_undo 6 = .ok (.getfield 347, 3) := by decide +kernel
theorem dX12_undo_9 : decode cX12_undo 9 = .ok (.ifCond .ne 5, 3) := by decide +kernel
theorem dX12_undo_12 : decode cX12_undo 12 = .ok (.iconst (-1), 1) := by decide +kernel
theorem dX12_undo_13 : decode cX12_undo 13 = .ok (.ireturn, 1) := by decide +kernel
theorem dX12_undo_14 : decode cX12_undo 14 = .ok (.aload_n 0, 1) := by decide +kernel
theorem dX12_undo_15 : decode cX12_undo 15 = .ok (.dup, 1) := by decide +kernel
theorem dX12_undo_16 : decode cX12_undo 16 = .ok (.getfield 347, 3) := by decide +kernel
theorem dX12_undo_19 : decode cX12_undo 19 = .ok (.iconst 1, 1) := by decide +kernel
theorem dX12_undo_20 : decode cX12_undo 20 = .ok (.isub, 1) := by decide +kernel
theorem dX12_undo_21 : decode cX12_undo 21 = .ok (.putfield 347, 3) := by decide +kernel
theorem dX12_undo_24 : decode cX12_undo 24 = .ok (.aload_n 0, 1) := by decide +kernel
theorem dX12_undo_25 : decode cX12_undo 25 = .ok (.aload_n 0, 1) := by decide +kernel
theorem dX12_undo_26 : decode cX12_undo 26 = .ok (.getfield 108, 3) := by decide +kernel
theorem dX12_undo_29 : decode cX12_undo 29 = .ok (.bipush 110, 2) := by decide +kernel
theorem dX12_undo_31 : decode cX12_undo 31 = .ok (.aload_n 0, 1) := by decide +kernel
theorem dX12_undo_32 : decode cX12_undo 32 = .ok (.getfield 347, 3) := by decide +kernel
theorem dX12_undo_35 : decode cX12_undo 35 = .ok (.imul, 1) := by decide +kernel
theorem dX12_undo_36 : decode cX12_undo 36 = .ok (.invokevirtual 433, 3) := by decide +kernel
theorem dX12_undo_39 : decode cX12_undo 39 = .ok (.aload_n 0, 1) := by decide +kernel
theorem dX12_undo_40 : decode cX12_undo 40 = .ok (.getfield 347, 3) := by decide +kernel
theorem dX12_undo_43 : decode cX12_undo 43 = .ok (.ireturn, 1) := by decide +kernel
theorem dX12_leaderOf_0 : decode cX12_leaderOf 0 = .ok (.aload_n 0, 1) := by decide +kernel
theorem dX12_leaderOf_1 : decode cX12_leaderOf 1 = .ok (.aload_n 0, 1) := by decide +kernel
theorem dX12_leaderOf_2 : decode cX12_leaderOf 2 = .ok (.getfield 120, 3) := by decide +kernel
theorem dX12_leaderOf_5 : decode cX12_leaderOf 5 = .ok (.iconst 0, 1) := by decide +kernel
theorem dX12_leaderOf_6 : decode cX12_leaderOf 6 = .ok (.invokevirtual 412, 3) := by decide +kernel
theorem dX12_leaderOf_9 : decode cX12_leaderOf 9 = .ok (.aload_n 0, 1) := by decide +kernel
theorem dX12_leaderOf_10 : decode cX12_leaderOf 10 = .ok (.bipush 60, 2) := by decide +kernel
theorem dX12_leaderOf_12 : decode cX12_leaderOf 12 = .ok (.invokevirtual 424, 3) := by decide +kernel
theorem dX12_leaderOf_15 : decode cX12_leaderOf 15 = .ok (.aload_n 0, 1) := by decide +kernel
theorem dX12_leaderOf_16 : decode cX12_leaderOf 16 = .ok (.getfield 102, 3) := by decide +kernel
theorem dX12_leaderOf_19 : decode cX12_leaderOf 19 = .ok (.iload_n 1, 1) := by decide +kernel
theorem dX12_leaderOf_20 : decode cX12_leaderOf 20 = .ok (.iaload, 1) := by decide +kernel
theorem dX12_leaderOf_21 : decode cX12_leaderOf 21 = .ok (.istore_n 2, 1) := by decide +kernel
theorem dX12_leaderOf_22 : decode cX12_leaderOf 22 = .ok (.aload_n 0, 1) := by decide +kernel
theorem dX12_leaderOf_23 : decode cX12_leaderOf 23 = .ok (.aload_n 0, 1) := by decide +kernel
theorem dX12_leaderOf_24 : decode cX12_leaderOf 24 = .ok (.getfield 120, 3) := by decide +kernel
theorem dX12_leaderOf_27 : decode cX12_leaderOf 27 = .ok (.iconst 0, 1) := by decide +kernel
theorem dX12_leaderOf_28 : decode cX12_leaderOf 28 = .ok (.invokevirtual 433, 3) := by decide +kernel
theorem dX12_leaderOf_31 : decode cX12_leaderOf 31 = .ok (.iload_n 2, 1) := by decide +kernel
theorem dX12_leaderOf_32 : decode cX12_leaderOf 32 = .ok (.ireturn, 1) := by decide +kernel
theorem dX12_leader_0 : decode cX12_leader 0 = .ok (.aload_n 0, 1) := by decide +kernel
theorem dX12_leader_1 : decode cX12_leader 1 = .ok (.iconst 0, 1) := by decide +kernel
theorem dX12_leader_2 : decode cX12_leader 2 = .ok (.putfield 184, 3) := by decide +kernel
theorem dX12_leader_5 : decode cX12_leader 5 = .ok (.aload_n 0, 1) := by decide +kernel
theorem dX12_leader_6 : decode cX12_leader 6 = .ok (.iload_n 1, 1) := by decide +kernel
theorem dX12_leader_7 : decode cX12_leader 7 = .ok (.invokevirtual 409, 3) := by decide +kernel
theorem dX12_leader_10 : decode cX12_leader 10 = .ok (.ifCond .eq 11, 3) := by decide +kernel
theorem dX12_leader_13 : decode cX12_leader 13 = .ok (.aload_n 0, 1) := by decide +kernel
theorem dX12_leader_14 : decode cX12_leader 14 = .ok (.iload_n 1, 1) := by decide +kernel
theorem dX12_leader_15 : decode cX12_leader 15 = .ok (.invokevirtual 436, 3) := by decide +kernel
theorem dX12_leader_18 : decode cX12_leader 18 = .ok (.goto 8, 3) := by decide +kernel
theorem dX12_leader_21 : decode cX12_leader 21 = .ok (.aload_n 0, 1) := by decide +kernel
theorem dX12_leader_22 : decode cX12_leader 22 = .ok (.iconst 1, 1) := by decide +kernel
theorem dX12_leader_23 : decode cX12_leader 23 = .ok (.invokevirtual 329, 3) := by decide +kernel
theorem dX12_leader_26 : decode cX12_leader 26 = .ok (.ireturn, 1) := by decide +kernel
theorem dX12_then_0 : decode cX12_then 0 = .ok (.aload_n 0, 1) := by decide +kernel
theorem dX12_then_1 : decode cX12_then 1 = .ok (.iconst 0, 1) := by decide +kernel
theorem dX12_then_2 : decode cX12_then 2 = .ok (.putfield 184, 3) := by decide +kernel
theorem dX12_then_5 : decode cX12_then 5 = .ok (.aload_n 0, 1) := by decide +kernel
theorem dX12_then_6 : decode cX12_then 6 = .ok (.iload_n 1, 1) := by decide +kernel
theorem dX12_then_7 : decode cX12_then 7 = .ok (.invokevirtual 406, 3) := by decide +kernel
theorem dX12_then_10 : decode cX12_then 10 = .ok (.ifCond .ne 9, 3) := by decide +kernel
theorem dX12_then_13 : decode cX12_then 13 = .ok (.aload_n 0, 1) := by decide +kernel
theorem dX12_then_14 : decode cX12_then 14 = .ok (.iconst 1, 1) := by decide +kernel
theorem dX12_then_15 : decode cX12_then 15 = .ok (.invokevirtual 329, 3) := by decide +kernel
theorem dX12_then_18 : decode cX12_then 18 = .ok (.ireturn, 1) := by decide +kernel
theorem dX12_then_19 : decode cX12_then 19 = .ok (.iload_n 2, 1) := by decide +kernel
theorem dX12_then_20 : decode cX12_then 20 = .ok (.i2l, 1) := by decide +kernel
theorem dX12_then_21 : decode cX12_then 21 = .ok (.lconst 0, 1) := by decide +kernel
theorem dX12_then_22 : decode cX12_then 22 = .ok (.ldc2_w 439, 3) := by decide +kernel
theorem dX12_then_25 : decode cX12_then 25 = .ok (.invokestatic 187, 3) := by decide +kernel
theorem dX12_then_28 : decode cX12_then 28 = .ok (.ifCond .ne 9, 3) := by decide +kernel
theorem dX12_then_31 : decode cX12_then 31 = .ok (.aload_n 0, 1) := by decide +kernel
theorem dX12_then_32 : decode cX12_then 32 = .ok (.iconst 2, 1) := by decide +kernel
theorem dX12_then_33 : decode cX12_then 33 = .ok (.invokevirtual 329, 3) := by decide +kernel
theorem dX12_then_36 : decode cX12_then 36 = .ok (.ireturn, 1) := by decide +kernel
theorem dX12_then_37 : decode cX12_then 37 = .ok (.aload_n 0, 1) := by decide +kernel
theorem dX12_then_38 : decode cX12_then 38 = .ok (.aload_n 0, 1) := by decide +kernel
theorem dX12_then_39 : decode cX12_then 39 = .ok (.getfield 120, 3) := by decide +kernel
theorem dX12_then_42 : decode cX12_then 42 = .ok (.iconst 0, 1) := by decide +kernel
theorem dX12_then_43 : decode cX12_then 43 = .ok (.invokevirtual 412, 3) := by decide +kernel
theorem dX12_then_46 : decode cX12_then 46 = .ok (.aload_n 0, 1) := by decide +kernel
theorem dX12_then_47 : decode cX12_then 47 = .ok (.iload_n 2, 1) := by decide +kernel
theorem dX12_then_48 : decode cX12_then 48 = .ok (.invokevirtual 424, 3) := by decide +kernel
theorem dX12_then_51 : decode cX12_then 51 = .ok (.aload_n 0, 1) := by decide +kernel
theorem dX12_then_52 : decode cX12_then 52 = .ok (.getfield 85, 3) := by decide +kernel
theorem dX12_then_55 : decode cX12_then 55 = .ok (.iload_n 1, 1) := by decide +kernel
theorem dX12_then_56 : decode cX12_then 56 = .ok (.iaload, 1) := by decide +kernel
theorem dX12_then_57 : decode cX12_then 57 = .ok (.istore_n 3, 1) := by decide +kernel
theorem dX12_then_58 : decode cX12_then 58 = .ok (.aload_n 0, 1) := by decide +kernel
theorem dX12_then_59 : decode cX12_then 59 = .ok (.aload_n 0, 1) := by decide +kernel
theorem dX12_then_60 : decode cX12_then 60 = .ok (.getfield 120, 3) := by decide +kernel
theorem dX12_then_63 : decode cX12_then 63 = .ok (.iconst 0, 1) := by decide +kernel
theorem dX12_then_64 : decode cX12_then 64 = .ok (.invokevirtual 433, 3) := by decide +kernel
theorem dX12_then_67 : decode cX12_then 67 = .ok (.iload_n 3, 1) := by decide +kernel
theorem dX12_then_68 : decode cX12_then 68 = .ok (.ireturn, 1) := by decide +kernel
theorem dX12_ledIn_0 : decode cX12_ledIn 0 = .ok (.aload_n 0, 1) := by decide +kernel
theorem dX12_ledIn_1 : decode cX12_ledIn 1 = .ok (.aload_n 0, 1) := by decide +kernel
theorem dX12_ledIn_2 : decode cX12_ledIn 2 = .ok (.getfield 120, 3) := by decide +kernel
theorem dX12_ledIn_5 : decode cX12_ledIn 5 = .ok (.iconst 0, 1) := by decide +kernel
theorem dX12_ledIn_6 : decode cX12_ledIn 6 = .ok (.invokevirtual 412, 3) := by decide +kernel
theorem dX12_ledIn_9 : decode cX12_ledIn 9 = .ok (.aload_n 0, 1) := by decide +kernel
theorem dX12_ledIn_10 : decode cX12_ledIn 10 = .ok (.getfield 93, 3) := by decide +kernel
theorem dX12_ledIn_13 : decode cX12_ledIn 13 = .ok (.iload_n 1, 1) := by decide +kernel
theorem dX12_ledIn_14 : decode cX12_ledIn 14 = .ok (.iaload, 1) := by decide +kernel
theorem dX12_ledIn_15 : decode cX12_ledIn 15 = .ok (.istore_n 3, 1) := by decide +kernel
theorem dX12_ledIn_16 : decode cX12_ledIn 16 = .ok (.aload_n 0, 1) := by decide +kernel
theorem dX12_ledIn_17 : decode cX12_ledIn 17 = .ok (.iload_n 2, 1) := by decide +kernel
theorem dX12_ledIn_18 : decode cX12_ledIn 18 = .ok (.invokevirtual 424, 3) := by decide +kernel
theorem dX12_ledIn_21 : decode cX12_ledIn 21 = .ok (.aload_n 0, 1) := by decide +kernel
theorem dX12_ledIn_22 : decode cX12_ledIn 22 = .ok (.getfield 93, 3) := by decide +kernel
theorem dX12_ledIn_25 : decode cX12_ledIn 25 = .ok (.iload_n 1, 1) := by decide +kernel
theorem dX12_ledIn_26 : decode cX12_ledIn 26 = .ok (.iaload, 1) := by decide +kernel
theorem dX12_ledIn_27 : decode cX12_ledIn 27 = .ok (.iload_n 3, 1) := by decide +kernel
theorem dX12_ledIn_28 : decode cX12_ledIn 28 = .ok (.iconst (-1), 1) := by decide +kernel
theorem dX12_ledIn_29 : decode cX12_ledIn 29 = .ok (.ixor, 1) := by decide +kernel
theorem dX12_ledIn_30 : decode cX12_ledIn 30 = .ok (.iand, 1) := by decide +kernel
theorem dX12_ledIn_31 : decode cX12_ledIn 31 = .ok (.invokestatic 360, 3) := by decide +kernel
theorem dX12_ledIn_34 : decode cX12_ledIn 34 = .ok (.istore 4, 2) := by decide +kernel
theorem dX12_ledIn_36 : decode cX12_ledIn 36 = .ok (.aload_n 0, 1) := by decide +kernel
theorem dX12_ledIn_37 : decode cX12_ledIn 37 = .ok (.aload_n 0, 1) := by decide +kernel
theorem dX12_ledIn_38 : decode cX12_ledIn 38 = .ok (.getfield 120, 3) := by decide +kernel
theorem dX12_ledIn_41 : decode cX12_ledIn 41 = .ok (.iconst 0, 1) := by decide +kernel
theorem dX12_ledIn_42 : decode cX12_ledIn 42 = .ok (.invokevirtual 433, 3) := by decide +kernel
theorem dX12_ledIn_45 : decode cX12_ledIn 45 = .ok (.iload 4, 2) := by decide +kernel
theorem dX12_ledIn_47 : decode cX12_ledIn 47 = .ok (.ireturn, 1) := by decide +kernel
theorem dX12_led_0 : decode cX12_led 0 = .ok (.aload_n 0, 1) := by decide +kernel
theorem dX12_led_1 : decode cX12_led 1 = .ok (.iconst 0, 1) := by decide +kernel
theorem dX12_led_2 : decode cX12_led 2 = .ok (.putfield 184, 3) := by decide +kernel
theorem dX12_led_5 : decode cX12_led 5 = .ok (.aload_n 0, 1) := by decide +kernel
theorem dX12_led_6 : decode cX12_led 6 = .ok (.iload_n 1, 1) := by decide +kernel
theorem dX12_led_7 : decode cX12_led 7 = .ok (.invokevirtual 406, 3) := by decide +kernel
theorem dX12_led_10 : decode cX12_led 10 = .ok (.ifCond .ne 9, 3) := by decide +kernel
theorem dX12_led_13 : decode cX12_led 13 = .ok (.aload_n 0, 1) := by decide +kernel
theorem dX12_led_14 : decode cX12_led 14 = .ok (.iconst 1, 1) := by decide +kernel
theorem dX12_led_15 : decode cX12_led 15 = .ok (.invokevirtual 329, 3) := by decide +kernel
theorem dX12_led_18 : decode cX12_led 18 = .ok (.ireturn, 1) := by decide +kernel
theorem dX12_led_19 : decode cX12_led 19 = .ok (.iload_n 2, 1) := by decide +kernel
theorem dX12_led_20 : decode cX12_led 20 = .ok (.i2l, 1) := by decide +kernel
theorem dX12_led_21 : decode cX12_led 21 = .ok (.lconst 0, 1) := by decide +kernel
theorem dX12_led_22 : decode cX12_led 22 = .ok (.ldc2_w 439, 3) := by decide +kernel
theorem dX12_led_25 : decode cX12_led 25 = .ok (.invokestatic 187, 3) := by decide +kernel
theorem dX12_led_28 : decode cX12_led 28 = .ok (.ifCond .eq 12, 3) := by decide +kernel
theorem dX12_led_31 : decode cX12_led 31 = .ok (.aload_n 0, 1) := by decide +kernel
theorem dX12_led_32 : decode cX12_led 32 = .ok (.iload_n 1, 1) := by decide +kernel
theorem dX12_led_33 : decode cX12_led 33 = .ok (.iload_n 2, 1) := by decide +kernel
theorem dX12_led_34 : decode cX12_led 34 = .ok (.invokevirtual 441, 3) := by decide +kernel
theorem dX12_led_37 : decode cX12_led 37 = .ok (.goto 8, 3) := by decide +kernel
theorem dX12_led_40 : decode cX12_led 40 = .ok (.aload_n 0, 1) := by decide +kernel
theorem dX12_led_41 : decode cX12_led 41 = .ok (.iconst 2, 1) := by decide +kernel
theorem dX12_led_42 : decode cX12_led 42 = .ok (.invokevirtual 329, 3) := by decide +kernel
theorem dX12_led_45 : decode cX12_led 45 = .ok (.ireturn, 1) := by decide +kernel
theorem dX12_dog_0 : decode cX12_dog 0 = .ok (.aload_n 0, 1) := by decide +kernel
theorem dX12_dog_1 : decode cX12_dog 1 = .ok (.iconst 0, 1) := by decide +kernel
theorem dX12_dog_2 : decode cX12_dog 2 = .ok (.putfield 184, 3) := by decide +kernel
theorem dX12_dog_5 : decode cX12_dog 5 = .ok (.aload_n 0, 1) := by decide +kernel
theorem dX12_dog_6 : decode cX12_dog 6 = .ok (.aload_n 0, 1) := by decide +kernel
theorem dX12_dog_7 : decode cX12_dog 7 = .ok (.getfield 120, 3) := by decide +kernel
theorem dX12_dog_10 : decode cX12_dog 10 = .ok (.iconst 0, 1) := by decide +kernel
theorem dX12_dog_11 : decode cX12_dog 11 = .ok (.invokevirtual 412, 3) := by decide +kernel
theorem dX12_dog_14 : decode cX12_dog 14 = .ok (.aload_n 0, 1) := by decide +kernel
theorem dX12_dog_15 : decode cX12_dog 15 = .ok (.getfield 344, 3) := by decide +kernel
theorem dX12_dog_18 : decode cX12_dog 18 = .ok (.istore_n 1, 1) := by decide +kernel
theorem dX12_dog_19 : decode cX12_dog 19 = .ok (.aload_n 0, 1) := by decide +kernel
theorem dX12_dog_20 : decode cX12_dog 20 = .ok (.bipush 60, 2) := by decide +kernel
theorem dX12_dog_22 : decode cX12_dog 22 = .ok (.invokevirtual 424, 3) := by decide +kernel
theorem dX12_dog_25 : decode cX12_dog 25 = .ok (.aload_n 0, 1) := by decide +kernel
theorem dX12_dog_26 : decode cX12_dog 26 = .ok (.getfield 344, 3) := by decide +kernel
theorem dX12_dog_29 : decode cX12_dog 29 = .ok (.iload_n 1, 1) := by decide +kernel
theorem dX12_dog_30 : decode cX12_dog 30 = .ok (.isub, 1) := by decide +kernel
theorem dX12_dog_31 : decode cX12_dog 31 = .ok (.istore_n 2, 1) := by decide +kernel
theorem dX12_dog_32 : decode cX12_dog 32 = .ok (.aload_n 0, 1) := by decide +kernel
theorem dX12_dog_33 : decode cX12_dog 33 = .ok (.aload_n 0, 1) := by decide +kernel
theorem dX12_dog_34 : decode cX12_dog 34 = .ok (.getfield 120, 3) := by decide +kernel
theorem dX12_dog_37 : decode cX12_dog 37 = .ok (.iconst 0, 1) := by decide +kernel
theorem dX12_dog_38 : decode cX12_dog 38 = .ok (.invokevirtual 433, 3) := by decide +kernel
theorem dX12_dog_41 : decode cX12_dog 41 = .ok (.iload_n 2, 1) := by decide +kernel
theorem dX12_dog_42 : decode cX12_dog 42 = .ok (.ireturn, 1) := by decide +kernel
theorem dX12_rank_0 : decode cX12_rank 0 = .ok (.aload_n 0, 1) := by decide +kernel
theorem dX12_rank_1 : decode cX12_rank 1 = .ok (.iconst 0, 1) := by decide +kernel
theorem dX12_rank_2 : decode cX12_rank 2 = .ok (.putfield 184, 3) := by decide +kernel
theorem dX12_rank_5 : decode cX12_rank 5 = .ok (.aload_n 0, 1) := by decide +kernel
theorem dX12_rank_6 : decode cX12_rank 6 = .ok (.iload_n 1, 1) := by decide +kernel
theorem dX12_rank_7 : decode cX12_rank 7 = .ok (.invokevirtual 406, 3) := by decide +kernel
theorem dX12_rank_10 : decode cX12_rank 10 = .ok (.ifCond .eq 11, 3) := by decide +kernel
theorem dX12_rank_13 : decode cX12_rank 13 = .ok (.aload_n 0, 1) := by decide +kernel
theorem dX12_rank_14 : decode cX12_rank 14 = .ok (.iload_n 2, 1) := by decide +kernel
theorem dX12_rank_15 : decode cX12_rank 15 = .ok (.invokevirtual 409, 3) := by decide +kernel
theorem dX12_rank_18 : decode cX12_rank 18 = .ok (.ifCond .ne 9, 3) := by decide +kernel
theorem dX12_rank_21 : decode cX12_rank 21 = .ok (.aload_n 0, 1) := by decide +kernel
theorem dX12_rank_22 : decode cX12_rank 22 = .ok (.iconst 1, 1) := by decide +kernel
theorem dX12_rank_23 : decode cX12_rank 23 = .ok (.invokevirtual 329, 3) := by decide +kernel
theorem dX12_rank_26 : decode cX12_rank 26 = .ok (.ireturn, 1) := by decide +kernel
theorem dX12_rank_27 : decode cX12_rank 27 = .ok (.aload_n 0, 1) := by decide +kernel
theorem dX12_rank_28 : decode cX12_rank 28 = .ok (.iload_n 1, 1) := by decide +kernel
theorem dX12_rank_29 : decode cX12_rank 29 = .ok (.iload_n 2, 1) := by decide +kernel
theorem dX12_rank_30 : decode cX12_rank 30 = .ok (.invokevirtual 376, 3) := by decide +kernel
theorem dX12_rank_33 : decode cX12_rank 33 = .ok (.istore_n 3, 1) := by decide +kernel
theorem dX12_rank_34 : decode cX12_rank 34 = .ok (.iload_n 3, 1) := by decide +kernel
theorem dX12_rank_35 : decode cX12_rank 35 = .ok (.iconst (-1), 1) := by decide +kernel
theorem dX12_rank_36 : decode cX12_rank 36 = .ok (.if_icmp .ne 5, 3) := by decide +kernel
theorem dX12_rank_39 : decode cX12_rank 39 = .ok (.iconst (-1), 1) := by decide +kernel
theorem dX12_rank_40 : decode cX12_rank 40 = .ok (.ireturn, 1) := by decide +kernel
theorem dX12_rank_41 : decode cX12_rank 41 = .ok (.iconst 0, 1) := by decide +kernel
theorem dX12_rank_42 : decode cX12_rank 42 = .ok (.istore 4, 2) := by decide +kernel
theorem dX12_rank_44 : decode cX12_rank 44 = .ok (.iconst 0, 1) := by decide +kernel
theorem dX12_rank_45 : decode cX12_rank 45 = .ok (.istore 5, 2) := by decide +kernel
theorem dX12_rank_47 : decode cX12_rank 47 = .ok (.iload 5, 2) := by decide +kernel
theorem dX12_rank_49 : decode cX12_rank 49 = .ok (.aload_n 0, 1) := by decide +kernel
theorem dX12_rank_50 : decode cX12_rank 50 = .ok (.getfield 48, 3) := by decide +kernel
theorem dX12_rank_53 : decode cX12_rank 53 = .ok (.iconst 0, 1) := by decide +kernel
theorem dX12_rank_54 : decode cX12_rank 54 = .ok (.iaload, 1) := by decide +kernel
theorem dX12_rank_55 : decode cX12_rank 55 = .ok (.if_icmp .ge 46, 3) := by decide +kernel
theorem dX12_rank_58 : decode cX12_rank 58 = .ok (.aload_n 0, 1) := by decide +kernel
theorem dX12_rank_59 : decode cX12_rank 59 = .ok (.iload 5, 2) := by decide +kernel
theorem dX12_rank_61 : decode cX12_rank 61 = .ok (.iload_n 2, 1) := by decide +kernel
theorem dX12_rank_62 : decode cX12_rank 62 = .ok (.invokevirtual 376, 3) := by decide +kernel
theorem dX12_rank_65 : decode cX12_rank 65 = .ok (.istore 6, 2) := by decide +kernel
theorem dX12_rank_67 : decode cX12_rank 67 = .ok (.iload 4, 2) := by decide +kernel
theorem dX12_rank_69 : decode cX12_rank 69 = .ok (.iload 6, 2) := by decide +kernel
theorem dX12_rank_71 : decode cX12_rank 71 = .ok (.iload_n 3, 1) := by decide +kernel
theorem dX12_rank_72 : decode cX12_rank 72 = .ok (.if_icmp .gt 15, 3) := by decide +kernel
theorem dX12_rank_75 : decode cX12_rank 75 = .ok (.iload 6, 2) := by decide +kernel
theorem dX12_rank_77 : decode cX12_rank 77 = .ok (.iload_n 3, 1) := by decide +kernel
theorem dX12_rank_78 : decode cX12_rank 78 = .ok (.if_icmp .ne 13, 3) := by decide +kernel
theorem dX12_rank_81 : decode cX12_rank 81 = .ok (.iload 5, 2) := by decide +kernel
theorem dX12_rank_83 : decode cX12_rank 83 = .ok (.iload_n 1, 1) := by decide +kernel
theorem dX12_rank_84 : decode cX12_rank 84 = .ok (.if_icmp .ge 7, 3) := by decide +kernel
theorem dX12_rank_87 : decode cX12_rank 87 = .ok (.iconst 1, 1) := by decide +kernel
theorem dX12_rank_88 : decode cX12_rank 88 = .ok (.goto 4, 3) := by decide +kernel
theorem dX12_rank_91 : decode cX12_rank 91 = .ok (.iconst 0, 1) := by decide +kernel
theorem dX12_rank_92 : decode cX12_rank 92 = .ok (.iadd, 1) := by decide +kernel
theorem dX12_rank_93 : decode cX12_rank 93 = .ok (.istore 4, 2) := by decide +kernel
theorem dX12_rank_95 : decode cX12_rank 95 = .ok (.iinc 5 1, 3) := by decide +kernel
theorem dX12_rank_98 : decode cX12_rank 98 = .ok (.goto (-51), 3) := by decide +kernel
theorem dX12_rank_101 : decode cX12_rank 101 = .ok (.iload 4, 2) := by decide +kernel
theorem dX12_rank_103 : decode cX12_rank 103 = .ok (.ireturn, 1) := by decide +kernel
theorem dX12_toTrain_0 : decode cX12_toTrain 0 = .ok (.aload_n 0, 1) := by decide +kernel
theorem dX12_toTrain_1 : decode cX12_toTrain 1 = .ok (.iconst 0, 1) := by decide +kernel
theorem dX12_toTrain_2 : decode cX12_toTrain 2 = .ok (.putfield 184, 3) := by decide +kernel
theorem dX12_toTrain_5 : decode cX12_toTrain 5 = .ok (.aload_n 0, 1) := by decide +kernel
theorem dX12_toTrain_6 : decode cX12_toTrain 6 = .ok (.iload_n 1, 1) := by decide +kernel
theorem dX12_toTrain_7 : decode cX12_toTrain 7 = .ok (.invokevirtual 406, 3) := by decide +kernel
theorem dX12_toTrain_10 : decode cX12_toTrain 10 = .ok (.ifCond .eq 11, 3) := by decide +kernel
theorem dX12_toTrain_13 : decode cX12_toTrain 13 = .ok (.aload_n 0, 1) := by decide +kernel
theorem dX12_toTrain_14 : decode cX12_toTrain 14 = .ok (.iload_n 2, 1) := by decide +kernel
theorem dX12_toTrain_15 : decode cX12_toTrain 15 = .ok (.invokevirtual 409, 3) := by decide +kernel
theorem dX12_toTrain_18 : decode cX12_toTrain 18 = .ok (.ifCond .ne 9, 3) := by decide +kernel
theorem dX12_toTrain_21 : decode cX12_toTrain 21 = .ok (.aload_n 0, 1) := by decide +kernel
theorem dX12_toTrain_22 : decode cX12_toTrain 22 = .ok (.iconst 1, 1) := by decide +kernel
theorem dX12_toTrain_23 : decode cX12_toTrain 23 = .ok (.invokevirtual 329, 3) := by decide +kernel
theorem dX12_toTrain_26 : decode cX12_toTrain 26 = .ok (.ireturn, 1) := by decide +kernel
theorem dX12_toTrain_27 : decode cX12_toTrain 27 = .ok (.aload_n 0, 1) := by decide +kernel
theorem dX12_toTrain_28 : decode cX12_toTrain 28 = .ok (.getfield 99, 3) := by decide +kernel
theorem dX12_toTrain_31 : decode cX12_toTrain 31 = .ok (.iload_n 2, 1) := by decide +kernel
theorem dX12_toTrain_32 : decode cX12_toTrain 32 = .ok (.iaload, 1) := by decide +kernel
theorem dX12_toTrain_33 : decode cX12_toTrain 33 = .ok (.ifCond .ne 5, 3) := by decide +kernel
theorem dX12_toTrain_36 : decode cX12_toTrain 36 = .ok (.iconst (-1), 1) := by decide +kernel
theorem dX12_toTrain_37 : decode cX12_toTrain 37 = .ok (.ireturn, 1) := by decide +kernel
theorem dX12_toTrain_38 : decode cX12_toTrain 38 = .ok (.aload_n 0, 1) := by decide +kernel
theorem dX12_toTrain_39 : decode cX12_toTrain 39 = .ok (.getfield 87, 3) := by decide +kernel
theorem dX12_toTrain_42 : decode cX12_toTrain 42 = .ok (.iload_n 1, 1) := by decide +kernel
theorem dX12_toTrain_43 : decode cX12_toTrain 43 = .ok (.iaload, 1) := by decide +kernel
theorem dX12_toTrain_44 : decode cX12_toTrain 44 = .ok (.istore_n 3, 1) := by decide +kernel
theorem dX12_toTrain_45 : decode cX12_toTrain 45 = .ok (.iconst (-1), 1) := by decide +kernel
theorem dX12_toTrain_46 : decode cX12_toTrain 46 = .ok (.istore 4, 2) := by decide +kernel
theorem dX12_toTrain_48 : decode cX12_toTrain 48 = .ok (.iconst 0, 1) := by decide +kernel
theorem dX12_toTrain_49 : decode cX12_toTrain 49 = .ok (.istore 5, 2) := by decide +kernel
theorem dX12_toTrain_51 : decode cX12_toTrain 51 = .ok (.iload 5, 2) := by decide +kernel
theorem dX12_toTrain_53 : decode cX12_toTrain 53 = .ok (.bipush 9, 2) := by decide +kernel
theorem dX12_toTrain_55 : decode cX12_toTrain 55 = .ok (.if_icmp .gt 36, 3) := by decide +kernel
theorem dX12_toTrain_58 : decode cX12_toTrain 58 = .ok (.iload 4, 2) := by decide +kernel
theorem dX12_toTrain_60 : decode cX12_toTrain 60 = .ok (.iconst (-1), 1) := by decide +kernel
theorem dX12_toTrain_61 : decode cX12_toTrain 61 = .ok (.if_icmp .ne 30, 3) := by decide +kernel
theorem dX12_toTrain_64 : decode cX12_toTrain 64 = .ok (.aload_n 0, 1) := by decide +kernel
theorem dX12_toTrain_65 : decode cX12_toTrain 65 = .ok (.getfield 87, 3) := by decide +kernel
theorem dX12_toTrain_68 : decode cX12_toTrain 68 = .ok (.iload_n 1, 1) := by decide +kernel
theorem dX12_toTrain_69 : decode cX12_toTrain 69 = .ok (.iload 5, 2) := by decide +kernel
theorem dX12_toTrain_71 : decode cX12_toTrain 71 = .ok (.iastore, 1) := by decide +kernel
theorem dX12_toTrain_72 : decode cX12_toTrain 72 = .ok (.aload_n 0, 1) := by decide +kernel
theorem dX12_toTrain_73 : decode cX12_toTrain 73 = .ok (.iload_n 2, 1) := by decide +kernel
theorem dX12_toTrain_74 : decode cX12_toTrain 74 = .ok (.invokevirtual 436, 3) := by decide +kernel
theorem dX12_toTrain_77 : decode cX12_toTrain 77 = .ok (.iload_n 1, 1) := by decide +kernel
theorem dX12_toTrain_78 : decode cX12_toTrain 78 = .ok (.if_icmp .ne 7, 3) := by decide +kernel
theorem dX12_toTrain_81 : decode cX12_toTrain 81 = .ok (.iload 5, 2) := by decide +kernel
theorem dX12_toTrain_83 : decode cX12_toTrain 83 = .ok (.istore 4, 2) := by decide +kernel
theorem dX12_toTrain_85 : decode cX12_toTrain 85 = .ok (.iinc 5 1, 3) := by decide +kernel
theorem dX12_toTrain_88 : decode cX12_toTrain 88 = .ok (.goto (-37), 3) := by decide +kernel
theorem dX12_toTrain_91 : decode cX12_toTrain 91 = .ok (.aload_n 0, 1) := by decide +kernel
theorem dX12_toTrain_92 : decode cX12_toTrain 92 = .ok (.getfield 87, 3) := by decide +kernel
theorem dX12_toTrain_95 : decode cX12_toTrain 95 = .ok (.iload_n 1, 1) := by decide +kernel
theorem dX12_toTrain_96 : decode cX12_toTrain 96 = .ok (.iload_n 3, 1) := by decide +kernel
theorem dX12_toTrain_97 : decode cX12_toTrain 97 = .ok (.iastore, 1) := by decide +kernel
theorem dX12_toTrain_98 : decode cX12_toTrain 98 = .ok (.iload 4, 2) := by decide +kernel
theorem dX12_toTrain_100 : decode cX12_toTrain 100 = .ok (.ireturn, 1) := by decide +kernel
theorem dX12_tellLeaders_0 : decode cX12_tellLeaders 0 = .ok (.aload_n 0, 1) := by decide +kernel
theorem dX12_tellLeaders_1 : decode cX12_tellLeaders 1 = .ok (.aload_n 0, 1) := by decide +kernel
theorem dX12_tellLeaders_2 : decode cX12_tellLeaders 2 = .ok (.getfield 120, 3) := by decide +kernel
theorem dX12_tellLeaders_5 : decode cX12_tellLeaders 5 = .ok (.iconst 0, 1) := by decide +kernel
theorem dX12_tellLeaders_6 : decode cX12_tellLeaders 6 = .ok (.invokevirtual 412, 3) := by decide +kernel
theorem dX12_tellLeaders_9 : decode cX12_tellLeaders 9 = .ok (.aload_n 0, 1) := by decide +kernel
theorem dX12_tellLeaders_10 : decode cX12_tellLeaders 10 = .ok (.bipush 60, 2) := by decide +kernel
theorem dX12_tellLeaders_12 : decode cX12_tellLeaders 12 = .ok (.invokevirtual 424, 3) := by decide +kernel
theorem dX12_tellLeaders_15 : decode cX12_tellLeaders 15 = .ok (.iconst 0, 1) := by decide +kernel
theorem dX12_tellLeaders_16 : decode cX12_tellLeaders 16 = .ok (.istore_n 1, 1) := by decide +kernel
theorem dX12_tellLeaders_17 : decode cX12_tellLeaders 17 = .ok (.iload_n 1, 1) := by decide +kernel
theorem dX12_tellLeaders_18 : decode cX12_tellLeaders 18 = .ok (.bipush 6, 2) := by decide +kernel
theorem dX12_tellLeaders_20 : decode cX12_tellLeaders 20 = .ok (.if_icmp .ge 21, 3) := by decide +kernel
theorem dX12_tellLeaders_23 : decode cX12_tellLeaders 23 = .ok (.aload_n 0, 1) := by decide +kernel
theorem dX12_tellLeaders_24 : decode cX12_tellLeaders 24 = .ok (.getfield 123, 3) := by decide +kernel
theorem dX12_tellLeaders_27 : decode cX12_tellLeaders 27 = .ok (.iload_n 1, 1) := by decide +kernel
theorem dX12_tellLeaders_28 : decode cX12_tellLeaders 28 = .ok (.aload_n 0, 1) := by decide +kernel
theorem dX12_tellLeaders_29 : decode cX12_tellLeaders 29 = .ok (.getfield 102, 3) := by decide +kernel
theorem dX12_tellLeaders_32 : decode cX12_tellLeaders 32 = .ok (.iload_n 1, 1) := by decide +kernel
theorem dX12_tellLeaders_33 : decode cX12_tellLeaders 33 = .ok (.iaload, 1) := by decide +kernel
theorem dX12_tellLeaders_34 : decode cX12_tellLeaders 34 = .ok (.iastore, 1) := by decide +kernel
theorem dX12_tellLeaders_35 : decode cX12_tellLeaders 35 = .ok (.iinc 1 1, 3) := by decide +kernel
theorem dX12_tellLeaders_38 : decode cX12_tellLeaders 38 = .ok (.goto (-21), 3) := by decide +kernel
theorem dX12_tellLeaders_41 : decode cX12_tellLeaders 41 = .ok (.aload_n 0, 1) := by decide +kernel
theorem dX12_tellLeaders_42 : decode cX12_tellLeaders 42 = .ok (.aload_n 0, 1) := by decide +kernel
theorem dX12_tellLeaders_43 : decode cX12_tellLeaders 43 = .ok (.getfield 120, 3) := by decide +kernel
theorem dX12_tellLeaders_46 : decode cX12_tellLeaders 46 = .ok (.iconst 0, 1) := by decide +kernel
theorem dX12_tellLeaders_47 : decode cX12_tellLeaders 47 = .ok (.invokevirtual 433, 3) := by decide +kernel
theorem dX12_tellLeaders_50 : decode cX12_tellLeaders 50 = .ok (.return_, 1) := by decide +kernel
theorem dX12_instead_0 : decode cX12_instead 0 = .ok (.aload_n 0, 1) := by decide +kernel
theorem dX12_instead_1 : decode cX12_instead 1 = .ok (.iconst 0, 1) := by decide +kernel
theorem dX12_instead_2 : decode cX12_instead 2 = .ok (.putfield 184, 3) := by decide +kernel
theorem dX12_instead_5 : decode cX12_instead 5 = .ok (.aload_n 0, 1) := by decide +kernel
theorem dX12_instead_6 : decode cX12_instead 6 = .ok (.iload_n 1, 1) := by decide +kernel
theorem dX12_instead_7 : decode cX12_instead 7 = .ok (.invokevirtual 406, 3) := by decide +kernel
theorem dX12_instead_10 : decode cX12_instead 10 = .ok (.ifCond .ne 9, 3) := by decide +kernel
theorem dX12_instead_13 : decode cX12_instead 13 = .ok (.aload_n 0, 1) := by decide +kernel
theorem dX12_instead_14 : decode cX12_instead 14 = .ok (.iconst 1, 1) := by decide +kernel
theorem dX12_instead_15 : decode cX12_instead 15 = .ok (.invokevirtual 329, 3) := by decide +kernel
theorem dX12_instead_18 : decode cX12_instead 18 = .ok (.ireturn, 1) := by decide +kernel
theorem dX12_instead_19 : decode cX12_instead 19 = .ok (.aload_n 0, 1) := by decide +kernel
theorem dX12_instead_20 : decode cX12_instead 20 = .ok (.invokevirtual 444, 3) := by decide +kernel
theorem dX12_instead_23 : decode cX12_instead 23 = .ok (.aload_n 0, 1) := by decide +kernel
theorem dX12_instead_24 : decode cX12_instead 24 = .ok (.aload_n 0, 1) := by decide +kernel
theorem dX12_instead_25 : decode cX12_instead 25 = .ok (.getfield 120, 3) := by decide +kernel
theorem dX12_instead_28 : decode cX12_instead 28 = .ok (.iconst 0, 1) := by decide +kernel
theorem dX12_instead_29 : decode cX12_instead 29 = .ok (.invokevirtual 412, 3) := by decide +kernel
theorem dX12_instead_32 : decode cX12_instead 32 = .ok (.aload_n 0, 1) := by decide +kernel
theorem dX12_instead_33 : decode cX12_instead 33 = .ok (.invokevirtual 400, 3) := by decide +kernel
theorem dX12_instead_36 : decode cX12_instead 36 = .ok (.istore_n 2, 1) := by decide +kernel
theorem dX12_instead_37 : decode cX12_instead 37 = .ok (.iconst 0, 1) := by decide +kernel
theorem dX12_instead_38 : decode cX12_instead 38 = .ok (.istore_n 3, 1) := by decide +kernel
theorem dX12_instead_39 : decode cX12_instead 39 = .ok (.iload_n 3, 1) := by decide +kernel
theorem dX12_instead_40 : decode cX12_instead 40 = .ok (.bipush 6, 2) := by decide +kernel
theorem dX12_instead_42 : decode cX12_instead 42 = .ok (.if_icmp .ge 21, 3) := by decide +kernel
theorem dX12_instead_45 : decode cX12_instead 45 = .ok (.aload_n 0, 1) := by decide +kernel
theorem dX12_instead_46 : decode cX12_instead 46 = .ok (.getfield 105, 3) := by decide +kernel
theorem dX12_instead_49 : decode cX12_instead 49 = .ok (.bipush 6, 2) := by decide +kernel
theorem dX12_instead_51 : decode cX12_instead 51 = .ok (.iload_n 1, 1) := by decide +kernel
theorem dX12_instead_52 : decode cX12_instead 52 = .ok (.imul, 1) := by decide +kernel
theorem dX12_instead_53 : decode cX12_instead 53 = .ok (.iload_n 3, 1) := by decide +kernel
theorem dX12_instead_54 : decode cX12_instead 54 = .ok (.iadd, 1) := by decide +kernel
theorem dX12_instead_55 : decode cX12_instead 55 = .ok (.iconst 0, 1) := by decide +kernel
theorem dX12_instead_56 : decode cX12_instead 56 = .ok (.iastore, 1) := by decide +kernel
theorem dX12_instead_57 : decode cX12_instead 57 = .ok (.iinc 3 1, 3) := by decide +kernel
theorem dX12_instead_60 : decode cX12_instead 60 = .ok (.goto (-21), 3) := by decide +kernel
theorem dX12_instead_63 : decode cX12_instead 63 = .ok (.aload_n 0, 1) := by decide +kernel
theorem dX12_instead_64 : decode cX12_instead 64 = .ok (.bipush 60, 2) := by decide +kernel
theorem dX12_instead_66 : decode cX12_instead 66 = .ok (.invokevirtual 424, 3) := by decide +kernel
theorem dX12_instead_69 : decode cX12_instead 69 = .ok (.iconst 0, 1) := by decide +kernel
theorem dX12_instead_70 : decode cX12_instead 70 = .ok (.istore_n 3, 1) := by decide +kernel
theorem dX12_instead_71 : decode cX12_instead 71 = .ok (.iconst 0, 1) := by decide +kernel
theorem dX12_instead_72 : decode cX12_instead 72 = .ok (.istore 4, 2) := by decide +kernel
theorem dX12_instead_74 : decode cX12_instead 74 = .ok (.iload 4, 2) := by decide +kernel
theorem dX12_instead_76 : decode cX12_instead 76 = .ok (.aload_n 0, 1) := by decide +kernel
theorem dX12_instead_77 : decode cX12_instead 77 = .ok (.getfield 48, 3) := by decide +kernel
theorem dX12_instead_80 : decode cX12_instead 80 = .ok (.iconst 1, 1) := by decide +kernel
theorem dX12_instead_81 : decode cX12_instead 81 = .ok (.iaload, 1) := by decide +kernel
theorem dX12_instead_82 : decode cX12_instead 82 = .ok (.if_icmp .ge 46, 3) := by decide +kernel
theorem dX12_instead_85 : decode cX12_instead 85 = .ok (.iload_n 3, 1) := by decide +kernel
theorem dX12_instead_86 : decode cX12_instead 86 = .ok (.iload_n 2, 1) := by decide +kernel
theorem dX12_instead_87 : decode cX12_instead 87 = .ok (.iload 4, 2) := by decide +kernel
theorem dX12_instead_89 : decode cX12_instead 89 = .ok (.invokestatic 447, 3) := by decide +kernel
theorem dX12_instead_92 : decode cX12_instead 92 = .ok (.ifCond .eq 27, 3) := by decide +kernel
theorem dX12_instead_95 : decode cX12_instead 95 = .ok (.aload_n 0, 1) := by decide +kernel
theorem dX12_instead_96 : decode cX12_instead 96 = .ok (.getfield 102, 3) := by decide +kernel
theorem dX12_instead_99 : decode cX12_instead 99 = .ok (.iload 4, 2) := by decide +kernel
theorem dX12_instead_101 : decode cX12_instead 101 = .ok (.iaload, 1) := by decide +kernel
theorem dX12_instead_102 : decode cX12_instead 102 = .ok (.aload_n 0, 1) := by decide +kernel
theorem dX12_instead_103 : decode cX12_instead 103 = .ok (.getfield 123, 3) := by decide +kernel
theorem dX12_instead_106 : decode cX12_instead 106 = .ok (.iload 4, 2) := by decide +kernel
theorem dX12_instead_108 : decode cX12_instead 108 = .ok (.iaload, 1) := by decide +kernel
theorem dX12_instead_109 : decode cX12_instead 109 = .ok (.if_icmp .eq 10, 3) := by decide +kernel
theorem dX12_instead_112 : decode cX12_instead 112 = .ok (.iconst 1, 1) := by decide +kernel
theorem dX12_instead_113 : decode cX12_instead 113 = .ok (.iload 4, 2) := by decide +kernel
theorem dX12_instead_115 : decode cX12_instead 115 = .ok (.ishl, 1) := by decide +kernel
theorem dX12_instead_116 : decode cX12_instead 116 = .ok (.goto 4, 3) := by decide +kernel
theorem dX12_instead_119 : decode cX12_instead 119 = .ok (.iconst 0, 1) := by decide +kernel
theorem dX12_instead_120 : decode cX12_instead 120 = .ok (.ior, 1) := by decide +kernel
theorem dX12_instead_121 : decode cX12_instead 121 = .ok (.istore_n 3, 1) := by decide +kernel
theorem dX12_instead_122 : decode cX12_instead 122 = .ok (.iinc 4 1, 3) := by decide +kernel
theorem dX12_instead_125 : decode cX12_instead 125 = .ok (.goto (-51), 3) := by decide +kernel
theorem dX12_instead_128 : decode cX12_instead 128 = .ok (.aload_n 0, 1) := by decide +kernel
theorem dX12_instead_129 : decode cX12_instead 129 = .ok (.aload_n 0, 1) := by decide +kernel
theorem dX12_instead_130 : decode cX12_instead 130 = .ok (.getfield 120, 3) := by decide +kernel
theorem dX12_instead_133 : decode cX12_instead 133 = .ok (.iconst 0, 1) := by decide +kernel
theorem dX12_instead_134 : decode cX12_instead 134 = .ok (.invokevirtual 433, 3) := by decide +kernel
theorem dX12_instead_137 : decode cX12_instead 137 = .ok (.iload_n 3, 1) := by decide +kernel
theorem dX12_instead_138 : decode cX12_instead 138 = .ok (.ireturn, 1) := by decide +kernel
theorem dX12_weightOn_0 : decode cX12_weightOn 0 = .ok (.aload_n 0, 1) := by decide +kernel
theorem dX12_weightOn_1 : decode cX12_weightOn 1 = .ok (.aload_n 0, 1) := by decide +kernel
theorem dX12_weightOn_2 : decode cX12_weightOn 2 = .ok (.getfield 120, 3) := by decide +kernel
theorem dX12_weightOn_5 : decode cX12_weightOn 5 = .ok (.iconst 0, 1) := by decide +kernel
theorem dX12_weightOn_6 : decode cX12_weightOn 6 = .ok (.invokevirtual 412, 3) := by decide +kernel
theorem dX12_weightOn_9 : decode cX12_weightOn 9 = .ok (.aload_n 0, 1) := by decide +kernel
theorem dX12_weightOn_10 : decode cX12_weightOn 10 = .ok (.getfield 96, 3) := by decide +kernel
theorem dX12_weightOn_13 : decode cX12_weightOn 13 = .ok (.iload_n 1, 1) := by decide +kernel
theorem dX12_weightOn_14 : decode cX12_weightOn 14 = .ok (.iload_n 2, 1) := by decide +kernel
theorem dX12_weightOn_15 : decode cX12_weightOn 15 = .ok (.iastore, 1) := by decide +kernel
theorem dX12_weightOn_16 : decode cX12_weightOn 16 = .ok (.aload_n 0, 1) := by decide +kernel
theorem dX12_weightOn_17 : decode cX12_weightOn 17 = .ok (.getfield 99, 3) := by decide +kernel
theorem dX12_weightOn_20 : decode cX12_weightOn 20 = .ok (.iload_n 1, 1) := by decide +kernel
theorem dX12_weightOn_21 : decode cX12_weightOn 21 = .ok (.iaload, 1) := by decide +kernel
theorem dX12_weightOn_22 : decode cX12_weightOn 22 = .ok (.iconst 1, 1) := by decide +kernel
theorem dX12_weightOn_23 : decode cX12_weightOn 23 = .ok (.if_icmp .ne 10, 3) := by decide +kernel
theorem dX12_weightOn_26 : decode cX12_weightOn 26 = .ok (.aload_n 0, 1) := by decide +kernel
theorem dX12_weightOn_27 : decode cX12_weightOn 27 = .ok (.invokevirtual 391, 3) := by decide +kernel
theorem dX12_weightOn_30 : decode cX12_weightOn 30 = .ok (.goto (-14), 3) := by decide +kernel
theorem dX12_weightOn_33 : decode cX12_weightOn 33 = .ok (.aload_n 0, 1) := by decide +kernel
theorem dX12_weightOn_34 : decode cX12_weightOn 34 = .ok (.getfield 117, 3) := by decide +kernel
theorem dX12_weightOn_37 : decode cX12_weightOn 37 = .ok (.iload_n 1, 1) := by decide +kernel
theorem dX12_weightOn_38 : decode cX12_weightOn 38 = .ok (.iaload, 1) := by decide +kernel
theorem dX12_weightOn_39 : decode cX12_weightOn 39 = .ok (.istore_n 3, 1) := by decide +kernel
theorem dX12_weightOn_40 : decode cX12_weightOn 40 = .ok (.aload_n 0, 1) := by decide +kernel
theorem dX12_weightOn_41 : decode cX12_weightOn 41 = .ok (.aload_n 0, 1) := by decide +kernel
theorem dX12_weightOn_42 : decode cX12_weightOn 42 = .ok (.getfield 120, 3) := by decide +kernel
theorem dX12_weightOn_45 : decode cX12_weightOn 45 = .ok (.iconst 0, 1) := by decide +kernel
theorem dX12_weightOn_46 : decode cX12_weightOn 46 = .ok (.invokevirtual 433, 3) := by decide +kernel
theorem dX12_weightOn_49 : decode cX12_weightOn 49 = .ok (.iload_n 3, 1) := by decide +kernel
theorem dX12_weightOn_50 : decode cX12_weightOn 50 = .ok (.ireturn, 1) := by decide +kernel
theorem dX12_bestDay_0 : decode cX12_bestDay 0 = .ok (.aload_n 0, 1) := by decide +kernel
theorem dX12_bestDay_1 : decode cX12_bestDay 1 = .ok (.iconst 0, 1) := by decide +kernel
theorem dX12_bestDay_2 : decode cX12_bestDay 2 = .ok (.putfield 184, 3) := by decide +kernel
theorem dX12_bestDay_5 : decode cX12_bestDay 5 = .ok (.aload_n 0, 1) := by decide +kernel
theorem dX12_bestDay_6 : decode cX12_bestDay 6 = .ok (.iload_n 1, 1) := by decide +kernel
theorem dX12_bestDay_7 : decode cX12_bestDay 7 = .ok (.invokevirtual 409, 3) := by decide +kernel
theorem dX12_bestDay_10 : decode cX12_bestDay 10 = .ok (.ifCond .eq 12, 3) := by decide +kernel
theorem dX12_bestDay_13 : decode cX12_bestDay 13 = .ok (.iload_n 2, 1) := by decide +kernel
theorem dX12_bestDay_14 : decode cX12_bestDay 14 = .ok (.ifCond .lt 8, 3) := by decide +kernel
theorem dX12_bestDay_17 : decode cX12_bestDay 17 = .ok (.iload_n 2, 1) := by decide +kernel
theorem dX12_bestDay_18 : decode cX12_bestDay 18 = .ok (.iconst 1, 1) := by decide +kernel
theorem dX12_bestDay_19 : decode cX12_bestDay 19 = .ok (.if_icmp .le 9, 3) := by decide +kernel
theorem dX12_bestDay_22 : decode cX12_bestDay 22 = .ok (.aload_n 0, 1) := by decide +kernel
theorem dX12_bestDay_23 : decode cX12_bestDay 23 = .ok (.iconst 1, 1) := by decide +kernel
theorem dX12_bestDay_24 : decode cX12_bestDay 24 = .ok (.invokevirtual 329, 3) := by decide +kernel
theorem dX12_bestDay_27 : decode cX12_bestDay 27 = .ok (.ireturn, 1) := by decide +kernel
theorem dX12_bestDay_28 : decode cX12_bestDay 28 = .ok (.aload_n 0, 1) := by decide +kernel
theorem dX12_bestDay_29 : decode cX12_bestDay 29 = .ok (.getfield 99, 3) := by decide +kernel
theorem dX12_bestDay_32 : decode cX12_bestDay 32 = .ok (.iload_n 1, 1) := by decide +kernel
theorem dX12_bestDay_33 : decode cX12_bestDay 33 = .ok (.iaload, 1) := by decide +kernel
theorem dX12_bestDay_34 : decode cX12_bestDay 34 = .ok (.ifCond .ne 5, 3) := by decide +kernel
theorem dX12_bestDay_37 : decode cX12_bestDay 37 = .ok (.iconst (-1), 1) := by decide +kernel
theorem dX12_bestDay_38 : decode cX12_bestDay 38 = .ok (.ireturn, 1) := by decide +kernel
theorem dX12_bestDay_39 : decode cX12_bestDay 39 = .ok (.iconst (-1), 1) := by decide +kernel
theorem dX12_bestDay_40 : decode cX12_bestDay 40 = .ok (.istore_n 3, 1) := by decide +kernel
theorem dX12_bestDay_41 : decode cX12_bestDay 41 = .ok (.iconst 0, 1) := by decide +kernel
theorem dX12_bestDay_42 : decode cX12_bestDay 42 = .ok (.istore 4, 2) := by decide +kernel
theorem dX12_bestDay_44 : decode cX12_bestDay 44 = .ok (.aload_n 0, 1) := by decide +kernel
theorem dX12_bestDay_45 : decode cX12_bestDay 45 = .ok (.getfield 342, 3) := by decide +kernel
theorem dX12_bestDay_48 : decode cX12_bestDay 48 = .ok (.istore 5, 2) := by decide +kernel
theorem dX12_bestDay_50 : decode cX12_bestDay 50 = .ok (.iload 5, 2) := by decide +kernel
theorem dX12_bestDay_52 : decode cX12_bestDay 52 = .ok (.sipush 999, 3) := by decide +kernel
theorem dX12_bestDay_55 : decode cX12_bestDay 55 = .ok (.aload_n 0, 1) := by decide +kernel
theorem dX12_bestDay_56 : decode cX12_bestDay 56 = .ok (.getfield 342, 3) := by decide +kernel
theorem dX12_bestDay_59 : decode cX12_bestDay 59 = .ok (.bipush 30, 2) := by decide +kernel
theorem dX12_bestDay_61 : decode cX12_bestDay 61 = .ok (.iadd, 1) := by decide +kernel
theorem dX12_bestDay_62 : decode cX12_bestDay 62 = .ok (.invokestatic 221, 3) := by decide +kernel
theorem dX12_bestDay_65 : decode cX12_bestDay 65 = .ok (.if_icmp .gt 35, 3) := by decide +kernel
theorem dX12_bestDay_68 : decode cX12_bestDay 68 = .ok (.aload_n 0, 1) := by decide +kernel
theorem dX12_bestDay_69 : decode cX12_bestDay 69 = .ok (.iload_n 1, 1) := by decide +kernel
theorem dX12_bestDay_70 : decode cX12_bestDay 70 = .ok (.iload 5, 2) := by decide +kernel
theorem dX12_bestDay_72 : decode cX12_bestDay 72 = .ok (.invokevirtual 450, 3) := by decide +kernel
theorem dX12_bestDay_75 : decode cX12_bestDay 75 = .ok (.istore 6, 2) := by decide +kernel
theorem dX12_bestDay_77 : decode cX12_bestDay 77 = .ok (.iload 6, 2) := by decide +kernel
theorem dX12_bestDay_79 : decode cX12_bestDay 79 = .ok (.iload 4, 2) := by decide +kernel
theorem dX12_bestDay_81 : decode cX12_bestDay 81 = .ok (.if_icmp .gt 6, 3) := by decide +kernel
theorem dX12_bestDay_84 : decode cX12_bestDay 84 = .ok (.goto 10, 3) := by decide +kernel
theorem dX12_bestDay_87 : decode cX12_bestDay 87 = .ok (.iload 5, 2) := by decide +kernel
theorem dX12_bestDay_89 : decode cX12_bestDay 89 = .ok (.istore_n 3, 1) := by decide +kernel
theorem dX12_bestDay_90 : decode cX12_bestDay 90 = .ok (.iload 6, 2) := by decide +kernel
theorem dX12_bestDay_92 : decode cX12_bestDay 92 = .ok (.istore 4, 2) := by decide +kernel
theorem dX12_bestDay_94 : decode cX12_bestDay 94 = .ok (.iinc 5 1, 3) := by decide +kernel
theorem dX12_bestDay_97 : decode cX12_bestDay 97 = .ok (.goto (-47), 3) := by decide +kernel
theorem dX12_bestDay_100 : decode cX12_bestDay 100 = .ok (.iload_n 2, 1) := by decide +kernel
theorem dX12_bestDay_101 : decode cX12_bestDay 101 = .ok (.ifCond .eq 8, 3) := by decide +kernel
theorem dX12_bestDay_104 : decode cX12_bestDay 104 = .ok (.iload_n 3, 1) := by decide +kernel
theorem dX12_bestDay_105 : decode cX12_bestDay 105 = .ok (.iconst (-1), 1) := by decide +kernel
theorem dX12_bestDay_106 : decode cX12_bestDay 106 = .ok (.if_icmp .ne 7, 3) := by decide +kernel
theorem dX12_bestDay_109 : decode cX12_bestDay 109 = .ok (.iload_n 3, 1) := by decide +kernel
theorem dX12_bestDay_110 : decode cX12_bestDay 110 = .ok (.goto 5, 3) := by decide +kernel
theorem dX12_bestDay_113 : decode cX12_bestDay 113 = .ok (.iload 4, 2) := by decide +kernel
theorem dX12_bestDay_115 : decode cX12_bestDay 115 = .ok (.ireturn, 1) := by decide +kernel
theorem dX12_with_0 : decode cX12_with 0 = .ok (.iload_n 3, 1) := by decide +kernel
theorem dX12_with_1 : decode cX12_with 1 = .ok (.iconst (-1), 1) := by decide +kernel
theorem dX12_with_2 : decode cX12_with 2 = .ok (.if_icmp .ne 17, 3) := by decide +kernel
theorem dX12_with_5 : decode cX12_with 5 = .ok (.aload_n 0, 1) := by decide +kernel
theorem dX12_with_6 : decode cX12_with 6 = .ok (.getfield 126, 3) := by decide +kernel
theorem dX12_with_9 : decode cX12_with 9 = .ok (.iload_n 1, 1) := by decide +kernel
theorem dX12_with_10 : decode cX12_with 10 = .ok (.iconst 1, 1) := by decide +kernel
theorem dX12_with_11 : decode cX12_with 11 = .ok (.iadd, 1) := by decide +kernel
theorem dX12_with_12 : decode cX12_with 12 = .ok (.bipush 9, 2) := by decide +kernel
theorem dX12_with_14 : decode cX12_with 14 = .ok (.ishl, 1) := by decide +kernel
theorem dX12_with_15 : decode cX12_with 15 = .ok (.iload_n 2, 1) := by decide +kernel
theorem dX12_with_16 : decode cX12_with 16 = .ok (.iadd, 1) := by decide +kernel
theorem dX12_with_17 : decode cX12_with 17 = .ok (.iaload, 1) := by decide +kernel
theorem dX12_with_18 : decode cX12_with 18 = .ok (.ireturn, 1) := by decide +kernel
theorem dX12_with_19 : decode cX12_with 19 = .ok (.aload_n 0, 1) := by decide +kernel
theorem dX12_with_20 : decode cX12_with 20 = .ok (.iload_n 3, 1) := by decide +kernel
theorem dX12_with_21 : decode cX12_with 21 = .ok (.iload_n 1, 1) := by decide +kernel
theorem dX12_with_22 : decode cX12_with 22 = .ok (.invokevirtual 376, 3) := by decide +kernel
theorem dX12_with_25 : decode cX12_with 25 = .ok (.aload_n 0, 1) := by decide +kernel
theorem dX12_with_26 : decode cX12_with 26 = .ok (.getfield 126, 3) := by decide +kernel
theorem dX12_with_29 : decode cX12_with 29 = .ok (.iload_n 1, 1) := by decide +kernel
theorem dX12_with_30 : decode cX12_with 30 = .ok (.iconst 1, 1) := by decide +kernel
theorem dX12_with_31 : decode cX12_with 31 = .ok (.iadd, 1) := by decide +kernel
theorem dX12_with_32 : decode cX12_with 32 = .ok (.bipush 9, 2) := by decide +kernel
theorem dX12_with_34 : decode cX12_with 34 = .ok (.ishl, 1) := by decide +kernel
theorem dX12_with_35 : decode cX12_with 35 = .ok (.iload_n 2, 1) := by decide +kernel
theorem dX12_with_36 : decode cX12_with 36 = .ok (.iconst 1, 1) := by decide +kernel
theorem dX12_with_37 : decode cX12_with 37 = .ok (.iload_n 3, 1) := by decide +kernel
theorem dX12_with_38 : decode cX12_with 38 = .ok (.ishl, 1) := by decide +kernel
theorem dX12_with_39 : decode cX12_with 39 = .ok (.ior, 1) := by decide +kernel
theorem dX12_with_40 : decode cX12_with 40 = .ok (.iadd, 1) := by decide +kernel
theorem dX12_with_41 : decode cX12_with 41 = .ok (.iaload, 1) := by decide +kernel
theorem dX12_with_42 : decode cX12_with 42 = .ok (.iadd, 1) := by decide +kernel
theorem dX12_with_43 : decode cX12_with 43 = .ok (.ireturn, 1) := by decide +kernel
theorem dX12_mayLead_0 : decode cX12_mayLead 0 = .ok (.aload_n 0, 1) := by decide +kernel
theorem dX12_mayLead_1 : decode cX12_mayLead 1 = .ok (.getfield 99, 3) := by decide +kernel
theorem dX12_mayLead_4 : decode cX12_mayLead 4 = .ok (.iload_n 1, 1) := by decide +kernel
theorem dX12_mayLead_5 : decode cX12_mayLead 5 = .ok (.iaload, 1) := by decide +kernel
theorem dX12_mayLead_6 : decode cX12_mayLead 6 = .ok (.iconst 1, 1) := by decide +kernel
theorem dX12_mayLead_7 : decode cX12_mayLead 7 = .ok (.if_icmp .ne 29, 3) := by decide +kernel
theorem dX12_mayLead_10 : decode cX12_mayLead 10 = .ok (.iload_n 2, 1) := by decide +kernel
theorem dX12_mayLead_11 : decode cX12_mayLead 11 = .ok (.iload_n 3, 1) := by decide +kernel
theorem dX12_mayLead_12 : decode cX12_mayLead 12 = .ok (.invokestatic 447, 3) := by decide +kernel
theorem dX12_mayLead_15 : decode cX12_mayLead 15 = .ok (.ifCond .ne 21, 3) := by decide +kernel
theorem dX12_mayLead_18 : decode cX12_mayLead 18 = .ok (.aload_n 0, 1) := by decide +kernel
theorem dX12_mayLead_19 : decode cX12_mayLead 19 = .ok (.getfield 105, 3) := by decide +kernel
theorem dX12_mayLead_22 : decode cX12_mayLead 22 = .ok (.bipush 6, 2) := by decide +kernel
theorem dX12_mayLead_24 : decode cX12_mayLead 24 = .ok (.iload_n 3, 1) := by decide +kernel
theorem dX12_mayLead_25 : decode cX12_mayLead 25 = .ok (.imul, 1) := by decide +kernel
theorem dX12_mayLead_26 : decode cX12_mayLead 26 = .ok (.iload_n 1, 1) := by decide +kernel
theorem dX12_mayLead_27 : decode cX12_mayLead 27 = .ok (.iadd, 1) := by decide +kernel
theorem dX12_mayLead_28 : decode cX12_mayLead 28 = .ok (.iaload, 1) := by decide +kernel
theorem dX12_mayLead_29 : decode cX12_mayLead 29 = .ok (.ifCond .le 7, 3) := by decide +kernel
theorem dX12_mayLead_32 : decode cX12_mayLead 32 = .ok (.iconst 1, 1) := by decide +kernel
theorem dX12_mayLead_33 : decode cX12_mayLead 33 = .ok (.goto 4, 3) := by decide +kernel
theorem dX12_mayLead_36 : decode cX12_mayLead 36 = .ok (.iconst 0, 1) := by decide +kernel
theorem dX12_mayLead_37 : decode cX12_mayLead 37 = .ok (.ireturn, 1) := by decide +kernel
theorem dX12_tellMost_0 : decode cX12_tellMost 0 = .ok (.iconst 1, 1) := by decide +kernel
theorem dX12_tellMost_1 : decode cX12_tellMost 1 = .ok (.aload_n 0, 1) := by decide +kernel
theorem dX12_tellMost_2 : decode cX12_tellMost 2 = .ok (.getfield 48, 3) := by decide +kernel
theorem dX12_tellMost_5 : decode cX12_tellMost 5 = .ok (.iconst 0, 1) := by decide +kernel
theorem dX12_tellMost_6 : decode cX12_tellMost 6 = .ok (.iaload, 1) := by decide +kernel
theorem dX12_tellMost_7 : decode cX12_tellMost 7 = .ok (.ishl, 1) := by decide +kernel
theorem dX12_tellMost_8 : decode cX12_tellMost 8 = .ok (.istore_n 1, 1) := by decide +kernel
theorem dX12_tellMost_9 : decode cX12_tellMost 9 = .ok (.iconst 0, 1) := by decide +kernel
theorem dX12_tellMost_10 : decode cX12_tellMost 10 = .ok (.istore_n 2, 1) := by decide +kernel
theorem dX12_tellMost_11 : decode cX12_tellMost 11 = .ok (.iload_n 2, 1) := by decide +kernel
theorem dX12_tellMost_12 : decode cX12_tellMost 12 = .ok (.iload_n 1, 1) := by decide +kernel
theorem dX12_tellMost_13 : decode cX12_tellMost 13 = .ok (.if_icmp .ge 26, 3) := by decide +kernel
theorem dX12_tellMost_16 : decode cX12_tellMost 16 = .ok (.aload_n 0, 1) := by decide +kernel
theorem dX12_tellMost_17 : decode cX12_tellMost 17 = .ok (.getfield 126, 3) := by decide +kernel
theorem dX12_tellMost_20 : decode cX12_tellMost 20 = .ok (.aload_n 0, 1) := by decide +kernel
theorem dX12_tellMost_21 : decode cX12_tellMost 21 = .ok (.getfield 48, 3) := by decide +kernel
theorem dX12_tellMost_24 : decode cX12_tellMost 24 = .ok (.iconst 1, 1) := by decide +kernel
theorem dX12_tellMost_25 : decode cX12_tellMost 25 = .ok (.iaload, 1) := by decide +kernel
theorem dX12_tellMost_26 : decode cX12_tellMost 26 = .ok (.bipush 9, 2) := by decide +kernel
theorem dX12_tellMost_28 : decode cX12_tellMost 28 = .ok (.ishl, 1) := by decide +kernel
theorem dX12_tellMost_29 : decode cX12_tellMost 29 = .ok (.iload_n 2, 1) := by decide +kernel
theorem dX12_tellMost_30 : decode cX12_tellMost 30 = .ok (.iadd, 1) := by decide +kernel
theorem dX12_tellMost_31 : decode cX12_tellMost 31 = .ok (.iconst 0, 1) := by decide +kernel
theorem dX12_tellMost_32 : decode cX12_tellMost 32 = .ok (.iastore, 1) := by decide +kernel
theorem dX12_tellMost_33 : decode cX12_tellMost 33 = .ok (.iinc 2 1, 3) := by decide +kernel
theorem dX12_tellMost_36 : decode cX12_tellMost 36 = .ok (.goto (-25), 3) := by decide +kernel
theorem dX12_tellMost_39 : decode cX12_tellMost 39 = .ok (.aload_n 0, 1) := by decide +kernel
theorem dX12_tellMost_40 : decode cX12_tellMost 40 = .ok (.getfield 48, 3) := by decide +kernel
theorem dX12_tellMost_43 : decode cX12_tellMost 43 = .ok (.iconst 1, 1) := by decide +kernel
theorem dX12_tellMost_44 : decode cX12_tellMost 44 = .ok (.iaload, 1) := by decide +kernel
theorem dX12_tellMost_45 : decode cX12_tellMost 45 = .ok (.iconst 1, 1) := by decide +kernel
theorem dX12_tellMost_46 : decode cX12_tellMost 46 = .ok (.isub, 1) := by decide +kernel
theorem dX12_tellMost_47 : decode cX12_tellMost 47 = .ok (.istore_n 2, 1) := by decide +kernel
theorem dX12_tellMost_48 : decode cX12_tellMost 48 = .ok (.iload_n 2, 1) := by decide +kernel
theorem dX12_tellMost_49 : decode cX12_tellMost 49 = .ok (.ifCond .lt 90, 3) := by decide +kernel
theorem dX12_tellMost_52 : decode cX12_tellMost 52 = .ok (.iconst 0, 1) := by decide +kernel
theorem dX12_tellMost_53 : decode cX12_tellMost 53 = .ok (.istore_n 3, 1) := by decide +kernel
theorem dX12_tellMost_54 : decode cX12_tellMost 54 = .ok (.iload_n 3, 1) := by decide +kernel
theorem dX12_tellMost_55 : decode cX12_tellMost 55 = .ok (.iload_n 1, 1) := by decide +kernel
theorem dX12_tellMost_56 : decode cX12_tellMost 56 = .ok (.if_icmp .ge 77, 3) := by decide +kernel
theorem dX12_tellMost_59 : decode cX12_tellMost 59 = .ok (.aload_n 0, 1) := by decide +kernel
theorem dX12_tellMost_60 : decode cX12_tellMost 60 = .ok (.iload_n 2, 1) := by decide +kernel
theorem dX12_tellMost_61 : decode cX12_tellMost 61 = .ok (.iload_n 3, 1) := by decide +kernel
theorem dX12_tellMost_62 : decode cX12_tellMost 62 = .ok (.iconst (-1), 1) := by decide +kernel
theorem dX12_tellMost_63 : decode cX12_tellMost 63 = .ok (.invokevirtual 453, 3) := by decide +kernel
theorem dX12_tellMost_66 : decode cX12_tellMost 66 = .ok (.istore 4, 2) := by decide +kernel
theorem dX12_tellMost_68 : decode cX12_tellMost 68 = .ok (.iconst 0, 1) := by decide +kernel
theorem dX12_tellMost_69 : decode cX12_tellMost 69 = .ok (.istore 5, 2) := by decide +kernel
theorem dX12_tellMost_71 : decode cX12_tellMost 71 = .ok (.iload 5, 2) := by decide +kernel
theorem dX12_tellMost_73 : decode cX12_tellMost 73 = .ok (.aload_n 0, 1) := by decide +kernel
theorem dX12_tellMost_74 : decode cX12_tellMost 74 = .ok (.getfield 48, 3) := by decide +kernel
theorem dX12_tellMost_77 : decode cX12_tellMost 77 = .ok (.iconst 0, 1) := by decide +kernel
theorem dX12_tellMost_78 : decode cX12_tellMost 78 = .ok (.iaload, 1) := by decide +kernel
theorem dX12_tellMost_79 : decode cX12_tellMost 79 = .ok (.if_icmp .ge 35, 3) := by decide +kernel
theorem dX12_tellMost_82 : decode cX12_tellMost 82 = .ok (.aload_n 0, 1) := by decide +kernel
theorem dX12_tellMost_83 : decode cX12_tellMost 83 = .ok (.iload_n 2, 1) := by decide +kernel
theorem dX12_tellMost_84 : decode cX12_tellMost 84 = .ok (.iload_n 3, 1) := by decide +kernel
theorem dX12_tellMost_85 : decode cX12_tellMost 85 = .ok (.iload 5, 2) := by decide +kernel
theorem dX12_tellMost_87 : decode cX12_tellMost 87 = .ok (.invokevirtual 456, 3) := by decide +kernel
theorem dX12_tellMost_90 : decode cX12_tellMost 90 = .ok (.ifCond .eq 18, 3) := by decide +kernel
theorem dX12_tellMost_93 : decode cX12_tellMost 93 = .ok (.iload 4, 2) := by decide +kernel
theorem dX12_tellMost_95 : decode cX12_tellMost 95 = .ok (.aload_n 0, 1) := by decide +kernel
theorem dX12_tellMost_96 : decode cX12_tellMost 96 = .ok (.iload_n 2, 1) := by decide +kernel
theorem dX12_tellMost_97 : decode cX12_tellMost 97 = .ok (.iload_n 3, 1) := by decide +kernel
theorem dX12_tellMost_98 : decode cX12_tellMost 98 = .ok (.iload 5, 2) := by decide +kernel
theorem dX12_tellMost_100 : decode cX12_tellMost 100 = .ok (.invokevirtual 453, 3) := by decide +kernel
theorem dX12_tellMost_103 : decode cX12_tellMost 103 = .ok (.invokestatic 366, 3) := by decide +kernel
theorem dX12_tellMost_106 : decode cX12_tellMost 106 = .ok (.istore 4, 2) := by decide +kernel
theorem dX12_tellMost_108 : decode cX12_tellMost 108 = .ok (.iinc 5 1, 3) := by decide +kernel
theorem dX12_tellMost_111 : decode cX12_tellMost 111 = .ok (.goto (-40), 3) := by decide +kernel
theorem dX12_tellMost_114 : decode cX12_tellMost 114 = .ok (.aload_n 0, 1) := by decide +kernel
theorem dX12_tellMost_115 : decode cX12_tellMost 115 = .ok (.getfield 126, 3) := by decide +kernel
theorem dX12_tellMost_118 : decode cX12_tellMost 118 = .ok (.iload_n 2, 1) := by decide +kernel
theorem dX12_tellMost_119 : decode cX12_tellMost 119 = .ok (.bipush 9, 2) := by decide +kernel
theorem dX12_tellMost_121 : decode cX12_tellMost 121 = .ok (.ishl, 1) := by decide +kernel
theorem dX12_tellMost_122 : decode cX12_tellMost 122 = .ok (.iload_n 3, 1) := by decide +kernel
theorem dX12_tellMost_123 : decode cX12_tellMost 123 = .ok (.iadd, 1) := by decide +kernel
theorem dX12_tellMost_124 : decode cX12_tellMost 124 = .ok (.iload 4, 2) := by decide +kernel
theorem dX12_tellMost_126 : decode cX12_tellMost 126 = .ok (.iastore, 1) := by decide +kernel
theorem dX12_tellMost_127 : decode cX12_tellMost 127 = .ok (.iinc 3 1, 3) := by decide +kernel
theorem dX12_tellMost_130 : decode cX12_tellMost 130 = .ok (.goto (-76), 3) := by decide +kernel
theorem dX12_tellMost_133 : decode cX12_tellMost 133 = .ok (.iinc 2 (-1), 3) := by decide +kernel
theorem dX12_tellMost_136 : decode cX12_tellMost 136 = .ok (.goto (-88), 3) := by decide +kernel
theorem dX12_tellMost_139 : decode cX12_tellMost 139 = .ok (.return_, 1) := by decide +kernel
theorem dX12_choice_0 : decode cX12_choice 0 = .ok (.aload_n 0, 1) := by decide +kernel
theorem dX12_choice_1 : decode cX12_choice 1 = .ok (.iconst 0, 1) := by decide +kernel
theorem dX12_choice_2 : decode cX12_choice 2 = .ok (.putfield 184, 3) := by decide +kernel
theorem dX12_choice_5 : decode cX12_choice 5 = .ok (.iload_n 1, 1) := by decide +kernel
theorem dX12_choice_6 : decode cX12_choice 6 = .ok (.i2l, 1) := by decide +kernel
theorem dX12_choice_7 : decode cX12_choice 7 = .ok (.ldc2_w 460, 3) := by decide +kernel
theorem dX12_choice_10 : decode cX12_choice 10 = .ok (.aload_n 0, 1) := by decide +kernel
theorem dX12_choice_11 : decode cX12_choice 11 = .ok (.getfield 48, 3) := by decide +kernel
theorem dX12_choice_14 : decode cX12_choice 14 = .ok (.iconst 1, 1) := by decide +kernel
theorem dX12_choice_15 : decode cX12_choice 15 = .ok (.iaload, 1) := by decide +kernel
theorem dX12_choice_16 : decode cX12_choice 16 = .ok (.iconst 1, 1) := by decide +kernel
theorem dX12_choice_17 : decode cX12_choice 17 = .ok (.isub, 1) := by decide +kernel
theorem dX12_choice_18 : decode cX12_choice 18 = .ok (.i2l, 1) := by decide +kernel
theorem dX12_choice_19 : decode cX12_choice 19 = .ok (.invokestatic 187, 3) := by decide +kernel
theorem dX12_choice_22 : decode cX12_choice 22 = .ok (.ifCond .ne 9, 3) := by decide +kernel
theorem dX12_choice_25 : decode cX12_choice 25 = .ok (.aload_n 0, 1) := by decide +kernel
theorem dX12_choice_26 : decode cX12_choice 26 = .ok (.iconst 1, 1) := by decide +kernel
theorem dX12_choice_27 : decode cX12_choice 27 = .ok (.invokevirtual 329, 3) := by decide +kernel
theorem dX12_choice_30 : decode cX12_choice 30 = .ok (.ireturn, 1) := by decide +kernel
theorem dX12_choice_31 : decode cX12_choice 31 = .ok (.aload_n 0, 1) := by decide +kernel
theorem dX12_choice_32 : decode cX12_choice 32 = .ok (.invokevirtual 462, 3) := by decide +kernel
theorem dX12_choice_35 : decode cX12_choice 35 = .ok (.iload_n 1, 1) := by decide +kernel
theorem dX12_choice_36 : decode cX12_choice 36 = .ok (.iconst (-1), 1) := by decide +kernel
theorem dX12_choice_37 : decode cX12_choice 37 = .ok (.if_icmp .ne 10, 3) := by decide +kernel
theorem dX12_choice_40 : decode cX12_choice 40 = .ok (.aload_n 0, 1) := by decide +kernel
theorem dX12_choice_41 : decode cX12_choice 41 = .ok (.getfield 126, 3) := by decide +kernel
theorem dX12_choice_44 : decode cX12_choice 44 = .ok (.iconst 0, 1) := by decide +kernel
theorem dX12_choice_45 : decode cX12_choice 45 = .ok (.iaload, 1) := by decide +kernel
theorem dX12_choice_46 : decode cX12_choice 46 = .ok (.ireturn, 1) := by decide +kernel
theorem dX12_choice_47 : decode cX12_choice 47 = .ok (.iconst 0, 1) := by decide +kernel
theorem dX12_choice_48 : decode cX12_choice 48 = .ok (.istore_n 2, 1) := by decide +kernel
theorem dX12_choice_49 : decode cX12_choice 49 = .ok (.iconst (-1), 1) := by decide +kernel
theorem dX12_choice_50 : decode cX12_choice 50 = .ok (.istore_n 3, 1) := by decide +kernel
theorem dX12_choice_51 : decode cX12_choice 51 = .ok (.iconst 0, 1) := by decide +kernel
theorem dX12_choice_52 : decode cX12_choice 52 = .ok (.istore 4, 2) := by decide +kernel
theorem dX12_choice_54 : decode cX12_choice 54 = .ok (.iload 4, 2) := by decide +kernel
theorem dX12_choice_56 : decode cX12_choice 56 = .ok (.iload_n 1, 1) := by decide +kernel
theorem dX12_choice_57 : decode cX12_choice 57 = .ok (.if_icmp .gt 86, 3) := by decide +kernel
theorem dX12_choice_60 : decode cX12_choice 60 = .ok (.iconst (-1), 1) := by decide +kernel
theorem dX12_choice_61 : decode cX12_choice 61 = .ok (.istore_n 3, 1) := by decide +kernel
theorem dX12_choice_62 : decode cX12_choice 62 = .ok (.aload_n 0, 1) := by decide +kernel
theorem dX12_choice_63 : decode cX12_choice 63 = .ok (.getfield 48, 3) := by decide +kernel
theorem dX12_choice_66 : decode cX12_choice 66 = .ok (.iconst 0, 1) := by decide +kernel
theorem dX12_choice_67 : decode cX12_choice 67 = .ok (.iaload, 1) := by decide +kernel
theorem dX12_choice_68 : decode cX12_choice 68 = .ok (.iconst 1, 1) := by decide +kernel
theorem dX12_choice_69 : decode cX12_choice 69 = .ok (.isub, 1) := by decide +kernel
theorem dX12_choice_70 : decode cX12_choice 70 = .ok (.istore 5, 2) := by decide +kernel
theorem dX12_choice_72 : decode cX12_choice 72 = .ok (.iload 5, 2) := by decide +kernel
theorem dX12_choice_74 : decode cX12_choice 74 = .ok (.ifCond .lt 48, 3) := by decide +kernel
theorem dX12_choice_77 : decode cX12_choice 77 = .ok (.aload_n 0, 1) := by decide +kernel
theorem dX12_choice_78 : decode cX12_choice 78 = .ok (.iload 4, 2) := by decide +kernel
theorem dX12_choice_80 : decode cX12_choice 80 = .ok (.iload_n 2, 1) := by decide +kernel
theorem dX12_choice_81 : decode cX12_choice 81 = .ok (.iload 5, 2) := by decide +kernel
theorem dX12_choice_83 : decode cX12_choice 83 = .ok (.invokevirtual 456, 3) := by decide +kernel
theorem dX12_choice_86 : decode cX12_choice 86 = .ok (.ifCond .eq 30, 3) := by decide +kernel
theorem dX12_choice_89 : decode cX12_choice 89 = .ok (.aload_n 0, 1) := by decide +kernel
theorem dX12_choice_90 : decode cX12_choice 90 = .ok (.iload 4, 2) := by decide +kernel
theorem dX12_choice_92 : decode cX12_choice 92 = .ok (.iload_n 2, 1) := by decide +kernel
theorem dX12_choice_93 : decode cX12_choice 93 = .ok (.iload 5, 2) := by decide +kernel
theorem dX12_choice_95 : decode cX12_choice 95 = .ok (.invokevirtual 453, 3) := by decide +kernel
theorem dX12_choice_98 : decode cX12_choice 98 = .ok (.aload_n 0, 1) := by decide +kernel
theorem dX12_choice_99 : decode cX12_choice 99 = .ok (.getfield 126, 3) := by decide +kernel
theorem dX12_choice_102 : decode cX12_choice 102 = .ok (.iload 4, 2) := by decide +kernel
theorem dX12_choice_104 : decode cX12_choice 104 = .ok (.bipush 9, 2) := by decide +kernel
theorem dX12_choice_106 : decode cX12_choice 106 = .ok (.ishl, 1) := by decide +kernel
theorem dX12_choice_107 : decode cX12_choice 107 = .ok (.iload_n 2, 1) := by decide +kernel
theorem dX12_choice_108 : decode cX12_choice 108 = .ok (.iadd, 1) := by decide +kernel
theorem dX12_choice_109 : decode cX12_choice 109 = .ok (.iaload, 1) := by decide +kernel
theorem dX12_choice_110 : decode cX12_choice 110 = .ok (.if_icmp .ne 6, 3) := by decide +kernel
theorem dX12_choice_113 : decode cX12_choice 113 = .ok (.iload 5, 2) := by decide +kernel
theorem dX12_choice_115 : decode cX12_choice 115 = .ok (.istore_n 3, 1) := by decide +kernel
theorem dX12_choice_116 : decode cX12_choice 116 = .ok (.iinc 5 (-1), 3) := by decide +kernel
theorem dX12_choice_119 : decode cX12_choice 119 = .ok (.goto (-47), 3) := by decide +kernel
theorem dX12_choice_122 : decode cX12_choice 122 = .ok (.iload_n 2, 1) := by decide +kernel
theorem dX12_choice_123 : decode cX12_choice 123 = .ok (.iload_n 3, 1) := by decide +kernel
theorem dX12_choice_124 : decode cX12_choice 124 = .ok (.iconst (-1), 1) := by decide +kernel
theorem dX12_choice_125 : decode cX12_choice 125 = .ok (.if_icmp .ne 7, 3) := by decide +kernel
theorem dX12_choice_128 : decode cX12_choice 128 = .ok (.iconst 0, 1) := by decide +kernel
theorem dX12_choice_129 : decode cX12_choice 129 = .ok (.goto 6, 3) := by decide +kernel
theorem dX12_choice_132 : decode cX12_choice 132 = .ok (.iconst 1, 1) := by decide +kernel
theorem dX12_choice_133 : decode cX12_choice 133 = .ok (.iload_n 3, 1) := by decide +kernel
theorem dX12_choice_134 : decode cX12_choice 134 = .ok (.ishl, 1) := by decide +kernel
theorem dX12_choice_135 : decode cX12_choice 135 = .ok (.ior, 1) := by decide +kernel
theorem dX12_choice_136 : decode cX12_choice 136 = .ok (.istore_n 2, 1) := by decide +kernel
theorem dX12_choice_137 : decode cX12_choice 137 = .ok (.iinc 4 1, 3) := by decide +kernel
theorem dX12_choice_140 : decode cX12_choice 140 = .ok (.goto (-86), 3) := by decide +kernel
theorem dX12_choice_143 : decode cX12_choice 143 = .ok (.iload_n 3, 1) := by decide +kernel
theorem dX12_choice_144 : decode cX12_choice 144 = .ok (.ireturn, 1) := by decide +kernel
theorem dX12_unloved_0 : decode cX12_unloved 0 = .ok (.aload_n 0, 1) := by decide +kernel
theorem dX12_unloved_1 : decode cX12_unloved 1 = .ok (.iconst 0, 1) := by decide +kernel
theorem dX12_unloved_2 : decode cX12_unloved 2 = .ok (.putfield 184, 3) := by decide +kernel
theorem dX12_unloved_5 : decode cX12_unloved 5 = .ok (.iconst 0, 1) := by decide +kernel
theorem dX12_unloved_6 : decode cX12_unloved 6 = .ok (.istore_n 1, 1) := by decide +kernel
theorem dX12_unloved_7 : decode cX12_unloved 7 = .ok (.iconst 0, 1) := by decide +kernel
theorem dX12_unloved_8 : decode cX12_unloved 8 = .ok (.istore_n 2, 1) := by decide +kernel
theorem dX12_unloved_9 : decode cX12_unloved 9 = .ok (.iload_n 2, 1) := by decide +kernel
theorem dX12_unloved_10 : decode cX12_unloved 10 = .ok (.aload_n 0, 1) := by decide +kernel
theorem dX12_unloved_11 : decode cX12_unloved 11 = .ok (.getfield 48, 3) := by decide +kernel
theorem dX12_unloved_14 : decode cX12_unloved 14 = .ok (.iconst 1, 1) := by decide +kernel
theorem dX12_unloved_15 : decode cX12_unloved 15 = .ok (.iaload, 1) := by decide +kernel
theorem dX12_unloved_16 : decode cX12_unloved 16 = .ok (.if_icmp .ge 37, 3) := by decide +kernel
theorem dX12_unloved_19 : decode cX12_unloved 19 = .ok (.iload_n 1, 1) := by decide +kernel
theorem dX12_unloved_20 : decode cX12_unloved 20 = .ok (.aload_n 0, 1) := by decide +kernel
theorem dX12_unloved_21 : decode cX12_unloved 21 = .ok (.getfield 99, 3) := by decide +kernel
theorem dX12_unloved_24 : decode cX12_unloved 24 = .ok (.iload_n 2, 1) := by decide +kernel
theorem dX12_unloved_25 : decode cX12_unloved 25 = .ok (.iaload, 1) := by decide +kernel
theorem dX12_unloved_26 : decode cX12_unloved 26 = .ok (.iconst 1, 1) := by decide +kernel
theorem dX12_unloved_27 : decode cX12_unloved 27 = .ok (.if_icmp .ne 17, 3) := by decide +kernel
theorem dX12_unloved_30 : decode cX12_unloved 30 = .ok (.aload_n 0, 1) := by decide +kernel
theorem dX12_unloved_31 : decode cX12_unloved 31 = .ok (.iload_n 2, 1) := by decide +kernel
theorem dX12_unloved_32 : decode cX12_unloved 32 = .ok (.invokevirtual 369, 3) := by decide +kernel
theorem dX12_unloved_35 : decode cX12_unloved 35 = .ok (.ifCond .ne 9, 3) := by decide +kernel
theorem dX12_unloved_38 : decode cX12_unloved 38 = .ok (.iconst 1, 1) := by decide +kernel
theorem dX12_unloved_39 : decode cX12_unloved 39 = .ok (.iload_n 2, 1) := by decide +kernel
theorem dX12_unloved_40 : decode cX12_unloved 40 = .ok (.ishl, 1) := by decide +kernel
theorem dX12_unloved_41 : decode cX12_unloved 41 = .ok (.goto 4, 3) := by decide +kernel
theorem dX12_unloved_44 : decode cX12_unloved 44 = .ok (.iconst 0, 1) := by decide +kernel
theorem dX12_unloved_45 : decode cX12_unloved 45 = .ok (.ior, 1) := by decide +kernel
theorem dX12_unloved_46 : decode cX12_unloved 46 = .ok (.istore_n 1, 1) := by decide +kernel
theorem dX12_unloved_47 : decode cX12_unloved 47 = .ok (.iinc 2 1, 3) := by decide +kernel
theorem dX12_unloved_50 : decode cX12_unloved 50 = .ok (.goto (-41), 3) := by decide +kernel
theorem dX12_unloved_53 : decode cX12_unloved 53 = .ok (.iload_n 1, 1) := by decide +kernel
theorem dX12_unloved_54 : decode cX12_unloved 54 = .ok (.ireturn, 1) := by decide +kernel
theorem dX12_weights_0 : decode cX12_weights 0 = .ok (.iconst 0, 1) := by decide +kernel
theorem dX12_weights_1 : decode cX12_weights 1 = .ok (.istore_n 3, 1) := by decide +kernel
theorem dX12_weights_2 : decode cX12_weights 2 = .ok (.iconst 0, 1) := by decide +kernel
theorem dX12_weights_3 : decode cX12_weights 3 = .ok (.istore 4, 2) := by decide +kernel
theorem dX12_weights_5 : decode cX12_weights 5 = .ok (.iload 4, 2) := by decide +kernel
theorem dX12_weights_7 : decode cX12_weights 7 = .ok (.aload_n 0, 1) := by decide +kernel
theorem dX12_weights_8 : decode cX12_weights 8 = .ok (.getfield 48, 3) := by decide +kernel
theorem dX12_weights_11 : decode cX12_weights 11 = .ok (.iconst 0, 1) := by decide +kernel
theorem dX12_weights_12 : decode cX12_weights 12 = .ok (.iaload, 1) := by decide +kernel
theorem dX12_weights_13 : decode cX12_weights 13 = .ok (.if_icmp .ge 32, 3) := by decide +kernel
theorem dX12_weights_16 : decode cX12_weights 16 = .ok (.iload_n 3, 1) := by decide +kernel
theorem dX12_weights_17 : decode cX12_weights 17 = .ok (.iload_n 1, 1) := by decide +kernel
theorem dX12_weights_18 : decode cX12_weights 18 = .ok (.iload 4, 2) := by decide +kernel
theorem dX12_weights_20 : decode cX12_weights 20 = .ok (.invokestatic 447, 3) := by decide +kernel
theorem dX12_weights_23 : decode cX12_weights 23 = .ok (.ifCond .eq 13, 3) := by decide +kernel
theorem dX12_weights_26 : decode cX12_weights 26 = .ok (.aload_n 0, 1) := by decide +kernel
theorem dX12_weights_27 : decode cX12_weights 27 = .ok (.iload 4, 2) := by decide +kernel
theorem dX12_weights_29 : decode cX12_weights 29 = .ok (.iload_n 2, 1) := by decide +kernel
theorem dX12_weights_30 : decode cX12_weights 30 = .ok (.invokevirtual 376, 3) := by decide +kernel
theorem dX12_weights_33 : decode cX12_weights 33 = .ok (.goto 4, 3) := by decide +kernel
theorem dX12_weights_36 : decode cX12_weights 36 = .ok (.iconst 0, 1) := by decide +kernel
theorem dX12_weights_37 : decode cX12_weights 37 = .ok (.iadd, 1) := by decide +kernel
theorem dX12_weights_38 : decode cX12_weights 38 = .ok (.istore_n 3, 1) := by decide +kernel
theorem dX12_weights_39 : decode cX12_weights 39 = .ok (.iinc 4 1, 3) := by decide +kernel
theorem dX12_weights_42 : decode cX12_weights 42 = .ok (.goto (-37), 3) := by decide +kernel
theorem dX12_weights_45 : decode cX12_weights 45 = .ok (.iload_n 3, 1) := by decide +kernel
theorem dX12_weights_46 : decode cX12_weights 46 = .ok (.ireturn, 1) := by decide +kernel
theorem dX12_tug_0 : decode cX12_tug 0 = .ok (.aload_n 0, 1) := by decide +kernel
theorem dX12_tug_1 : decode cX12_tug 1 = .ok (.iconst 0, 1) := by decide +kernel
theorem dX12_tug_2 : decode cX12_tug 2 = .ok (.putfield 184, 3) := by decide +kernel
theorem dX12_tug_5 : decode cX12_tug 5 = .ok (.aload_n 0, 1) := by decide +kernel
theorem dX12_tug_6 : decode cX12_tug 6 = .ok (.iload_n 1, 1) := by decide +kernel
theorem dX12_tug_7 : decode cX12_tug 7 = .ok (.invokevirtual 409, 3) := by decide +kernel
theorem dX12_tug_10 : decode cX12_tug 10 = .ok (.ifCond .ne 9, 3) := by decide +kernel
theorem dX12_tug_13 : decode cX12_tug 13 = .ok (.aload_n 0, 1) := by decide +kernel
theorem dX12_tug_14 : decode cX12_tug 14 = .ok (.iconst 1, 1) := by decide +kernel
theorem dX12_tug_15 : decode cX12_tug 15 = .ok (.invokevirtual 329, 3) := by decide +kernel
theorem dX12_tug_18 : decode cX12_tug 18 = .ok (.ireturn, 1) := by decide +kernel
theorem dX12_tug_19 : decode cX12_tug 19 = .ok (.aload_n 0, 1) := by decide +kernel
theorem dX12_tug_20 : decode cX12_tug 20 = .ok (.iload_n 1, 1) := by decide +kernel
theorem dX12_tug_21 : decode cX12_tug 21 = .ok (.invokevirtual 369, 3) := by decide +kernel
theorem dX12_tug_24 : decode cX12_tug 24 = .ok (.istore_n 2, 1) := by decide +kernel
theorem dX12_tug_25 : decode cX12_tug 25 = .ok (.aload_n 0, 1) := by decide +kernel
theorem dX12_tug_26 : decode cX12_tug 26 = .ok (.iload_n 2, 1) := by decide +kernel
theorem dX12_tug_27 : decode cX12_tug 27 = .ok (.iload_n 1, 1) := by decide +kernel
theorem dX12_tug_28 : decode cX12_tug 28 = .ok (.invokevirtual 465, 3) := by decide +kernel
theorem dX12_tug_31 : decode cX12_tug 31 = .ok (.istore_n 3, 1) := by decide +kernel
theorem dX12_tug_32 : decode cX12_tug 32 = .ok (.iconst (-1), 1) := by decide +kernel
theorem dX12_tug_33 : decode cX12_tug 33 = .ok (.istore 4, 2) := by decide +kernel
theorem dX12_tug_35 : decode cX12_tug 35 = .ok (.iconst 1, 1) := by decide +kernel
theorem dX12_tug_36 : decode cX12_tug 36 = .ok (.istore 5, 2) := by decide +kernel
theorem dX12_tug_38 : decode cX12_tug 38 = .ok (.iload 5, 2) := by decide +kernel
theorem dX12_tug_40 : decode cX12_tug 40 = .ok (.iload_n 2, 1) := by decide +kernel
theorem dX12_tug_41 : decode cX12_tug 41 = .ok (.if_icmp .gt 54, 3) := by decide +kernel
theorem dX12_tug_44 : decode cX12_tug 44 = .ok (.iload 5, 2) := by decide +kernel
theorem dX12_tug_46 : decode cX12_tug 46 = .ok (.iload_n 2, 1) := by decide +kernel
theorem dX12_tug_47 : decode cX12_tug 47 = .ok (.iconst (-1), 1) := by decide +kernel
theorem dX12_tug_48 : decode cX12_tug 48 = .ok (.ixor, 1) := by decide +kernel
theorem dX12_tug_49 : decode cX12_tug 49 = .ok (.iand, 1) := by decide +kernel
theorem dX12_tug_50 : decode cX12_tug 50 = .ok (.ifCond .ne 39, 3) := by decide +kernel
theorem dX12_tug_53 : decode cX12_tug 53 = .ok (.iconst 2, 1) := by decide +kernel
theorem dX12_tug_54 : decode cX12_tug 54 = .ok (.aload_n 0, 1) := by decide +kernel
theorem dX12_tug_55 : decode cX12_tug 55 = .ok (.iload 5, 2) := by decide +kernel
theorem dX12_tug_57 : decode cX12_tug 57 = .ok (.iload_n 1, 1) := by decide +kernel
theorem dX12_tug_58 : decode cX12_tug 58 = .ok (.invokevirtual 465, 3) := by decide +kernel
theorem dX12_tug_61 : decode cX12_tug 61 = .ok (.imul, 1) := by decide +kernel
theorem dX12_tug_62 : decode cX12_tug 62 = .ok (.iload_n 3, 1) := by decide +kernel
theorem dX12_tug_63 : decode cX12_tug 63 = .ok (.if_icmp .le 26, 3) := by decide +kernel
theorem dX12_tug_66 : decode cX12_tug 66 = .ok (.iload 4, 2) := by decide +kernel
theorem dX12_tug_68 : decode cX12_tug 68 = .ok (.iconst (-1), 1) := by decide +kernel
theorem dX12_tug_69 : decode cX12_tug 69 = .ok (.if_icmp .eq 16, 3) := by decide +kernel
theorem dX12_tug_72 : decode cX12_tug 72 = .ok (.iload 5, 2) := by decide +kernel
theorem dX12_tug_74 : decode cX12_tug 74 = .ok (.invokestatic 360, 3) := by decide +kernel
theorem dX12_tug_77 : decode cX12_tug 77 = .ok (.iload 4, 2) := by decide +kernel
theorem dX12_tug_79 : decode cX12_tug 79 = .ok (.invokestatic 360, 3) := by decide +kernel
theorem dX12_tug_82 : decode cX12_tug 82 = .ok (.if_icmp .ge 7, 3) := by decide +kernel
theorem dX12_tug_85 : decode cX12_tug 85 = .ok (.iload 5, 2) := by decide +kernel
theorem dX12_tug_87 : decode cX12_tug 87 = .ok (.istore 4, 2) := by decide +kernel
theorem dX12_tug_89 : decode cX12_tug 89 = .ok (.iinc 5 1, 3) := by decide +kernel
theorem dX12_tug_92 : decode cX12_tug 92 = .ok (.goto (-54), 3) := by decide +kernel
theorem dX12_tug_95 : decode cX12_tug 95 = .ok (.iload 4, 2) := by decide +kernel
theorem dX12_tug_97 : decode cX12_tug 97 = .ok (.ireturn, 1) := by decide +kernel
theorem dX12_decisive_0 : decode cX12_decisive 0 = .ok (.aload_n 0, 1) := by decide +kernel
theorem dX12_decisive_1 : decode cX12_decisive 1 = .ok (.iconst 0, 1) := by decide +kernel
theorem dX12_decisive_2 : decode cX12_decisive 2 = .ok (.putfield 184, 3) := by decide +kernel
theorem dX12_decisive_5 : decode cX12_decisive 5 = .ok (.aload_n 0, 1) := by decide +kernel
theorem dX12_decisive_6 : decode cX12_decisive 6 = .ok (.iload_n 1, 1) := by decide +kernel
theorem dX12_decisive_7 : decode cX12_decisive 7 = .ok (.invokevirtual 406, 3) := by decide +kernel
theorem dX12_decisive_10 : decode cX12_decisive 10 = .ok (.ifCond .eq 11, 3) := by decide +kernel
theorem dX12_decisive_13 : decode cX12_decisive 13 = .ok (.aload_n 0, 1) := by decide +kernel
theorem dX12_decisive_14 : decode cX12_decisive 14 = .ok (.iload_n 2, 1) := by decide +kernel
theorem dX12_decisive_15 : decode cX12_decisive 15 = .ok (.invokevirtual 409, 3) := by decide +kernel
theorem dX12_decisive_18 : decode cX12_decisive 18 = .ok (.ifCond .ne 9, 3) := by decide +kernel
theorem dX12_decisive_21 : decode cX12_decisive 21 = .ok (.aload_n 0, 1) := by decide +kernel
theorem dX12_decisive_22 : decode cX12_decisive 22 = .ok (.iconst 1, 1) := by decide +kernel
theorem dX12_decisive_23 : decode cX12_decisive 23 = .ok (.invokevirtual 329, 3) := by decide +kernel
theorem dX12_decisive_26 : decode cX12_decisive 26 = .ok (.ireturn, 1) := by decide +kernel
theorem dX12_decisive_27 : decode cX12_decisive 27 = .ok (.aload_n 0, 1) := by decide +kernel
theorem dX12_decisive_28 : decode cX12_decisive 28 = .ok (.iload_n 2, 1) := by decide +kernel
theorem dX12_decisive_29 : decode cX12_decisive 29 = .ok (.invokevirtual 369, 3) := by decide +kernel
theorem dX12_decisive_32 : decode cX12_decisive 32 = .ok (.istore_n 3, 1) := by decide +kernel
theorem dX12_decisive_33 : decode cX12_decisive 33 = .ok (.aload_n 0, 1) := by decide +kernel
theorem dX12_decisive_34 : decode cX12_decisive 34 = .ok (.iload_n 3, 1) := by decide +kernel
theorem dX12_decisive_35 : decode cX12_decisive 35 = .ok (.iload_n 2, 1) := by decide +kernel
theorem dX12_decisive_36 : decode cX12_decisive 36 = .ok (.invokevirtual 465, 3) := by decide +kernel
theorem dX12_decisive_39 : decode cX12_decisive 39 = .ok (.istore 4, 2) := by decide +kernel
theorem dX12_decisive_41 : decode cX12_decisive 41 = .ok (.iconst 0, 1) := by decide +kernel
theorem dX12_decisive_42 : decode cX12_decisive 42 = .ok (.istore 5, 2) := by decide +kernel
theorem dX12_decisive_44 : decode cX12_decisive 44 = .ok (.iconst 1, 1) := by decide +kernel
theorem dX12_decisive_45 : decode cX12_decisive 45 = .ok (.istore 6, 2) := by decide +kernel
theorem dX12_decisive_47 : decode cX12_decisive 47 = .ok (.iload 6, 2) := by decide +kernel
theorem dX12_decisive_49 : decode cX12_decisive 49 = .ok (.iload_n 3, 1) := by decide +kernel
theorem dX12_decisive_50 : decode cX12_decisive 50 = .ok (.if_icmp .gt 64, 3) := by decide +kernel
theorem dX12_decisive_53 : decode cX12_decisive 53 = .ok (.iload 6, 2) := by decide +kernel
theorem dX12_decisive_55 : decode cX12_decisive 55 = .ok (.iload_n 3, 1) := by decide +kernel
theorem dX12_decisive_56 : decode cX12_decisive 56 = .ok (.iconst (-1), 1) := by decide +kernel
theorem dX12_decisive_57 : decode cX12_decisive 57 = .ok (.ixor, 1) := by decide +kernel
theorem dX12_decisive_58 : decode cX12_decisive 58 = .ok (.iand, 1) := by decide +kernel
theorem dX12_decisive_59 : decode cX12_decisive 59 = .ok (.ifCond .ne 49, 3) := by decide +kernel
theorem dX12_decisive_62 : decode cX12_decisive 62 = .ok (.iload 6, 2) := by decide +kernel
theorem dX12_decisive_64 : decode cX12_decisive 64 = .ok (.iload_n 1, 1) := by decide +kernel
theorem dX12_decisive_65 : decode cX12_decisive 65 = .ok (.invokestatic 447, 3) := by decide +kernel
theorem dX12_decisive_68 : decode cX12_decisive 68 = .ok (.ifCond .eq 40, 3) := by decide +kernel
theorem dX12_decisive_71 : decode cX12_decisive 71 = .ok (.iconst 2, 1) := by decide +kernel
theorem dX12_decisive_72 : decode cX12_decisive 72 = .ok (.aload_n 0, 1) := by decide +kernel
theorem dX12_decisive_73 : decode cX12_decisive 73 = .ok (.iload 6, 2) := by decide +kernel
theorem dX12_decisive_75 : decode cX12_decisive 75 = .ok (.iload_n 2, 1) := by decide +kernel
theorem dX12_decisive_76 : decode cX12_decisive 76 = .ok (.invokevirtual 465, 3) := by decide +kernel
theorem dX12_decisive_79 : decode cX12_decisive 79 = .ok (.imul, 1) := by decide +kernel
theorem dX12_decisive_80 : decode cX12_decisive 80 = .ok (.iload 4, 2) := by decide +kernel
theorem dX12_decisive_82 : decode cX12_decisive 82 = .ok (.if_icmp .le 26, 3) := by decide +kernel
theorem dX12_decisive_85 : decode cX12_decisive 85 = .ok (.iconst 2, 1) := by decide +kernel
theorem dX12_decisive_86 : decode cX12_decisive 86 = .ok (.aload_n 0, 1) := by decide +kernel
theorem dX12_decisive_87 : decode cX12_decisive 87 = .ok (.iload 6, 2) := by decide +kernel
theorem dX12_decisive_89 : decode cX12_decisive 89 = .ok (.iconst 1, 1) := by decide +kernel
theorem dX12_decisive_90 : decode cX12_decisive 90 = .ok (.iload_n 1, 1) := by decide +kernel
theorem dX12_decisive_91 : decode cX12_decisive 91 = .ok (.ishl, 1) := by decide +kernel
theorem dX12_decisive_92 : decode cX12_decisive 92 = .ok (.iconst (-1), 1) := by decide +kernel
theorem dX12_decisive_93 : decode cX12_decisive 93 = .ok (.ixor, 1) := by decide +kernel
theorem dX12_decisive_94 : decode cX12_decisive 94 = .ok (.iand, 1) := by decide +kernel
theorem dX12_decisive_95 : decode cX12_decisive 95 = .ok (.iload_n 2, 1) := by decide +kernel
theorem dX12_decisive_96 : decode cX12_decisive 96 = .ok (.invokevirtual 465, 3) := by decide +kernel
theorem dX12_decisive_99 : decode cX12_decisive 99 = .ok (.imul, 1) := by decide +kernel
theorem dX12_decisive_100 : decode cX12_decisive 100 = .ok (.iload 4, 2) := by decide +kernel
theorem dX12_decisive_102 : decode cX12_decisive 102 = .ok (.if_icmp .gt 6, 3) := by decide +kernel
theorem dX12_decisive_105 : decode cX12_decisive 105 = .ok (.iinc 5 1, 3) := by decide +kernel
theorem dX12_decisive_108 : decode cX12_decisive 108 = .ok (.iinc 6 1, 3) := by decide +kernel
theorem dX12_decisive_111 : decode cX12_decisive 111 = .ok (.goto (-64), 3) := by decide +kernel
theorem dX12_decisive_114 : decode cX12_decisive 114 = .ok (.iload 5, 2) := by decide +kernel
theorem dX12_decisive_116 : decode cX12_decisive 116 = .ok (.ireturn, 1) := by decide +kernel
theorem dX12_steps_0 : decode cX12_steps 0 = .ok (.aload_n 0, 1) := by decide +kernel
theorem dX12_steps_1 : decode cX12_steps 1 = .ok (.iconst 0, 1) := by decide +kernel
theorem dX12_steps_2 : decode cX12_steps 2 = .ok (.putfield 184, 3) := by decide +kernel
theorem dX12_steps_5 : decode cX12_steps 5 = .ok (.aload_n 0, 1) := by decide +kernel
theorem dX12_steps_6 : decode cX12_steps 6 = .ok (.iload_n 1, 1) := by decide +kernel
theorem dX12_steps_7 : decode cX12_steps 7 = .ok (.invokevirtual 406, 3) := by decide +kernel
theorem dX12_steps_10 : decode cX12_steps 10 = .ok (.ifCond .eq 11, 3) := by decide +kernel
theorem dX12_steps_13 : decode cX12_steps 13 = .ok (.aload_n 0, 1) := by decide +kernel
theorem dX12_steps_14 : decode cX12_steps 14 = .ok (.iload_n 2, 1) := by decide +kernel
theorem dX12_steps_15 : decode cX12_steps 15 = .ok (.invokevirtual 406, 3) := by decide +kernel
theorem dX12_steps_18 : decode cX12_steps 18 = .ok (.ifCond .ne 9, 3) := by decide +kernel
theorem dX12_steps_21 : decode cX12_steps 21 = .ok (.aload_n 0, 1) := by decide +kernel
theorem dX12_steps_22 : decode cX12_steps 22 = .ok (.iconst 1, 1) := by decide +kernel
theorem dX12_steps_23 : decode cX12_steps 23 = .ok (.invokevirtual 329, 3) := by decide +kernel
theorem dX12_steps_26 : decode cX12_steps 26 = .ok (.ireturn, 1) := by decide +kernel
theorem dX12_steps_27 : decode cX12_steps 27 = .ok (.iconst 1, 1) := by decide +kernel
theorem dX12_steps_28 : decode cX12_steps 28 = .ok (.iload_n 1, 1) := by decide +kernel
theorem dX12_steps_29 : decode cX12_steps 29 = .ok (.ishl, 1) := by decide +kernel
theorem dX12_steps_30 : decode cX12_steps 30 = .ok (.istore_n 3, 1) := by decide +kernel
theorem dX12_steps_31 : decode cX12_steps 31 = .ok (.iconst 0, 1) := by decide +kernel
theorem dX12_steps_32 : decode cX12_steps 32 = .ok (.istore 4, 2) := by decide +kernel
theorem dX12_steps_34 : decode cX12_steps 34 = .ok (.iload 4, 2) := by decide +kernel
theorem dX12_steps_36 : decode cX12_steps 36 = .ok (.bipush 9, 2) := by decide +kernel
theorem dX12_steps_38 : decode cX12_steps 38 = .ok (.if_icmp .ge 100, 3) := by decide +kernel
theorem dX12_steps_41 : decode cX12_steps 41 = .ok (.iload_n 3, 1) := by decide +kernel
theorem dX12_steps_42 : decode cX12_steps 42 = .ok (.iload_n 2, 1) := by decide +kernel
theorem dX12_steps_43 : decode cX12_steps 43 = .ok (.invokestatic 447, 3) := by decide +kernel
theorem dX12_steps_46 : decode cX12_steps 46 = .ok (.ifCond .eq 6, 3) := by decide +kernel
theorem dX12_steps_49 : decode cX12_steps 49 = .ok (.iload 4, 2) := by decide +kernel
theorem dX12_steps_51 : decode cX12_steps 51 = .ok (.ireturn, 1) := by decide +kernel
theorem dX12_steps_52 : decode cX12_steps 52 = .ok (.iload_n 3, 1) := by decide +kernel
theorem dX12_steps_53 : decode cX12_steps 53 = .ok (.istore 5, 2) := by decide +kernel
theorem dX12_steps_55 : decode cX12_steps 55 = .ok (.iconst 0, 1) := by decide +kernel
theorem dX12_steps_56 : decode cX12_steps 56 = .ok (.istore 6, 2) := by decide +kernel
theorem dX12_steps_58 : decode cX12_steps 58 = .ok (.iload 6, 2) := by decide +kernel
theorem dX12_steps_60 : decode cX12_steps 60 = .ok (.aload_n 0, 1) := by decide +kernel
theorem dX12_steps_61 : decode cX12_steps 61 = .ok (.getfield 48, 3) := by decide +kernel
theorem dX12_steps_64 : decode cX12_steps 64 = .ok (.iconst 0, 1) := by decide +kernel
theorem dX12_steps_65 : decode cX12_steps 65 = .ok (.iaload, 1) := by decide +kernel
theorem dX12_steps_66 : decode cX12_steps 66 = .ok (.if_icmp .ge 63, 3) := by decide +kernel
theorem dX12_steps_69 : decode cX12_steps 69 = .ok (.iconst 0, 1) := by decide +kernel
theorem dX12_steps_70 : decode cX12_steps 70 = .ok (.istore 7, 2) := by decide +kernel
theorem dX12_steps_72 : decode cX12_steps 72 = .ok (.iload 7, 2) := by decide +kernel
theorem dX12_steps_74 : decode cX12_steps 74 = .ok (.aload_n 0, 1) := by decide +kernel
theorem dX12_steps_75 : decode cX12_steps 75 = .ok (.getfield 48, 3) := by decide +kernel
theorem dX12_steps_78 : decode cX12_steps 78 = .ok (.iconst 0, 1) := by decide +kernel
theorem dX12_steps_79 : decode cX12_steps 79 = .ok (.iaload, 1) := by decide +kernel
theorem dX12_steps_80 : decode cX12_steps 80 = .ok (.if_icmp .ge 43, 3) := by decide +kernel
theorem dX12_steps_83 : decode cX12_steps 83 = .ok (.iload_n 3, 1) := by decide +kernel
theorem dX12_steps_84 : decode cX12_steps 84 = .ok (.iload 6, 2) := by decide +kernel
theorem dX12_steps_86 : decode cX12_steps 86 = .ok (.invokestatic 447, 3) := by decide +kernel
theorem dX12_steps_89 : decode cX12_steps 89 = .ok (.ifCond .eq 28, 3) := by decide +kernel
theorem dX12_steps_92 : decode cX12_steps 92 = .ok (.aload_n 0, 1) := by decide +kernel
theorem dX12_steps_93 : decode cX12_steps 93 = .ok (.iload 6, 2) := by decide +kernel
theorem dX12_steps_95 : decode cX12_steps 95 = .ok (.invokevirtual 394, 3) := by decide +kernel
theorem dX12_steps_98 : decode cX12_steps 98 = .ok (.aload_n 0, 1) := by decide +kernel
theorem dX12_steps_99 : decode cX12_steps 99 = .ok (.iload 7, 2) := by decide +kernel
theorem dX12_steps_101 : decode cX12_steps 101 = .ok (.invokevirtual 394, 3) := by decide +kernel
theorem dX12_steps_104 : decode cX12_steps 104 = .ok (.iand, 1) := by decide +kernel
theorem dX12_steps_105 : decode cX12_steps 105 = .ok (.ifCond .eq 12, 3) := by decide +kernel
theorem dX12_steps_108 : decode cX12_steps 108 = .ok (.iload 5, 2) := by decide +kernel
theorem dX12_steps_110 : decode cX12_steps 110 = .ok (.iconst 1, 1) := by decide +kernel
theorem dX12_steps_111 : decode cX12_steps 111 = .ok (.iload 7, 2) := by decide +kernel
theorem dX12_steps_113 : decode cX12_steps 113 = .ok (.ishl, 1) := by decide +kernel
theorem dX12_steps_114 : decode cX12_steps 114 = .ok (.ior, 1) := by decide +kernel
theorem dX12_steps_115 : decode cX12_steps 115 = .ok (.istore 5, 2) := by decide +kernel
theorem dX12_steps_117 : decode cX12_steps 117 = .ok (.iinc 7 1, 3) := by decide +kernel
theorem dX12_steps_120 : decode cX12_steps 120 = .ok (.goto (-48), 3) := by decide +kernel
theorem dX12_steps_123 : decode cX12_steps 123 = .ok (.iinc 6 1, 3) := by decide +kernel
theorem dX12_steps_126 : decode cX12_steps 126 = .ok (.goto (-68), 3) := by decide +kernel
theorem dX12_steps_129 : decode cX12_steps 129 = .ok (.iload 5, 2) := by decide +kernel
theorem dX12_steps_131 : decode cX12_steps 131 = .ok (.istore_n 3, 1) := by decide +kernel
theorem dX12_steps_132 : decode cX12_steps 132 = .ok (.iinc 4 1, 3) := by decide +kernel
theorem dX12_steps_135 : decode cX12_steps 135 = .ok (.goto (-101), 3) := by decide +kernel
theorem dX12_steps_138 : decode cX12_steps 138 = .ok (.iconst (-1), 1) := by decide +kernel
theorem dX12_steps_139 : decode cX12_steps 139 = .ok (.ireturn, 1) := by decide +kernel
theorem dX12_busiest_0 : decode cX12_busiest 0 = .ok (.aload_n 0, 1) := by decide +kernel
theorem dX12_busiest_1 : decode cX12_busiest 1 = .ok (.iconst 0, 1) := by decide +kernel
theorem dX12_busiest_2 : decode cX12_busiest 2 = .ok (.putfield 184, 3) := by decide +kernel
theorem dX12_busiest_5 : decode cX12_busiest 5 = .ok (.iload_n 1, 1) := by decide +kernel
theorem dX12_busiest_6 : decode cX12_busiest 6 = .ok (.i2l, 1) := by decide +kernel
theorem dX12_busiest_7 : decode cX12_busiest 7 = .ok (.lconst 0, 1) := by decide +kernel
theorem dX12_busiest_8 : decode cX12_busiest 8 = .ok (.ldc2_w 439, 3) := by decide +kernel
theorem dX12_busiest_11 : decode cX12_busiest 11 = .ok (.invokestatic 187, 3) := by decide +kernel
theorem dX12_busiest_14 : decode cX12_busiest 14 = .ok (.ifCond .ne 9, 3) := by decide +kernel
theorem dX12_busiest_17 : decode cX12_busiest 17 = .ok (.aload_n 0, 1) := by decide +kernel
theorem dX12_busiest_18 : decode cX12_busiest 18 = .ok (.iconst 1, 1) := by decide +kernel
theorem dX12_busiest_19 : decode cX12_busiest 19 = .ok (.invokevirtual 329, 3) := by decide +kernel
theorem dX12_busiest_22 : decode cX12_busiest 22 = .ok (.ireturn, 1) := by decide +kernel
theorem dX12_busiest_23 : decode cX12_busiest 23 = .ok (.iconst (-1), 1) := by decide +kernel
theorem dX12_busiest_24 : decode cX12_busiest 24 = .ok (.istore_n 2, 1) := by decide +kernel
theorem dX12_busiest_25 : decode cX12_busiest 25 = .ok (.iconst 0, 1) := by decide +kernel
theorem dX12_busiest_26 : decode cX12_busiest 26 = .ok (.istore_n 3, 1) := by decide +kernel
theorem dX12_busiest_27 : decode cX12_busiest 27 = .ok (.iconst 0, 1) := by decide +kernel
theorem dX12_busiest_28 : decode cX12_busiest 28 = .ok (.istore 4, 2) := by decide +kernel
theorem dX12_busiest_30 : decode cX12_busiest 30 = .ok (.iload 4, 2) := by decide +kernel
theorem dX12_busiest_32 : decode cX12_busiest 32 = .ok (.aload_n 0, 1) := by decide +kernel
theorem dX12_busiest_33 : decode cX12_busiest 33 = .ok (.getfield 48, 3) := by decide +kernel
theorem dX12_busiest_36 : decode cX12_busiest 36 = .ok (.iconst 0, 1) := by decide +kernel
theorem dX12_busiest_37 : decode cX12_busiest 37 = .ok (.iaload, 1) := by decide +kernel
theorem dX12_busiest_38 : decode cX12_busiest 38 = .ok (.if_icmp .ge 33, 3) := by decide +kernel
theorem dX12_busiest_41 : decode cX12_busiest 41 = .ok (.aload_n 0, 1) := by decide +kernel
theorem dX12_busiest_42 : decode cX12_busiest 42 = .ok (.iload 4, 2) := by decide +kernel
theorem dX12_busiest_44 : decode cX12_busiest 44 = .ok (.iload_n 1, 1) := by decide +kernel
theorem dX12_busiest_45 : decode cX12_busiest 45 = .ok (.invokevirtual 441, 3) := by decide +kernel
theorem dX12_busiest_48 : decode cX12_busiest 48 = .ok (.istore 5, 2) := by decide +kernel
theorem dX12_busiest_50 : decode cX12_busiest 50 = .ok (.iload 5, 2) := by decide +kernel
theorem dX12_busiest_52 : decode cX12_busiest 52 = .ok (.iload_n 3, 1) := by decide +kernel
theorem dX12_busiest_53 : decode cX12_busiest 53 = .ok (.if_icmp .gt 6, 3) := by decide +kernel
theorem dX12_busiest_56 : decode cX12_busiest 56 = .ok (.goto 9, 3) := by decide +kernel
theorem dX12_busiest_59 : decode cX12_busiest 59 = .ok (.iload 4, 2) := by decide +kernel
theorem dX12_busiest_61 : decode cX12_busiest 61 = .ok (.istore_n 2, 1) := by decide +kernel
theorem dX12_busiest_62 : decode cX12_busiest 62 = .ok (.iload 5, 2) := by decide +kernel
theorem dX12_busiest_64 : decode cX12_busiest 64 = .ok (.istore_n 3, 1) := by decide +kernel
theorem dX12_busiest_65 : decode cX12_busiest 65 = .ok (.iinc 4 1, 3) := by decide +kernel
theorem dX12_busiest_68 : decode cX12_busiest 68 = .ok (.goto (-38), 3) := by decide +kernel
theorem dX12_busiest_71 : decode cX12_busiest 71 = .ok (.iload_n 2, 1) := by decide +kernel
theorem dX12_busiest_72 : decode cX12_busiest 72 = .ok (.ireturn, 1) := by decide +kernel
theorem dX12_crowd_0 : decode cX12_crowd 0 = .ok (.aload_n 0, 1) := by decide +kernel
theorem dX12_crowd_1 : decode cX12_crowd 1 = .ok (.iconst 0, 1) := by decide +kernel
theorem dX12_crowd_2 : decode cX12_crowd 2 = .ok (.putfield 184, 3) := by decide +kernel
theorem dX12_crowd_5 : decode cX12_crowd 5 = .ok (.iload_n 1, 1) := by decide +kernel
theorem dX12_crowd_6 : decode cX12_crowd 6 = .ok (.ifCond .lt 8, 3) := by decide +kernel
theorem dX12_crowd_9 : decode cX12_crowd 9 = .ok (.iload_n 1, 1) := by decide +kernel
theorem dX12_crowd_10 : decode cX12_crowd 10 = .ok (.iconst 1, 1) := by decide +kernel
theorem dX12_crowd_11 : decode cX12_crowd 11 = .ok (.if_icmp .le 9, 3) := by decide +kernel
theorem dX12_crowd_14 : decode cX12_crowd 14 = .ok (.aload_n 0, 1) := by decide +kernel
theorem dX12_crowd_15 : decode cX12_crowd 15 = .ok (.iconst 1, 1) := by decide +kernel
theorem dX12_crowd_16 : decode cX12_crowd 16 = .ok (.invokevirtual 329, 3) := by decide +kernel
theorem dX12_crowd_19 : decode cX12_crowd 19 = .ok (.ireturn, 1) := by decide +kernel
theorem dX12_crowd_20 : decode cX12_crowd 20 = .ok (.iconst (-1), 1) := by decide +kernel
theorem dX12_crowd_21 : decode cX12_crowd 21 = .ok (.istore_n 2, 1) := by decide +kernel
theorem dX12_crowd_22 : decode cX12_crowd 22 = .ok (.iconst 0, 1) := by decide +kernel
theorem dX12_crowd_23 : decode cX12_crowd 23 = .ok (.istore_n 3, 1) := by decide +kernel
theorem dX12_crowd_24 : decode cX12_crowd 24 = .ok (.iconst 0, 1) := by decide +kernel
theorem dX12_crowd_25 : decode cX12_crowd 25 = .ok (.istore 4, 2) := by decide +kernel
theorem dX12_crowd_27 : decode cX12_crowd 27 = .ok (.iload 4, 2) := by decide +kernel
theorem dX12_crowd_29 : decode cX12_crowd 29 = .ok (.aload_n 0, 1) := by decide +kernel
theorem dX12_crowd_30 : decode cX12_crowd 30 = .ok (.getfield 48, 3) := by decide +kernel
theorem dX12_crowd_33 : decode cX12_crowd 33 = .ok (.iconst 1, 1) := by decide +kernel
theorem dX12_crowd_34 : decode cX12_crowd 34 = .ok (.iaload, 1) := by decide +kernel
theorem dX12_crowd_35 : decode cX12_crowd 35 = .ok (.if_icmp .ge 123, 3) := by decide +kernel
theorem dX12_crowd_38 : decode cX12_crowd 38 = .ok (.iconst 0, 1) := by decide +kernel
theorem dX12_crowd_39 : decode cX12_crowd 39 = .ok (.istore 5, 2) := by decide +kernel
theorem dX12_crowd_41 : decode cX12_crowd 41 = .ok (.iconst 0, 1) := by decide +kernel
theorem dX12_crowd_42 : decode cX12_crowd 42 = .ok (.istore 6, 2) := by decide +kernel
theorem dX12_crowd_44 : decode cX12_crowd 44 = .ok (.iload 6, 2) := by decide +kernel
theorem dX12_crowd_46 : decode cX12_crowd 46 = .ok (.aload_n 0, 1) := by decide +kernel
theorem dX12_crowd_47 : decode cX12_crowd 47 = .ok (.getfield 48, 3) := by decide +kernel
theorem dX12_crowd_50 : decode cX12_crowd 50 = .ok (.iconst 1, 1) := by decide +kernel
theorem dX12_crowd_51 : decode cX12_crowd 51 = .ok (.iaload, 1) := by decide +kernel
theorem dX12_crowd_52 : decode cX12_crowd 52 = .ok (.if_icmp .ge 58, 3) := by decide +kernel
theorem dX12_crowd_55 : decode cX12_crowd 55 = .ok (.iload 5, 2) := by decide +kernel
theorem dX12_crowd_57 : decode cX12_crowd 57 = .ok (.aload_n 0, 1) := by decide +kernel
theorem dX12_crowd_58 : decode cX12_crowd 58 = .ok (.getfield 99, 3) := by decide +kernel
theorem dX12_crowd_61 : decode cX12_crowd 61 = .ok (.iload 4, 2) := by decide +kernel
theorem dX12_crowd_63 : decode cX12_crowd 63 = .ok (.iaload, 1) := by decide +kernel
theorem dX12_crowd_64 : decode cX12_crowd 64 = .ok (.iconst 1, 1) := by decide +kernel
theorem dX12_crowd_65 : decode cX12_crowd 65 = .ok (.if_icmp .ne 35, 3) := by decide +kernel
theorem dX12_crowd_68 : decode cX12_crowd 68 = .ok (.aload_n 0, 1) := by decide +kernel
theorem dX12_crowd_69 : decode cX12_crowd 69 = .ok (.getfield 99, 3) := by decide +kernel
theorem dX12_crowd_72 : decode cX12_crowd 72 = .ok (.iload 6, 2) := by decide +kernel
theorem dX12_crowd_74 : decode cX12_crowd 74 = .ok (.iaload, 1) := by decide +kernel
theorem dX12_crowd_75 : decode cX12_crowd 75 = .ok (.iconst 1, 1) := by decide +kernel
theorem dX12_crowd_76 : decode cX12_crowd 76 = .ok (.if_icmp .ne 24, 3) := by decide +kernel
theorem dX12_crowd_79 : decode cX12_crowd 79 = .ok (.aload_n 0, 1) := by decide +kernel
theorem dX12_crowd_80 : decode cX12_crowd 80 = .ok (.getfield 96, 3) := by decide +kernel
theorem dX12_crowd_83 : decode cX12_crowd 83 = .ok (.iload 6, 2) := by decide +kernel
theorem dX12_crowd_85 : decode cX12_crowd 85 = .ok (.iaload, 1) := by decide +kernel
theorem dX12_crowd_86 : decode cX12_crowd 86 = .ok (.aload_n 0, 1) := by decide +kernel
theorem dX12_crowd_87 : decode cX12_crowd 87 = .ok (.getfield 96, 3) := by decide +kernel
theorem dX12_crowd_90 : decode cX12_crowd 90 = .ok (.iload 4, 2) := by decide +kernel
theorem dX12_crowd_92 : decode cX12_crowd 92 = .ok (.iaload, 1) := by decide +kernel
theorem dX12_crowd_93 : decode cX12_crowd 93 = .ok (.if_icmp .ne 7, 3) := by decide +kernel
theorem dX12_crowd_96 : decode cX12_crowd 96 = .ok (.iconst 1, 1) := by decide +kernel
theorem dX12_crowd_97 : decode cX12_crowd 97 = .ok (.goto 4, 3) := by decide +kernel
theorem dX12_crowd_100 : decode cX12_crowd 100 = .ok (.iconst 0, 1) := by decide +kernel
theorem dX12_crowd_101 : decode cX12_crowd 101 = .ok (.iadd, 1) := by decide +kernel
theorem dX12_crowd_102 : decode cX12_crowd 102 = .ok (.istore 5, 2) := by decide +kernel
theorem dX12_crowd_104 : decode cX12_crowd 104 = .ok (.iinc 6 1, 3) := by decide +kernel
theorem dX12_crowd_107 : decode cX12_crowd 107 = .ok (.goto (-63), 3) := by decide +kernel
theorem dX12_crowd_110 : decode cX12_crowd 110 = .ok (.iload 5, 2) := by decide +kernel
theorem dX12_crowd_112 : decode cX12_crowd 112 = .ok (.iload_n 3, 1) := by decide +kernel
theorem dX12_crowd_113 : decode cX12_crowd 113 = .ok (.if_icmp .lt 39, 3) := by decide +kernel
theorem dX12_crowd_116 : decode cX12_crowd 116 = .ok (.iload 5, 2) := by decide +kernel
theorem dX12_crowd_118 : decode cX12_crowd 118 = .ok (.ifCond .eq 34, 3) := by decide +kernel
theorem dX12_crowd_121 : decode cX12_crowd 121 = .ok (.iload 5, 2) := by decide +kernel
theorem dX12_crowd_123 : decode cX12_crowd 123 = .ok (.iload_n 3, 1) := by decide +kernel
theorem dX12_crowd_124 : decode cX12_crowd 124 = .ok (.if_icmp .ne 17, 3) := by decide +kernel
theorem dX12_crowd_127 : decode cX12_crowd 127 = .ok (.aload_n 0, 1) := by decide +kernel
theorem dX12_crowd_128 : decode cX12_crowd 128 = .ok (.getfield 96, 3) := by decide +kernel
theorem dX12_crowd_131 : decode cX12_crowd 131 = .ok (.iload 4, 2) := by decide +kernel
theorem dX12_crowd_133 : decode cX12_crowd 133 = .ok (.iaload, 1) := by decide +kernel
theorem dX12_crowd_134 : decode cX12_crowd 134 = .ok (.iload_n 2, 1) := by decide +kernel
theorem dX12_crowd_135 : decode cX12_crowd 135 = .ok (.if_icmp .lt 6, 3) := by decide +kernel
theorem dX12_crowd_138 : decode cX12_crowd 138 = .ok (.goto 14, 3) := by decide +kernel
theorem dX12_crowd_141 : decode cX12_crowd 141 = .ok (.aload_n 0, 1) := by decide +kernel
theorem dX12_crowd_142 : decode cX12_crowd 142 = .ok (.getfield 96, 3) := by decide +kernel
theorem dX12_crowd_145 : decode cX12_crowd 145 = .ok (.iload 4, 2) := by decide +kernel
theorem dX12_crowd_147 : decode cX12_crowd 147 = .ok (.iaload, 1) := by decide +kernel
theorem dX12_crowd_148 : decode cX12_crowd 148 = .ok (.istore_n 2, 1) := by decide +kernel
theorem dX12_crowd_149 : decode cX12_crowd 149 = .ok (.iload 5, 2) := by decide +kernel
theorem dX12_crowd_151 : decode cX12_crowd 151 = .ok (.istore_n 3, 1) := by decide +kernel
theorem dX12_crowd_152 : decode cX12_crowd 152 = .ok (.iinc 4 1, 3) := by decide +kernel
theorem dX12_crowd_155 : decode cX12_crowd 155 = .ok (.goto (-128), 3) := by decide +kernel
theorem dX12_crowd_158 : decode cX12_crowd 158 = .ok (.iload_n 1, 1) := by decide +kernel
theorem dX12_crowd_159 : decode cX12_crowd 159 = .ok (.ifCond .ne 7, 3) := by decide +kernel
theorem dX12_crowd_162 : decode cX12_crowd 162 = .ok (.iload_n 2, 1) := by decide +kernel
theorem dX12_crowd_163 : decode cX12_crowd 163 = .ok (.goto 4, 3) := by decide +kernel
theorem dX12_crowd_166 : decode cX12_crowd 166 = .ok (.iload_n 3, 1) := by decide +kernel
theorem dX12_crowd_167 : decode cX12_crowd 167 = .ok (.ireturn, 1) := by decide +kernel
theorem dX12_common_0 : decode cX12_common 0 = .ok (.aload_n 0, 1) := by decide +kernel
theorem dX12_common_1 : decode cX12_common 1 = .ok (.iconst 0, 1) := by decide +kernel
theorem dX12_common_2 : decode cX12_common 2 = .ok (.putfield 184, 3) := by decide +kernel
theorem dX12_common_5 : decode cX12_common 5 = .ok (.aload_n 0, 1) := by decide +kernel
theorem dX12_common_6 : decode cX12_common 6 = .ok (.iload_n 1, 1) := by decide +kernel
theorem dX12_common_7 : decode cX12_common 7 = .ok (.invokevirtual 406, 3) := by decide +kernel
theorem dX12_common_10 : decode cX12_common 10 = .ok (.ifCond .eq 25, 3) := by decide +kernel
theorem dX12_common_13 : decode cX12_common 13 = .ok (.aload_n 0, 1) := by decide +kernel
theorem dX12_common_14 : decode cX12_common 14 = .ok (.iload_n 2, 1) := by decide +kernel
theorem dX12_common_15 : decode cX12_common 15 = .ok (.invokevirtual 406, 3) := by decide +kernel
theorem dX12_common_18 : decode cX12_common 18 = .ok (.ifCond .eq 17, 3) := by decide +kernel
theorem dX12_common_21 : decode cX12_common 21 = .ok (.aload_n 0, 1) := by decide +kernel
theorem dX12_common_22 : decode cX12_common 22 = .ok (.iload_n 1, 1) := by decide +kernel
theorem dX12_common_23 : decode cX12_common 23 = .ok (.invokevirtual 394, 3) := by decide +kernel
theorem dX12_common_26 : decode cX12_common 26 = .ok (.aload_n 0, 1) := by decide +kernel
theorem dX12_common_27 : decode cX12_common 27 = .ok (.iload_n 2, 1) := by decide +kernel
theorem dX12_common_28 : decode cX12_common 28 = .ok (.invokevirtual 394, 3) := by decide +kernel
theorem dX12_common_31 : decode cX12_common 31 = .ok (.iand, 1) := by decide +kernel
theorem dX12_common_32 : decode cX12_common 32 = .ok (.goto 8, 3) := by decide +kernel
theorem dX12_common_35 : decode cX12_common 35 = .ok (.aload_n 0, 1) := by decide +kernel
theorem dX12_common_36 : decode cX12_common 36 = .ok (.iconst 1, 1) := by decide +kernel
theorem dX12_common_37 : decode cX12_common 37 = .ok (.invokevirtual 329, 3) := by decide +kernel
theorem dX12_common_40 : decode cX12_common 40 = .ok (.ireturn, 1) := by decide +kernel
theorem dX12_see_0 : decode cX12_see 0 = .ok (.aload_n 0, 1) := by decide +kernel
theorem dX12_see_1 : decode cX12_see 1 = .ok (.iconst 0, 1) := by decide +kernel
theorem dX12_see_2 : decode cX12_see 2 = .ok (.putfield 184, 3) := by decide +kernel
theorem dX12_see_5 : decode cX12_see 5 = .ok (.aload_n 0, 1) := by decide +kernel
theorem dX12_see_6 : decode cX12_see 6 = .ok (.iload_n 1, 1) := by decide +kernel
theorem dX12_see_7 : decode cX12_see 7 = .ok (.invokevirtual 409, 3) := by decide +kernel
theorem dX12_see_10 : decode cX12_see 10 = .ok (.ifCond .eq 20, 3) := by decide +kernel
theorem dX12_see_13 : decode cX12_see 13 = .ok (.aload_n 0, 1) := by decide +kernel
theorem dX12_see_14 : decode cX12_see 14 = .ok (.iload_n 3, 1) := by decide +kernel
theorem dX12_see_15 : decode cX12_see 15 = .ok (.invokevirtual 406, 3) := by decide +kernel
theorem dX12_see_18 : decode cX12_see 18 = .ok (.ifCond .eq 12, 3) := by decide +kernel
theorem dX12_see_21 : decode cX12_see 21 = .ok (.aload_n 0, 1) := by decide +kernel
theorem dX12_see_22 : decode cX12_see 22 = .ok (.iload 4, 2) := by decide +kernel
theorem dX12_see_24 : decode cX12_see 24 = .ok (.invokevirtual 406, 3) := by decide +kernel
theorem dX12_see_27 : decode cX12_see 27 = .ok (.ifCond .ne 9, 3) := by decide +kernel
theorem dX12_see_30 : decode cX12_see 30 = .ok (.aload_n 0, 1) := by decide +kernel
theorem dX12_see_31 : decode cX12_see 31 = .ok (.iconst 1, 1) := by decide +kernel
theorem dX12_see_32 : decode cX12_see 32 = .ok (.invokevirtual 329, 3) := by decide +kernel
theorem dX12_see_35 : decode cX12_see 35 = .ok (.ireturn, 1) := by decide +kernel
theorem dX12_see_36 : decode cX12_see 36 = .ok (.aload_n 0, 1) := by decide +kernel
theorem dX12_see_37 : decode cX12_see 37 = .ok (.getfield 350, 3) := by decide +kernel
theorem dX12_see_40 : decode cX12_see 40 = .ok (.bipush 8, 2) := by decide +kernel
theorem dX12_see_42 : decode cX12_see 42 = .ok (.if_icmp .eq 21, 3) := by decide +kernel
theorem dX12_see_45 : decode cX12_see 45 = .ok (.iload_n 2, 1) := by decide +kernel
theorem dX12_see_46 : decode cX12_see 46 = .ok (.i2l, 1) := by decide +kernel
theorem dX12_see_47 : decode cX12_see 47 = .ok (.lconst 0, 1) := by decide +kernel
theorem dX12_see_48 : decode cX12_see 48 = .ok (.ldc2_w 416, 3) := by decide +kernel
theorem dX12_see_51 : decode cX12_see 51 = .ok (.invokestatic 187, 3) := by decide +kernel
theorem dX12_see_54 : decode cX12_see 54 = .ok (.ifCond .eq 9, 3) := by decide +kernel
theorem dX12_see_57 : decode cX12_see 57 = .ok (.iload_n 3, 1) := by decide +kernel
theorem dX12_see_58 : decode cX12_see 58 = .ok (.iload 4, 2) := by decide +kernel
theorem dX12_see_60 : decode cX12_see 60 = .ok (.if_icmp .ne 9, 3) := by decide +kernel
theorem dX12_see_63 : decode cX12_see 63 = .ok (.aload_n 0, 1) := by decide +kernel
theorem dX12_see_64 : decode cX12_see 64 = .ok (.iconst 2, 1) := by decide +kernel
theorem dX12_see_65 : decode cX12_see 65 = .ok (.invokevirtual 418, 3) := by decide +kernel
theorem dX12_see_68 : decode cX12_see 68 = .ok (.ireturn, 1) := by decide +kernel
theorem dX12_see_69 : decode cX12_see 69 = .ok (.aload_n 0, 1) := by decide +kernel
theorem dX12_see_70 : decode cX12_see 70 = .ok (.getfield 129, 3) := by decide +kernel
theorem dX12_see_73 : decode cX12_see 73 = .ok (.aload_n 0, 1) := by decide +kernel
theorem dX12_see_74 : decode cX12_see 74 = .ok (.getfield 350, 3) := by decide +kernel
theorem dX12_see_77 : decode cX12_see 77 = .ok (.iload_n 1, 1) := by decide +kernel
theorem dX12_see_78 : decode cX12_see 78 = .ok (.iastore, 1) := by decide +kernel
theorem dX12_see_79 : decode cX12_see 79 = .ok (.aload_n 0, 1) := by decide +kernel
theorem dX12_see_80 : decode cX12_see 80 = .ok (.getfield 132, 3) := by decide +kernel
theorem dX12_see_83 : decode cX12_see 83 = .ok (.aload_n 0, 1) := by decide +kernel
theorem dX12_see_84 : decode cX12_see 84 = .ok (.getfield 350, 3) := by decide +kernel
theorem dX12_see_87 : decode cX12_see 87 = .ok (.iload_n 2, 1) := by decide +kernel
theorem dX12_see_88 : decode cX12_see 88 = .ok (.iastore, 1) := by decide +kernel
theorem dX12_see_89 : decode cX12_see 89 = .ok (.aload_n 0, 1) := by decide +kernel
theorem dX12_see_90 : decode cX12_see 90 = .ok (.getfield 135, 3) := by decide +kernel
theorem dX12_see_93 : decode cX12_see 93 = .ok (.aload_n 0, 1) := by decide +kernel
theorem dX12_see_94 : decode cX12_see 94 = .ok (.getfield 350, 3) := by decide +kernel
theorem dX12_see_97 : decode cX12_see 97 = .ok (.iload_n 3, 1) := by decide +kernel
theorem dX12_see_98 : decode cX12_see 98 = .ok (.iastore, 1) := by decide +kernel
theorem dX12_see_99 : decode cX12_see 99 = .ok (.aload_n 0, 1) := by decide +kernel
theorem dX12_see_100 : decode cX12_see 100 = .ok (.getfield 138, 3) := by decide +kernel
theorem dX12_see_103 : decode cX12_see 103 = .ok (.aload_n 0, 1) := by decide +kernel
theorem dX12_see_104 : decode cX12_see 104 = .ok (.getfield 350, 3) := by decide +kernel
theorem dX12_see_107 : decode cX12_see 107 = .ok (.iload 4, 2) := by decide +kernel
theorem dX12_see_109 : decode cX12_see 109 = .ok (.iastore, 1) := by decide +kernel
theorem dX12_see_110 : decode cX12_see 110 = .ok (.aload_n 0, 1) := by decide +kernel
theorem dX12_see_111 : decode cX12_see 111 = .ok (.getfield 144, 3) := by decide +kernel
theorem dX12_see_114 : decode cX12_see 114 = .ok (.aload_n 0, 1) := by decide +kernel
theorem dX12_see_115 : decode cX12_see 115 = .ok (.getfield 350, 3) := by decide +kernel
theorem dX12_see_118 : decode cX12_see 118 = .ok (.iload 5, 2) := by decide +kernel
theorem dX12_see_120 : decode cX12_see 120 = .ok (.bastore, 1) := by decide +kernel
theorem dX12_see_121 : decode cX12_see 121 = .ok (.aload_n 0, 1) := by decide +kernel
theorem dX12_see_122 : decode cX12_see 122 = .ok (.dup, 1) := by decide +kernel
theorem dX12_see_123 : decode cX12_see 123 = .ok (.getfield 350, 3) := by decide +kernel
theorem dX12_see_126 : decode cX12_see 126 = .ok (.iconst 1, 1) := by decide +kernel
theorem dX12_see_127 : decode cX12_see 127 = .ok (.iadd, 1) := by decide +kernel
theorem dX12_see_128 : decode cX12_see 128 = .ok (.putfield 350, 3) := by decide +kernel
theorem dX12_see_131 : decode cX12_see 131 = .ok (.aload_n 0, 1) := by decide +kernel
theorem dX12_see_132 : decode cX12_see 132 = .ok (.getfield 350, 3) := by decide +kernel
theorem dX12_see_135 : decode cX12_see 135 = .ok (.ireturn, 1) := by decide +kernel
theorem dX12_isAsSeen_0 : decode cX12_isAsSeen 0 = .ok (.aload_n 0, 1) := by decide +kernel
theorem dX12_isAsSeen_1 : decode cX12_isAsSeen 1 = .ok (.aload_n 0, 1) := by decide +kernel
theorem dX12_isAsSeen_2 : decode cX12_isAsSeen 2 = .ok (.getfield 141, 3) := by decide +kernel
theorem dX12_isAsSeen_5 : decode cX12_isAsSeen 5 = .ok (.iconst 0, 1) := by decide +kernel
theorem dX12_isAsSeen_6 : decode cX12_isAsSeen 6 = .ok (.invokevirtual 412, 3) := by decide +kernel
theorem dX12_isAsSeen_9 : decode cX12_isAsSeen 9 = .ok (.iconst 1, 1) := by decide +kernel
theorem dX12_isAsSeen_10 : decode cX12_isAsSeen 10 = .ok (.istore_n 1, 1) := by decide +kernel
theorem dX12_isAsSeen_11 : decode cX12_isAsSeen 11 = .ok (.iconst 0, 1) := by decide +kernel
theorem dX12_isAsSeen_12 : decode cX12_isAsSeen 12 = .ok (.istore_n 2, 1) := by decide +kernel
theorem dX12_isAsSeen_13 : decode cX12_isAsSeen 13 = .ok (.iload_n 2, 1) := by decide +kernel
theorem dX12_isAsSeen_14 : decode cX12_isAsSeen 14 = .ok (.bipush 20, 2) := by decide +kernel
theorem dX12_isAsSeen_16 : decode cX12_isAsSeen 16 = .ok (.if_icmp .gt 102, 3) := by decide +kernel
theorem dX12_isAsSeen_19 : decode cX12_isAsSeen 19 = .ok (.iload_n 1, 1) := by decide +kernel
theorem dX12_isAsSeen_20 : decode cX12_isAsSeen 20 = .ok (.ifCond .eq 98, 3) := by decide +kernel
theorem dX12_isAsSeen_23 : decode cX12_isAsSeen 23 = .ok (.iconst 0, 1) := by decide +kernel
theorem dX12_isAsSeen_24 : decode cX12_isAsSeen 24 = .ok (.istore_n 3, 1) := by decide +kernel
theorem dX12_isAsSeen_25 : decode cX12_isAsSeen 25 = .ok (.iload_n 3, 1) := by decide +kernel
theorem dX12_isAsSeen_26 : decode cX12_isAsSeen 26 = .ok (.aload_n 0, 1) := by decide +kernel
theorem dX12_isAsSeen_27 : decode cX12_isAsSeen 27 = .ok (.getfield 350, 3) := by decide +kernel
theorem dX12_isAsSeen_30 : decode cX12_isAsSeen 30 = .ok (.if_icmp .ge 78, 3) := by decide +kernel
theorem dX12_isAsSeen_33 : decode cX12_isAsSeen 33 = .ok (.iload_n 1, 1) := by decide +kernel
theorem dX12_isAsSeen_34 : decode cX12_isAsSeen 34 = .ok (.ifCond .eq 66, 3) := by decide +kernel
theorem dX12_isAsSeen_37 : decode cX12_isAsSeen 37 = .ok (.aload_n 0, 1) := by decide +kernel
theorem dX12_isAsSeen_38 : decode cX12_isAsSeen 38 = .ok (.getfield 132, 3) := by decide +kernel
theorem dX12_isAsSeen_41 : decode cX12_isAsSeen 41 = .ok (.iload_n 3, 1) := by decide +kernel
theorem dX12_isAsSeen_42 : decode cX12_isAsSeen 42 = .ok (.iaload, 1) := by decide +kernel
theorem dX12_isAsSeen_43 : decode cX12_isAsSeen 43 = .ok (.iload_n 2, 1) := by decide +kernel
theorem dX12_isAsSeen_44 : decode cX12_isAsSeen 44 = .ok (.if_icmp .ne 52, 3) := by decide +kernel
theorem dX12_isAsSeen_47 : decode cX12_isAsSeen 47 = .ok (.aload_n 0, 1) := by decide +kernel
theorem dX12_isAsSeen_48 : decode cX12_isAsSeen 48 = .ok (.aload_n 0, 1) := by decide +kernel
theorem dX12_isAsSeen_49 : decode cX12_isAsSeen 49 = .ok (.getfield 135, 3) := by decide +kernel
theorem dX12_isAsSeen_52 : decode cX12_isAsSeen 52 = .ok (.iload_n 3, 1) := by decide +kernel
theorem dX12_isAsSeen_53 : decode cX12_isAsSeen 53 = .ok (.iaload, 1) := by decide +kernel
theorem dX12_isAsSeen_54 : decode cX12_isAsSeen 54 = .ok (.aload_n 0, 1) := by decide +kernel
theorem dX12_isAsSeen_55 : decode cX12_isAsSeen 55 = .ok (.getfield 129, 3) := by decide +kernel
theorem dX12_isAsSeen_58 : decode cX12_isAsSeen 58 = .ok (.iload_n 3, 1) := by decide +kernel
theorem dX12_isAsSeen_59 : decode cX12_isAsSeen 59 = .ok (.iaload, 1) := by decide +kernel
theorem dX12_isAsSeen_60 : decode cX12_isAsSeen 60 = .ok (.invokevirtual 376, 3) := by decide +kernel
theorem dX12_isAsSeen_63 : decode cX12_isAsSeen 63 = .ok (.aload_n 0, 1) := by decide +kernel
theorem dX12_isAsSeen_64 : decode cX12_isAsSeen 64 = .ok (.aload_n 0, 1) := by decide +kernel
theorem dX12_isAsSeen_65 : decode cX12_isAsSeen 65 = .ok (.getfield 138, 3) := by decide +kernel
theorem dX12_isAsSeen_68 : decode cX12_isAsSeen 68 = .ok (.iload_n 3, 1) := by decide +kernel
theorem dX12_isAsSeen_69 : decode cX12_isAsSeen 69 = .ok (.iaload, 1) := by decide +kernel
theorem dX12_isAsSeen_70 : decode cX12_isAsSeen 70 = .ok (.aload_n 0, 1) := by decide +kernel
theorem dX12_isAsSeen_71 : decode cX12_isAsSeen 71 = .ok (.getfield 129, 3) := by decide +kernel
theorem dX12_isAsSeen_74 : decode cX12_isAsSeen 74 = .ok (.iload_n 3, 1) := by decide +kernel
theorem dX12_isAsSeen_75 : decode cX12_isAsSeen 75 = .ok (.iaload, 1) := by decide +kernel
theorem dX12_isAsSeen_76 : decode cX12_isAsSeen 76 = .ok (.invokevirtual 376, 3) := by decide +kernel
theorem dX12_isAsSeen_79 : decode cX12_isAsSeen 79 = .ok (.if_icmp .le 7, 3) := by decide +kernel
theorem dX12_isAsSeen_82 : decode cX12_isAsSeen 82 = .ok (.iconst 1, 1) := by decide +kernel
theorem dX12_isAsSeen_83 : decode cX12_isAsSeen 83 = .ok (.goto 4, 3) := by decide +kernel
theorem dX12_isAsSeen_86 : decode cX12_isAsSeen 86 = .ok (.iconst 0, 1) := by decide +kernel
theorem dX12_isAsSeen_87 : decode cX12_isAsSeen 87 = .ok (.aload_n 0, 1) := by decide +kernel
theorem dX12_isAsSeen_88 : decode cX12_isAsSeen 88 = .ok (.getfield 144, 3) := by decide +kernel
theorem dX12_isAsSeen_91 : decode cX12_isAsSeen 91 = .ok (.iload_n 3, 1) := by decide +kernel
theorem dX12_isAsSeen_92 : decode cX12_isAsSeen 92 = .ok (.baload, 1) := by decide +kernel
theorem dX12_isAsSeen_93 : decode cX12_isAsSeen 93 = .ok (.if_icmp .ne 7, 3) := by decide +kernel
theorem dX12_isAsSeen_96 : decode cX12_isAsSeen 96 = .ok (.iconst 1, 1) := by decide +kernel
theorem dX12_isAsSeen_97 : decode cX12_isAsSeen 97 = .ok (.goto 4, 3) := by decide +kernel
theorem dX12_isAsSeen_100 : decode cX12_isAsSeen 100 = .ok (.iconst 0, 1) := by decide +kernel
theorem dX12_isAsSeen_101 : decode cX12_isAsSeen 101 = .ok (.istore_n 1, 1) := by decide +kernel
theorem dX12_isAsSeen_102 : decode cX12_isAsSeen 102 = .ok (.iinc 3 1, 3) := by decide +kernel
theorem dX12_isAsSeen_105 : decode cX12_isAsSeen 105 = .ok (.goto (-80), 3) := by decide +kernel
theorem dX12_isAsSeen_108 : decode cX12_isAsSeen 108 = .ok (.aload_n 0, 1) := by decide +kernel
theorem dX12_isAsSeen_109 : decode cX12_isAsSeen 109 = .ok (.invokevirtual 391, 3) := by decide +kernel
theorem dX12_isAsSeen_112 : decode cX12_isAsSeen 112 = .ok (.iinc 2 1, 3) := by decide +kernel
theorem dX12_isAsSeen_115 : decode cX12_isAsSeen 115 = .ok (.goto (-102), 3) := by decide +kernel
theorem dX12_isAsSeen_118 : decode cX12_isAsSeen 118 = .ok (.aload_n 0, 1) := by decide +kernel
theorem dX12_isAsSeen_119 : decode cX12_isAsSeen 119 = .ok (.aload_n 0, 1) := by decide +kernel
theorem dX12_isAsSeen_120 : decode cX12_isAsSeen 120 = .ok (.getfield 141, 3) := by decide +kernel
theorem dX12_isAsSeen_123 : decode cX12_isAsSeen 123 = .ok (.iconst 0, 1) := by decide +kernel
theorem dX12_isAsSeen_124 : decode cX12_isAsSeen 124 = .ok (.invokevirtual 433, 3) := by decide +kernel
theorem dX12_isAsSeen_127 : decode cX12_isAsSeen 127 = .ok (.iload_n 1, 1) := by decide +kernel
theorem dX12_isAsSeen_128 : decode cX12_isAsSeen 128 = .ok (.ireturn, 1) := by decide +kernel
theorem dX12_tellFits_0 : decode cX12_tellFits 0 = .ok (.aload_n 0, 1) := by decide +kernel
theorem dX12_tellFits_1 : decode cX12_tellFits 1 = .ok (.iconst 0, 1) := by decide +kernel
theorem dX12_tellFits_2 : decode cX12_tellFits 2 = .ok (.putfield 468, 3) := by decide +kernel
theorem dX12_tellFits_5 : decode cX12_tellFits 5 = .ok (.iconst 0, 1) := by decide +kernel
theorem dX12_tellFits_6 : decode cX12_tellFits 6 = .ok (.istore_n 1, 1) := by decide +kernel
theorem dX12_tellFits_7 : decode cX12_tellFits 7 = .ok (.iload_n 1, 1) := by decide +kernel
theorem dX12_tellFits_8 : decode cX12_tellFits 8 = .ok (.aload_n 0, 1) := by decide +kernel
theorem dX12_tellFits_9 : decode cX12_tellFits 9 = .ok (.getfield 48, 3) := by decide +kernel
theorem dX12_tellFits_12 : decode cX12_tellFits 12 = .ok (.iconst 0, 1) := by decide +kernel
theorem dX12_tellFits_13 : decode cX12_tellFits 13 = .ok (.iaload, 1) := by decide +kernel
theorem dX12_tellFits_14 : decode cX12_tellFits 14 = .ok (.if_icmp .ge 84, 3) := by decide +kernel
theorem dX12_tellFits_17 : decode cX12_tellFits 17 = .ok (.aload_n 0, 1) := by decide +kernel
theorem dX12_tellFits_18 : decode cX12_tellFits 18 = .ok (.getfield 90, 3) := by decide +kernel
theorem dX12_tellFits_21 : decode cX12_tellFits 21 = .ok (.iload_n 1, 1) := by decide +kernel
theorem dX12_tellFits_22 : decode cX12_tellFits 22 = .ok (.iaload, 1) := by decide +kernel
theorem dX12_tellFits_23 : decode cX12_tellFits 23 = .ok (.istore_n 2, 1) := by decide +kernel
theorem dX12_tellFits_24 : decode cX12_tellFits 24 = .ok (.iconst 0, 1) := by decide +kernel
theorem dX12_tellFits_25 : decode cX12_tellFits 25 = .ok (.istore_n 3, 1) := by decide +kernel
theorem dX12_tellFits_26 : decode cX12_tellFits 26 = .ok (.iload_n 3, 1) := by decide +kernel
theorem dX12_tellFits_27 : decode cX12_tellFits 27 = .ok (.bipush 10, 2) := by decide +kernel
theorem dX12_tellFits_29 : decode cX12_tellFits 29 = .ok (.if_icmp .ge 56, 3) := by decide +kernel
theorem dX12_tellFits_32 : decode cX12_tellFits 32 = .ok (.aload_n 0, 1) := by decide +kernel
theorem dX12_tellFits_33 : decode cX12_tellFits 33 = .ok (.getfield 90, 3) := by decide +kernel
theorem dX12_tellFits_36 : decode cX12_tellFits 36 = .ok (.iload_n 1, 1) := by decide +kernel
theorem dX12_tellFits_37 : decode cX12_tellFits 37 = .ok (.iload_n 3, 1) := by decide +kernel
theorem dX12_tellFits_38 : decode cX12_tellFits 38 = .ok (.iastore, 1) := by decide +kernel
theorem dX12_tellFits_39 : decode cX12_tellFits 39 = .ok (.iload_n 3, 1) := by decide +kernel
theorem dX12_tellFits_40 : decode cX12_tellFits 40 = .ok (.iload_n 2, 1) := by decide +kernel
theorem dX12_tellFits_41 : decode cX12_tellFits 41 = .ok (.if_icmp .eq 38, 3) := by decide +kernel
theorem dX12_tellFits_44 : decode cX12_tellFits 44 = .ok (.aload_n 0, 1) := by decide +kernel
theorem dX12_tellFits_45 : decode cX12_tellFits 45 = .ok (.invokevirtual 471, 3) := by decide +kernel
theorem dX12_tellFits_48 : decode cX12_tellFits 48 = .ok (.ifCond .ne 6, 3) := by decide +kernel
theorem dX12_tellFits_51 : decode cX12_tellFits 51 = .ok (.goto 28, 3) := by decide +kernel
theorem dX12_tellFits_54 : decode cX12_tellFits 54 = .ok (.aload_n 0, 1) := by decide +kernel
theorem dX12_tellFits_55 : decode cX12_tellFits 55 = .ok (.getfield 148, 3) := by decide +kernel
theorem dX12_tellFits_58 : decode cX12_tellFits 58 = .ok (.aload_n 0, 1) := by decide +kernel
theorem dX12_tellFits_59 : decode cX12_tellFits 59 = .ok (.getfield 468, 3) := by decide +kernel
theorem dX12_tellFits_62 : decode cX12_tellFits 62 = .ok (.bipush 10, 2) := by decide +kernel
theorem dX12_tellFits_64 : decode cX12_tellFits 64 = .ok (.iload_n 1, 1) := by decide +kernel
theorem dX12_tellFits_65 : decode cX12_tellFits 65 = .ok (.imul, 1) := by decide +kernel
theorem dX12_tellFits_66 : decode cX12_tellFits 66 = .ok (.iload_n 3, 1) := by decide +kernel
theorem dX12_tellFits_67 : decode cX12_tellFits 67 = .ok (.iadd, 1) := by decide +kernel
theorem dX12_tellFits_68 : decode cX12_tellFits 68 = .ok (.iastore, 1) := by decide +kernel
theorem dX12_tellFits_69 : decode cX12_tellFits 69 = .ok (.aload_n 0, 1) := by decide +kernel
theorem dX12_tellFits_70 : decode cX12_tellFits 70 = .ok (.dup, 1) := by decide +kernel
theorem dX12_tellFits_71 : decode cX12_tellFits 71 = .ok (.getfield 468, 3) := by decide +kernel
theorem dX12_tellFits_74 : decode cX12_tellFits 74 = .ok (.iconst 1, 1) := by decide +kernel
theorem dX12_tellFits_75 : decode cX12_tellFits 75 = .ok (.iadd, 1) := by decide +kernel
theorem dX12_tellFits_76 : decode cX12_tellFits 76 = .ok (.putfield 468, 3) := by decide +kernel
theorem dX12_tellFits_79 : decode cX12_tellFits 79 = .ok (.iinc 3 1, 3) := by decide +kernel
theorem dX12_tellFits_82 : decode cX12_tellFits 82 = .ok (.goto (-56), 3) := by decide +kernel
theorem dX12_tellFits_85 : decode cX12_tellFits 85 = .ok (.aload_n 0, 1) := by decide +kernel
theorem dX12_tellFits_86 : decode cX12_tellFits 86 = .ok (.getfield 90, 3) := by decide +kernel
theorem dX12_tellFits_89 : decode cX12_tellFits 89 = .ok (.iload_n 1, 1) := by decide +kernel
theorem dX12_tellFits_90 : decode cX12_tellFits 90 = .ok (.iload_n 2, 1) := by decide +kernel
theorem dX12_tellFits_91 : decode cX12_tellFits 91 = .ok (.iastore, 1) := by decide +kernel
theorem dX12_tellFits_92 : decode cX12_tellFits 92 = .ok (.iinc 1 1, 3) := by decide +kernel
theorem dX12_tellFits_95 : decode cX12_tellFits 95 = .ok (.goto (-88), 3) := by decide +kernel
theorem dX12_tellFits_98 : decode cX12_tellFits 98 = .ok (.return_, 1) := by decide +kernel
theorem dX12_hidden_0 : decode cX12_hidden 0 = .ok (.aload_n 0, 1) := by decide +kernel
theorem dX12_hidden_1 : decode cX12_hidden 1 = .ok (.iconst 0, 1) := by decide +kernel
theorem dX12_hidden_2 : decode cX12_hidden 2 = .ok (.putfield 184, 3) := by decide +kernel
theorem dX12_hidden_5 : decode cX12_hidden 5 = .ok (.iload_n 1, 1) := by decide +kernel
theorem dX12_hidden_6 : decode cX12_hidden 6 = .ok (.i2l, 1) := by decide +kernel
theorem dX12_hidden_7 : decode cX12_hidden 7 = .ok (.lconst 0, 1) := by decide +kernel
theorem dX12_hidden_8 : decode cX12_hidden 8 = .ok (.ldc2_w 475, 3) := by decide +kernel
theorem dX12_hidden_11 : decode cX12_hidden 11 = .ok (.invokestatic 187, 3) := by decide +kernel
theorem dX12_hidden_14 : decode cX12_hidden 14 = .ok (.ifCond .ne 9, 3) := by decide +kernel
theorem dX12_hidden_17 : decode cX12_hidden 17 = .ok (.aload_n 0, 1) := by decide +kernel
theorem dX12_hidden_18 : decode cX12_hidden 18 = .ok (.iconst 1, 1) := by decide +kernel
theorem dX12_hidden_19 : decode cX12_hidden 19 = .ok (.invokevirtual 329, 3) := by decide +kernel
theorem dX12_hidden_22 : decode cX12_hidden 22 = .ok (.ireturn, 1) := by decide +kernel
theorem dX12_hidden_23 : decode cX12_hidden 23 = .ok (.iload_n 1, 1) := by decide +kernel
theorem dX12_hidden_24 : decode cX12_hidden 24 = .ok (.iconst 2, 1) := by decide +kernel
theorem dX12_hidden_25 : decode cX12_hidden 25 = .ok (.if_icmp .ne 16, 3) := by decide +kernel
theorem dX12_hidden_28 : decode cX12_hidden 28 = .ok (.aload_n 0, 1) := by decide +kernel
theorem dX12_hidden_29 : decode cX12_hidden 29 = .ok (.invokevirtual 471, 3) := by decide +kernel
theorem dX12_hidden_32 : decode cX12_hidden 32 = .ok (.ifCond .eq 7, 3) := by decide +kernel
theorem dX12_hidden_35 : decode cX12_hidden 35 = .ok (.iconst 1, 1) := by decide +kernel
theorem dX12_hidden_36 : decode cX12_hidden 36 = .ok (.goto 4, 3) := by decide +kernel
theorem dX12_hidden_39 : decode cX12_hidden 39 = .ok (.iconst 0, 1) := by decide +kernel
theorem dX12_hidden_40 : decode cX12_hidden 40 = .ok (.ireturn, 1) := by decide +kernel
theorem dX12_hidden_41 : decode cX12_hidden 41 = .ok (.aload_n 0, 1) := by decide +kernel
theorem dX12_hidden_42 : decode cX12_hidden 42 = .ok (.invokevirtual 477, 3) := by decide +kernel
theorem dX12_hidden_45 : decode cX12_hidden 45 = .ok (.iload_n 1, 1) := by decide +kernel
theorem dX12_hidden_46 : decode cX12_hidden 46 = .ok (.ifCond .ne 10, 3) := by decide +kernel
theorem dX12_hidden_49 : decode cX12_hidden 49 = .ok (.aload_n 0, 1) := by decide +kernel
theorem dX12_hidden_50 : decode cX12_hidden 50 = .ok (.getfield 468, 3) := by decide +kernel
theorem dX12_hidden_53 : decode cX12_hidden 53 = .ok (.goto 20, 3) := by decide +kernel
theorem dX12_hidden_56 : decode cX12_hidden 56 = .ok (.aload_n 0, 1) := by decide +kernel
theorem dX12_hidden_57 : decode cX12_hidden 57 = .ok (.getfield 468, 3) := by decide +kernel
theorem dX12_hidden_60 : decode cX12_hidden 60 = .ok (.ifCond .ne 7, 3) := by decide +kernel
theorem dX12_hidden_63 : decode cX12_hidden 63 = .ok (.iconst (-1), 1) := by decide +kernel
theorem dX12_hidden_64 : decode cX12_hidden 64 = .ok (.goto 9, 3) := by decide +kernel
theorem dX12_hidden_67 : decode cX12_hidden 67 = .ok (.aload_n 0, 1) := by decide +kernel
theorem dX12_hidden_68 : decode cX12_hidden 68 = .ok (.getfield 148, 3) := by decide +kernel
theorem dX12_hidden_71 : decode cX12_hidden 71 = .ok (.iconst 0, 1) := by decide +kernel
theorem dX12_hidden_72 : decode cX12_hidden 72 = .ok (.iaload, 1) := by decide +kernel
theorem dX12_hidden_73 : decode cX12_hidden 73 = .ok (.ireturn, 1) := by decide +kernel
theorem dX12_unlike_0 : decode cX12_unlike 0 = .ok (.iconst 0, 1) := by decide +kernel
theorem dX12_unlike_1 : decode cX12_unlike 1 = .ok (.istore_n 2, 1) := by decide +kernel
theorem dX12_unlike_2 : decode cX12_unlike 2 = .ok (.iconst 0, 1) := by decide +kernel
theorem dX12_unlike_3 : decode cX12_unlike 3 = .ok (.istore_n 3, 1) := by decide +kernel
theorem dX12_unlike_4 : decode cX12_unlike 4 = .ok (.iload_n 3, 1) := by decide +kernel
theorem dX12_unlike_5 : decode cX12_unlike 5 = .ok (.aload_n 0, 1) := by decide +kernel
theorem dX12_unlike_6 : decode cX12_unlike 6 = .ok (.getfield 468, 3) := by decide +kernel
theorem dX12_unlike_9 : decode cX12_unlike 9 = .ok (.if_icmp .ge 78, 3) := by decide +kernel
theorem dX12_unlike_12 : decode cX12_unlike 12 = .ok (.iconst 1, 1) := by decide +kernel
theorem dX12_unlike_13 : decode cX12_unlike 13 = .ok (.istore 4, 2) := by decide +kernel
theorem dX12_unlike_15 : decode cX12_unlike 15 = .ok (.iconst 0, 1) := by decide +kernel
theorem dX12_unlike_16 : decode cX12_unlike 16 = .ok (.istore 5, 2) := by decide +kernel
theorem dX12_unlike_18 : decode cX12_unlike 18 = .ok (.iload 5, 2) := by decide +kernel
theorem dX12_unlike_20 : decode cX12_unlike 20 = .ok (.iload_n 3, 1) := by decide +kernel
theorem dX12_unlike_21 : decode cX12_unlike 21 = .ok (.if_icmp .ge 47, 3) := by decide +kernel
theorem dX12_unlike_24 : decode cX12_unlike 24 = .ok (.iload 4, 2) := by decide +kernel
theorem dX12_unlike_26 : decode cX12_unlike 26 = .ok (.ifCond .eq 42, 3) := by decide +kernel
theorem dX12_unlike_29 : decode cX12_unlike 29 = .ok (.aload_n 0, 1) := by decide +kernel
theorem dX12_unlike_30 : decode cX12_unlike 30 = .ok (.getfield 151, 3) := by decide +kernel
theorem dX12_unlike_33 : decode cX12_unlike 33 = .ok (.bipush 6, 2) := by decide +kernel
theorem dX12_unlike_35 : decode cX12_unlike 35 = .ok (.iload 5, 2) := by decide +kernel
theorem dX12_unlike_37 : decode cX12_unlike 37 = .ok (.imul, 1) := by decide +kernel
theorem dX12_unlike_38 : decode cX12_unlike 38 = .ok (.iload_n 1, 1) := by decide +kernel
theorem dX12_unlike_39 : decode cX12_unlike 39 = .ok (.iadd, 1) := by decide +kernel
theorem dX12_unlike_40 : decode cX12_unlike 40 = .ok (.iaload, 1) := by decide +kernel
theorem dX12_unlike_41 : decode cX12_unlike 41 = .ok (.aload_n 0, 1) := by decide +kernel
theorem dX12_unlike_42 : decode cX12_unlike 42 = .ok (.getfield 151, 3) := by decide +kernel
theorem dX12_unlike_45 : decode cX12_unlike 45 = .ok (.bipush 6, 2) := by decide +kernel
theorem dX12_unlike_47 : decode cX12_unlike 47 = .ok (.iload_n 3, 1) := by decide +kernel
theorem dX12_unlike_48 : decode cX12_unlike 48 = .ok (.imul, 1) := by decide +kernel
theorem dX12_unlike_49 : decode cX12_unlike 49 = .ok (.iload_n 1, 1) := by decide +kernel
theorem dX12_unlike_50 : decode cX12_unlike 50 = .ok (.iadd, 1) := by decide +kernel
theorem dX12_unlike_51 : decode cX12_unlike 51 = .ok (.iaload, 1) := by decide +kernel
theorem dX12_unlike_52 : decode cX12_unlike 52 = .ok (.if_icmp .eq 7, 3) := by decide +kernel
theorem dX12_unlike_55 : decode cX12_unlike 55 = .ok (.iconst 1, 1) := by decide +kernel
theorem dX12_unlike_56 : decode cX12_unlike 56 = .ok (.goto 4, 3) := by decide +kernel
theorem dX12_unlike_59 : decode cX12_unlike 59 = .ok (.iconst 0, 1) := by decide +kernel
theorem dX12_unlike_60 : decode cX12_unlike 60 = .ok (.istore 4, 2) := by decide +kernel
theorem dX12_unlike_62 : decode cX12_unlike 62 = .ok (.iinc 5 1, 3) := by decide +kernel
theorem dX12_unlike_65 : decode cX12_unlike 65 = .ok (.goto (-47), 3) := by decide +kernel
theorem dX12_unlike_68 : decode cX12_unlike 68 = .ok (.iload_n 2, 1) := by decide +kernel
theorem dX12_unlike_69 : decode cX12_unlike 69 = .ok (.iload 4, 2) := by decide +kernel
theorem dX12_unlike_71 : decode cX12_unlike 71 = .ok (.ifCond .eq 7, 3) := by decide +kernel
theorem dX12_unlike_74 : decode cX12_unlike 74 = .ok (.iconst 1, 1) := by decide +kernel
theorem dX12_unlike_75 : decode cX12_unlike 75 = .ok (.goto 4, 3) := by decide +kernel
theorem dX12_unlike_78 : decode cX12_unlike 78 = .ok (.iconst 0, 1) := by decide +kernel
theorem dX12_unlike_79 : decode cX12_unlike 79 = .ok (.iadd, 1) := by decide +kernel
theorem dX12_unlike_80 : decode cX12_unlike 80 = .ok (.istore_n 2, 1) := by decide +kernel
theorem dX12_unlike_81 : decode cX12_unlike 81 = .ok (.iinc 3 1, 3) := by decide +kernel
theorem dX12_unlike_84 : decode cX12_unlike 84 = .ok (.goto (-80), 3) := by decide +kernel
theorem dX12_unlike_87 : decode cX12_unlike 87 = .ok (.iload_n 2, 1) := by decide +kernel
theorem dX12_unlike_88 : decode cX12_unlike 88 = .ok (.ireturn, 1) := by decide +kernel
theorem dX12_next_0 : decode cX12_next 0 = .ok (.aload_n 0, 1) := by decide +kernel
theorem dX12_next_1 : decode cX12_next 1 = .ok (.iconst 0, 1) := by decide +kernel
theorem dX12_next_2 : decode cX12_next 2 = .ok (.putfield 184, 3) := by decide +kernel
theorem dX12_next_5 : decode cX12_next 5 = .ok (.iload_n 1, 1) := by decide +kernel
theorem dX12_next_6 : decode cX12_next 6 = .ok (.ifCond .lt 8, 3) := by decide +kernel
theorem dX12_next_9 : decode cX12_next 9 = .ok (.iload_n 1, 1) := by decide +kernel
theorem dX12_next_10 : decode cX12_next 10 = .ok (.iconst 1, 1) := by decide +kernel
theorem dX12_next_11 : decode cX12_next 11 = .ok (.if_icmp .le 9, 3) := by decide +kernel
theorem dX12_next_14 : decode cX12_next 14 = .ok (.aload_n 0, 1) := by decide +kernel
theorem dX12_next_15 : decode cX12_next 15 = .ok (.iconst 1, 1) := by decide +kernel
theorem dX12_next_16 : decode cX12_next 16 = .ok (.invokevirtual 329, 3) := by decide +kernel
theorem dX12_next_19 : decode cX12_next 19 = .ok (.ireturn, 1) := by decide +kernel
theorem dX12_next_20 : decode cX12_next 20 = .ok (.aload_n 0, 1) := by decide +kernel
theorem dX12_next_21 : decode cX12_next 21 = .ok (.invokevirtual 477, 3) := by decide +kernel
theorem dX12_next_24 : decode cX12_next 24 = .ok (.iconst 0, 1) := by decide +kernel
theorem dX12_next_25 : decode cX12_next 25 = .ok (.istore_n 2, 1) := by decide +kernel
theorem dX12_next_26 : decode cX12_next 26 = .ok (.iload_n 2, 1) := by decide +kernel
theorem dX12_next_27 : decode cX12_next 27 = .ok (.aload_n 0, 1) := by decide +kernel
theorem dX12_next_28 : decode cX12_next 28 = .ok (.getfield 468, 3) := by decide +kernel
theorem dX12_next_31 : decode cX12_next 31 = .ok (.if_icmp .ge 89, 3) := by decide +kernel
theorem dX12_next_34 : decode cX12_next 34 = .ok (.aload_n 0, 1) := by decide +kernel
theorem dX12_next_35 : decode cX12_next 35 = .ok (.getfield 148, 3) := by decide +kernel
theorem dX12_next_38 : decode cX12_next 38 = .ok (.iload_n 2, 1) := by decide +kernel
theorem dX12_next_39 : decode cX12_next 39 = .ok (.iaload, 1) := by decide +kernel
theorem dX12_next_40 : decode cX12_next 40 = .ok (.bipush 10, 2) := by decide +kernel
theorem dX12_next_42 : decode cX12_next 42 = .ok (.idiv, 1) := by decide +kernel
theorem dX12_next_43 : decode cX12_next 43 = .ok (.istore_n 3, 1) := by decide +kernel
theorem dX12_next_44 : decode cX12_next 44 = .ok (.aload_n 0, 1) := by decide +kernel
theorem dX12_next_45 : decode cX12_next 45 = .ok (.getfield 90, 3) := by decide +kernel
theorem dX12_next_48 : decode cX12_next 48 = .ok (.iload_n 3, 1) := by decide +kernel
theorem dX12_next_49 : decode cX12_next 49 = .ok (.iaload, 1) := by decide +kernel
theorem dX12_next_50 : decode cX12_next 50 = .ok (.istore 4, 2) := by decide +kernel
theorem dX12_next_52 : decode cX12_next 52 = .ok (.aload_n 0, 1) := by decide +kernel
theorem dX12_next_53 : decode cX12_next 53 = .ok (.getfield 90, 3) := by decide +kernel
theorem dX12_next_56 : decode cX12_next 56 = .ok (.iload_n 3, 1) := by decide +kernel
theorem dX12_next_57 : decode cX12_next 57 = .ok (.aload_n 0, 1) := by decide +kernel
theorem dX12_next_58 : decode cX12_next 58 = .ok (.getfield 148, 3) := by decide +kernel
theorem dX12_next_61 : decode cX12_next 61 = .ok (.iload_n 2, 1) := by decide +kernel
theorem dX12_next_62 : decode cX12_next 62 = .ok (.iaload, 1) := by decide +kernel
theorem dX12_next_63 : decode cX12_next 63 = .ok (.bipush 10, 2) := by decide +kernel
theorem dX12_next_65 : decode cX12_next 65 = .ok (.irem, 1) := by decide +kernel
theorem dX12_next_66 : decode cX12_next 66 = .ok (.iastore, 1) := by decide +kernel
theorem dX12_next_67 : decode cX12_next 67 = .ok (.aload_n 0, 1) := by decide +kernel
theorem dX12_next_68 : decode cX12_next 68 = .ok (.invokevirtual 444, 3) := by decide +kernel
theorem dX12_next_71 : decode cX12_next 71 = .ok (.aload_n 0, 1) := by decide +kernel
theorem dX12_next_72 : decode cX12_next 72 = .ok (.getfield 90, 3) := by decide +kernel
theorem dX12_next_75 : decode cX12_next 75 = .ok (.iload_n 3, 1) := by decide +kernel
theorem dX12_next_76 : decode cX12_next 76 = .ok (.iload 4, 2) := by decide +kernel
theorem dX12_next_78 : decode cX12_next 78 = .ok (.iastore, 1) := by decide +kernel
theorem dX12_next_79 : decode cX12_next 79 = .ok (.iconst 0, 1) := by decide +kernel
theorem dX12_next_80 : decode cX12_next 80 = .ok (.istore 5, 2) := by decide +kernel
theorem dX12_next_82 : decode cX12_next 82 = .ok (.iload 5, 2) := by decide +kernel
theorem dX12_next_84 : decode cX12_next 84 = .ok (.bipush 6, 2) := by decide +kernel
theorem dX12_next_86 : decode cX12_next 86 = .ok (.if_icmp .ge 28, 3) := by decide +kernel
theorem dX12_next_89 : decode cX12_next 89 = .ok (.aload_n 0, 1) := by decide +kernel
theorem dX12_next_90 : decode cX12_next 90 = .ok (.getfield 151, 3) := by decide +kernel
theorem dX12_next_93 : decode cX12_next 93 = .ok (.bipush 6, 2) := by decide +kernel
theorem dX12_next_95 : decode cX12_next 95 = .ok (.iload_n 2, 1) := by decide +kernel
theorem dX12_next_96 : decode cX12_next 96 = .ok (.imul, 1) := by decide +kernel
theorem dX12_next_97 : decode cX12_next 97 = .ok (.iload 5, 2) := by decide +kernel
theorem dX12_next_99 : decode cX12_next 99 = .ok (.iadd, 1) := by decide +kernel
theorem dX12_next_100 : decode cX12_next 100 = .ok (.aload_n 0, 1) := by decide +kernel
theorem dX12_next_101 : decode cX12_next 101 = .ok (.getfield 123, 3) := by decide +kernel
theorem dX12_next_104 : decode cX12_next 104 = .ok (.iload 5, 2) := by decide +kernel
theorem dX12_next_106 : decode cX12_next 106 = .ok (.iaload, 1) := by decide +kernel
theorem dX12_next_107 : decode cX12_next 107 = .ok (.iastore, 1) := by decide +kernel
theorem dX12_next_108 : decode cX12_next 108 = .ok (.iinc 5 1, 3) := by decide +kernel
theorem dX12_next_111 : decode cX12_next 111 = .ok (.goto (-29), 3) := by decide +kernel
theorem dX12_next_114 : decode cX12_next 114 = .ok (.iinc 2 1, 3) := by decide +kernel
theorem dX12_next_117 : decode cX12_next 117 = .ok (.goto (-91), 3) := by decide +kernel
theorem dX12_next_120 : decode cX12_next 120 = .ok (.iconst (-1), 1) := by decide +kernel
theorem dX12_next_121 : decode cX12_next 121 = .ok (.istore_n 2, 1) := by decide +kernel
theorem dX12_next_122 : decode cX12_next 122 = .ok (.iconst 0, 1) := by decide +kernel
theorem dX12_next_123 : decode cX12_next 123 = .ok (.istore_n 3, 1) := by decide +kernel
theorem dX12_next_124 : decode cX12_next 124 = .ok (.iconst 0, 1) := by decide +kernel
theorem dX12_next_125 : decode cX12_next 125 = .ok (.istore 4, 2) := by decide +kernel
theorem dX12_next_127 : decode cX12_next 127 = .ok (.iload 4, 2) := by decide +kernel
theorem dX12_next_129 : decode cX12_next 129 = .ok (.aload_n 0, 1) := by decide +kernel
theorem dX12_next_130 : decode cX12_next 130 = .ok (.getfield 48, 3) := by decide +kernel
theorem dX12_next_133 : decode cX12_next 133 = .ok (.iconst 1, 1) := by decide +kernel
theorem dX12_next_134 : decode cX12_next 134 = .ok (.iaload, 1) := by decide +kernel
theorem dX12_next_135 : decode cX12_next 135 = .ok (.if_icmp .ge 32, 3) := by decide +kernel
theorem dX12_next_138 : decode cX12_next 138 = .ok (.aload_n 0, 1) := by decide +kernel
theorem dX12_next_139 : decode cX12_next 139 = .ok (.iload 4, 2) := by decide +kernel
theorem dX12_next_141 : decode cX12_next 141 = .ok (.invokevirtual 480, 3) := by decide +kernel
theorem dX12_next_144 : decode cX12_next 144 = .ok (.istore 5, 2) := by decide +kernel
theorem dX12_next_146 : decode cX12_next 146 = .ok (.iload 5, 2) := by decide +kernel
theorem dX12_next_148 : decode cX12_next 148 = .ok (.iload_n 3, 1) := by decide +kernel
theorem dX12_next_149 : decode cX12_next 149 = .ok (.if_icmp .gt 6, 3) := by decide +kernel
theorem dX12_next_152 : decode cX12_next 152 = .ok (.goto 9, 3) := by decide +kernel
theorem dX12_next_155 : decode cX12_next 155 = .ok (.iload 4, 2) := by decide +kernel
theorem dX12_next_157 : decode cX12_next 157 = .ok (.istore_n 2, 1) := by decide +kernel
theorem dX12_next_158 : decode cX12_next 158 = .ok (.iload 5, 2) := by decide +kernel
theorem dX12_next_160 : decode cX12_next 160 = .ok (.istore_n 3, 1) := by decide +kernel
theorem dX12_next_161 : decode cX12_next 161 = .ok (.iinc 4 1, 3) := by decide +kernel
theorem dX12_next_164 : decode cX12_next 164 = .ok (.goto (-37), 3) := by decide +kernel
theorem dX12_next_167 : decode cX12_next 167 = .ok (.iload_n 1, 1) := by decide +kernel
theorem dX12_next_168 : decode cX12_next 168 = .ok (.ifCond .ne 7, 3) := by decide +kernel
theorem dX12_next_171 : decode cX12_next 171 = .ok (.iload_n 2, 1) := by decide +kernel
theorem dX12_next_172 : decode cX12_next 172 = .ok (.goto 4, 3) := by decide +kernel
theorem dX12_next_175 : decode cX12_next 175 = .ok (.iload_n 3, 1) := by decide +kernel
theorem dX12_next_176 : decode cX12_next 176 = .ok (.ireturn, 1) := by decide +kernel
theorem dX12_forget_0 : decode cX12_forget 0 = .ok (.aload_n 0, 1) := by decide +kernel
theorem dX12_forget_1 : decode cX12_forget 1 = .ok (.iconst 0, 1) := by decide +kernel
theorem dX12_forget_2 : decode cX12_forget 2 = .ok (.putfield 184, 3) := by decide +kernel
theorem dX12_forget_5 : decode cX12_forget 5 = .ok (.aload_n 0, 1) := by decide +kernel
theorem dX12_forget_6 : decode cX12_forget 6 = .ok (.iconst 0, 1) := by decide +kernel
theorem dX12_forget_7 : decode cX12_forget 7 = .ok (.putfield 350, 3) := by decide +kernel
theorem dX12_forget_10 : decode cX12_forget 10 = .ok (.return_, 1) := by decide +kernel
theorem dX12_choose_0 : decode cX12_choose 0 = .ok (.iload_n 2, 1) := by decide +kernel
theorem dX12_choose_1 : decode cX12_choose 1 = .ok (.iconst 1, 1) := by decide +kernel
theorem dX12_choose_2 : decode cX12_choose 2 = .ok (.if_icmp .ne 25, 3) := by decide +kernel
theorem dX12_choose_5 : decode cX12_choose 5 = .ok (.aload_n 0, 1) := by decide +kernel
theorem dX12_choose_6 : decode cX12_choose 6 = .ok (.getfield 87, 3) := by decide +kernel
theorem dX12_choose_9 : decode cX12_choose 9 = .ok (.iload_n 1, 1) := by decide +kernel
theorem dX12_choose_10 : decode cX12_choose 10 = .ok (.bipush 9, 2) := by decide +kernel
theorem dX12_choose_12 : decode cX12_choose 12 = .ok (.aload_n 0, 1) := by decide +kernel
theorem dX12_choose_13 : decode cX12_choose 13 = .ok (.getfield 87, 3) := by decide +kernel
theorem dX12_choose_16 : decode cX12_choose 16 = .ok (.iload_n 1, 1) := by decide +kernel
theorem dX12_choose_17 : decode cX12_choose 17 = .ok (.iaload, 1) := by decide +kernel
theorem dX12_choose_18 : decode cX12_choose 18 = .ok (.iconst 3, 1) := by decide +kernel
theorem dX12_choose_19 : decode cX12_choose 19 = .ok (.iadd, 1) := by decide +kernel
theorem dX12_choose_20 : decode cX12_choose 20 = .ok (.invokestatic 221, 3) := by decide +kernel
theorem dX12_choose_23 : decode cX12_choose 23 = .ok (.iastore, 1) := by decide +kernel
theorem dX12_choose_24 : decode cX12_choose 24 = .ok (.goto 22, 3) := by decide +kernel
theorem dX12_choose_27 : decode cX12_choose 27 = .ok (.aload_n 0, 1) := by decide +kernel
theorem dX12_choose_28 : decode cX12_choose 28 = .ok (.getfield 90, 3) := by decide +kernel
theorem dX12_choose_31 : decode cX12_choose 31 = .ok (.iload_n 1, 1) := by decide +kernel
theorem dX12_choose_32 : decode cX12_choose 32 = .ok (.bipush 9, 2) := by decide +kernel
theorem dX12_choose_34 : decode cX12_choose 34 = .ok (.aload_n 0, 1) := by decide +kernel
theorem dX12_choose_35 : decode cX12_choose 35 = .ok (.getfield 90, 3) := by decide +kernel
theorem dX12_choose_38 : decode cX12_choose 38 = .ok (.iload_n 1, 1) := by decide +kernel
theorem dX12_choose_39 : decode cX12_choose 39 = .ok (.iaload, 1) := by decide +kernel
theorem dX12_choose_40 : decode cX12_choose 40 = .ok (.iconst 3, 1) := by decide +kernel
theorem dX12_choose_41 : decode cX12_choose 41 = .ok (.iadd, 1) := by decide +kernel
theorem dX12_choose_42 : decode cX12_choose 42 = .ok (.invokestatic 221, 3) := by decide +kernel
theorem dX12_choose_45 : decode cX12_choose 45 = .ok (.iastore, 1) := by decide +kernel
theorem dX12_choose_46 : decode cX12_choose 46 = .ok (.return_, 1) := by decide +kernel
theorem dX12_tellGains_0 : decode cX12_tellGains 0 = .ok (.aload_n 0, 1) := by decide +kernel
theorem dX12_tellGains_1 : decode cX12_tellGains 1 = .ok (.aload_n 0, 1) := by decide +kernel
theorem dX12_tellGains_2 : decode cX12_tellGains 2 = .ok (.getfield 157, 3) := by decide +kernel
theorem dX12_tellGains_5 : decode cX12_tellGains 5 = .ok (.iconst 0, 1) := by decide +kernel
theorem dX12_tellGains_6 : decode cX12_tellGains 6 = .ok (.invokevirtual 412, 3) := by decide +kernel
theorem dX12_tellGains_9 : decode cX12_tellGains 9 = .ok (.iconst 0, 1) := by decide +kernel
theorem dX12_tellGains_10 : decode cX12_tellGains 10 = .ok (.istore 4, 2) := by decide +kernel
theorem dX12_tellGains_12 : decode cX12_tellGains 12 = .ok (.iload 4, 2) := by decide +kernel
theorem dX12_tellGains_14 : decode cX12_tellGains 14 = .ok (.iconst 4, 1) := by decide +kernel
theorem dX12_tellGains_15 : decode cX12_tellGains 15 = .ok (.if_icmp .ge 117, 3) := by decide +kernel
theorem dX12_tellGains_18 : decode cX12_tellGains 18 = .ok (.aload_n 0, 1) := by decide +kernel
theorem dX12_tellGains_19 : decode cX12_tellGains 19 = .ok (.iload_n 1, 1) := by decide +kernel
theorem dX12_tellGains_20 : decode cX12_tellGains 20 = .ok (.iload 4, 2) := by decide +kernel
theorem dX12_tellGains_22 : decode cX12_tellGains 22 = .ok (.iconst 2, 1) := by decide +kernel
theorem dX12_tellGains_23 : decode cX12_tellGains 23 = .ok (.idiv, 1) := by decide +kernel
theorem dX12_tellGains_24 : decode cX12_tellGains 24 = .ok (.invokevirtual 483, 3) := by decide +kernel
theorem dX12_tellGains_27 : decode cX12_tellGains 27 = .ok (.aload_n 0, 1) := by decide +kernel
theorem dX12_tellGains_28 : decode cX12_tellGains 28 = .ok (.iload_n 2, 1) := by decide +kernel
theorem dX12_tellGains_29 : decode cX12_tellGains 29 = .ok (.iload 4, 2) := by decide +kernel
theorem dX12_tellGains_31 : decode cX12_tellGains 31 = .ok (.iconst 2, 1) := by decide +kernel
theorem dX12_tellGains_32 : decode cX12_tellGains 32 = .ok (.irem, 1) := by decide +kernel
theorem dX12_tellGains_33 : decode cX12_tellGains 33 = .ok (.invokevirtual 483, 3) := by decide +kernel
theorem dX12_tellGains_36 : decode cX12_tellGains 36 = .ok (.aload_n 0, 1) := by decide +kernel
theorem dX12_tellGains_37 : decode cX12_tellGains 37 = .ok (.iload_n 3, 1) := by decide +kernel
theorem dX12_tellGains_38 : decode cX12_tellGains 38 = .ok (.invokevirtual 436, 3) := by decide +kernel
theorem dX12_tellGains_41 : decode cX12_tellGains 41 = .ok (.istore 5, 2) := by decide +kernel
theorem dX12_tellGains_43 : decode cX12_tellGains 43 = .ok (.aload_n 0, 1) := by decide +kernel
theorem dX12_tellGains_44 : decode cX12_tellGains 44 = .ok (.getfield 154, 3) := by decide +kernel
theorem dX12_tellGains_47 : decode cX12_tellGains 47 = .ok (.iconst 2, 1) := by decide +kernel
theorem dX12_tellGains_48 : decode cX12_tellGains 48 = .ok (.iload 4, 2) := by decide +kernel
theorem dX12_tellGains_50 : decode cX12_tellGains 50 = .ok (.imul, 1) := by decide +kernel
theorem dX12_tellGains_51 : decode cX12_tellGains 51 = .ok (.iload 5, 2) := by decide +kernel
theorem dX12_tellGains_53 : decode cX12_tellGains 53 = .ok (.iload_n 1, 1) := by decide +kernel
theorem dX12_tellGains_54 : decode cX12_tellGains 54 = .ok (.if_icmp .ne 8, 3) := by decide +kernel
theorem dX12_tellGains_57 : decode cX12_tellGains 57 = .ok (.bipush 10, 2) := by decide +kernel
theorem dX12_tellGains_59 : decode cX12_tellGains 59 = .ok (.goto 4, 3) := by decide +kernel
theorem dX12_tellGains_62 : decode cX12_tellGains 62 = .ok (.iconst 0, 1) := by decide +kernel
theorem dX12_tellGains_63 : decode cX12_tellGains 63 = .ok (.iload 4, 2) := by decide +kernel
theorem dX12_tellGains_65 : decode cX12_tellGains 65 = .ok (.iconst 2, 1) := by decide +kernel
theorem dX12_tellGains_66 : decode cX12_tellGains 66 = .ok (.idiv, 1) := by decide +kernel
theorem dX12_tellGains_67 : decode cX12_tellGains 67 = .ok (.iconst 1, 1) := by decide +kernel
theorem dX12_tellGains_68 : decode cX12_tellGains 68 = .ok (.if_icmp .ne 8, 3) := by decide +kernel
theorem dX12_tellGains_71 : decode cX12_tellGains 71 = .ok (.bipush (-2), 2) := by decide +kernel
theorem dX12_tellGains_73 : decode cX12_tellGains 73 = .ok (.goto 4, 3) := by decide +kernel
theorem dX12_tellGains_76 : decode cX12_tellGains 76 = .ok (.iconst 1, 1) := by decide +kernel
theorem dX12_tellGains_77 : decode cX12_tellGains 77 = .ok (.iadd, 1) := by decide +kernel
theorem dX12_tellGains_78 : decode cX12_tellGains 78 = .ok (.iastore, 1) := by decide +kernel
theorem dX12_tellGains_79 : decode cX12_tellGains 79 = .ok (.aload_n 0, 1) := by decide +kernel
theorem dX12_tellGains_80 : decode cX12_tellGains 80 = .ok (.getfield 154, 3) := by decide +kernel
theorem dX12_tellGains_83 : decode cX12_tellGains 83 = .ok (.iconst 2, 1) := by decide +kernel
theorem dX12_tellGains_84 : decode cX12_tellGains 84 = .ok (.iload 4, 2) := by decide +kernel
theorem dX12_tellGains_86 : decode cX12_tellGains 86 = .ok (.imul, 1) := by decide +kernel
theorem dX12_tellGains_87 : decode cX12_tellGains 87 = .ok (.iconst 1, 1) := by decide +kernel
theorem dX12_tellGains_88 : decode cX12_tellGains 88 = .ok (.iadd, 1) := by decide +kernel
theorem dX12_tellGains_89 : decode cX12_tellGains 89 = .ok (.iload 5, 2) := by decide +kernel
theorem dX12_tellGains_91 : decode cX12_tellGains 91 = .ok (.iload_n 2, 1) := by decide +kernel
theorem dX12_tellGains_92 : decode cX12_tellGains 92 = .ok (.if_icmp .ne 8, 3) := by decide +kernel
theorem dX12_tellGains_95 : decode cX12_tellGains 95 = .ok (.bipush 10, 2) := by decide +kernel
theorem dX12_tellGains_97 : decode cX12_tellGains 97 = .ok (.goto 4, 3) := by decide +kernel
theorem dX12_tellGains_100 : decode cX12_tellGains 100 = .ok (.iconst 0, 1) := by decide +kernel
theorem dX12_tellGains_101 : decode cX12_tellGains 101 = .ok (.iload 4, 2) := by decide +kernel
theorem dX12_tellGains_103 : decode cX12_tellGains 103 = .ok (.iconst 2, 1) := by decide +kernel
theorem dX12_tellGains_104 : decode cX12_tellGains 104 = .ok (.irem, 1) := by decide +kernel
theorem dX12_tellGains_105 : decode cX12_tellGains 105 = .ok (.iconst 1, 1) := by decide +kernel
theorem dX12_tellGains_106 : decode cX12_tellGains 106 = .ok (.if_icmp .ne 8, 3) := by decide +kernel
theorem dX12_tellGains_109 : decode cX12_tellGains 109 = .ok (.bipush (-2), 2) := by decide +kernel
theorem dX12_tellGains_111 : decode cX12_tellGains 111 = .ok (.goto 4, 3) := by decide +kernel
theorem dX12_tellGains_114 : decode cX12_tellGains 114 = .ok (.iconst 1, 1) := by decide +kernel
theorem dX12_tellGains_115 : decode cX12_tellGains 115 = .ok (.iadd, 1) := by decide +kernel
theorem dX12_tellGains_116 : decode cX12_tellGains 116 = .ok (.iastore, 1) := by decide +kernel
theorem dX12_tellGains_117 : decode cX12_tellGains 117 = .ok (.aload_n 0, 1) := by decide +kernel
theorem dX12_tellGains_118 : decode cX12_tellGains 118 = .ok (.aload_n 0, 1) := by decide +kernel
theorem dX12_tellGains_119 : decode cX12_tellGains 119 = .ok (.getfield 157, 3) := by decide +kernel
theorem dX12_tellGains_122 : decode cX12_tellGains 122 = .ok (.iconst 0, 1) := by decide +kernel
theorem dX12_tellGains_123 : decode cX12_tellGains 123 = .ok (.invokevirtual 433, 3) := by decide +kernel
theorem dX12_tellGains_126 : decode cX12_tellGains 126 = .ok (.iinc 4 1, 3) := by decide +kernel
theorem dX12_tellGains_129 : decode cX12_tellGains 129 = .ok (.goto (-117), 3) := by decide +kernel
theorem dX12_tellGains_132 : decode cX12_tellGains 132 = .ok (.return_, 1) := by decide +kernel
theorem dX12_game_0 : decode cX12_game 0 = .ok (.aload_n 0, 1) := by decide +kernel
theorem dX12_game_1 : decode cX12_game 1 = .ok (.iconst 0, 1) := by decide +kernel
theorem dX12_game_2 : decode cX12_game 2 = .ok (.putfield 184, 3) := by decide +kernel
theorem dX12_game_5 : decode cX12_game 5 = .ok (.aload_n 0, 1) := by decide +kernel
theorem dX12_game_6 : decode cX12_game 6 = .ok (.iload_n 1, 1) := by decide +kernel
theorem dX12_game_7 : decode cX12_game 7 = .ok (.invokevirtual 406, 3) := by decide +kernel
theorem dX12_game_10 : decode cX12_game 10 = .ok (.ifCond .eq 30, 3) := by decide +kernel
theorem dX12_game_13 : decode cX12_game 13 = .ok (.aload_n 0, 1) := by decide +kernel
theorem dX12_game_14 : decode cX12_game 14 = .ok (.iload_n 2, 1) := by decide +kernel
theorem dX12_game_15 : decode cX12_game 15 = .ok (.invokevirtual 406, 3) := by decide +kernel
theorem dX12_game_18 : decode cX12_game 18 = .ok (.ifCond .eq 22, 3) := by decide +kernel
theorem dX12_game_21 : decode cX12_game 21 = .ok (.aload_n 0, 1) := by decide +kernel
theorem dX12_game_22 : decode cX12_game 22 = .ok (.iload_n 3, 1) := by decide +kernel
theorem dX12_game_23 : decode cX12_game 23 = .ok (.invokevirtual 409, 3) := by decide +kernel
theorem dX12_game_26 : decode cX12_game 26 = .ok (.ifCond .eq 14, 3) := by decide +kernel
theorem dX12_game_29 : decode cX12_game 29 = .ok (.iload 4, 2) := by decide +kernel
theorem dX12_game_31 : decode cX12_game 31 = .ok (.ifCond .lt 9, 3) := by decide +kernel
theorem dX12_game_34 : decode cX12_game 34 = .ok (.iload 4, 2) := by decide +kernel
theorem dX12_game_36 : decode cX12_game 36 = .ok (.iconst 1, 1) := by decide +kernel
theorem dX12_game_37 : decode cX12_game 37 = .ok (.if_icmp .le 9, 3) := by decide +kernel
theorem dX12_game_40 : decode cX12_game 40 = .ok (.aload_n 0, 1) := by decide +kernel
theorem dX12_game_41 : decode cX12_game 41 = .ok (.iconst 1, 1) := by decide +kernel
theorem dX12_game_42 : decode cX12_game 42 = .ok (.invokevirtual 329, 3) := by decide +kernel
theorem dX12_game_45 : decode cX12_game 45 = .ok (.ireturn, 1) := by decide +kernel
theorem dX12_game_46 : decode cX12_game 46 = .ok (.iload_n 1, 1) := by decide +kernel
theorem dX12_game_47 : decode cX12_game 47 = .ok (.iload_n 2, 1) := by decide +kernel
theorem dX12_game_48 : decode cX12_game 48 = .ok (.if_icmp .eq 40, 3) := by decide +kernel
theorem dX12_game_51 : decode cX12_game 51 = .ok (.aload_n 0, 1) := by decide +kernel
theorem dX12_game_52 : decode cX12_game 52 = .ok (.getfield 105, 3) := by decide +kernel
theorem dX12_game_55 : decode cX12_game 55 = .ok (.bipush 6, 2) := by decide +kernel
theorem dX12_game_57 : decode cX12_game 57 = .ok (.iload_n 1, 1) := by decide +kernel
theorem dX12_game_58 : decode cX12_game 58 = .ok (.imul, 1) := by decide +kernel
theorem dX12_game_59 : decode cX12_game 59 = .ok (.iload_n 3, 1) := by decide +kernel
theorem dX12_game_60 : decode cX12_game 60 = .ok (.iadd, 1) := by decide +kernel
theorem dX12_game_61 : decode cX12_game 61 = .ok (.iaload, 1) := by decide +kernel
theorem dX12_game_62 : decode cX12_game 62 = .ok (.ifCond .eq 26, 3) := by decide +kernel
theorem dX12_game_65 : decode cX12_game 65 = .ok (.aload_n 0, 1) := by decide +kernel
theorem dX12_game_66 : decode cX12_game 66 = .ok (.getfield 105, 3) := by decide +kernel
theorem dX12_game_69 : decode cX12_game 69 = .ok (.bipush 6, 2) := by decide +kernel
theorem dX12_game_71 : decode cX12_game 71 = .ok (.iload_n 2, 1) := by decide +kernel
theorem dX12_game_72 : decode cX12_game 72 = .ok (.imul, 1) := by decide +kernel
theorem dX12_game_73 : decode cX12_game 73 = .ok (.iload_n 3, 1) := by decide +kernel
theorem dX12_game_74 : decode cX12_game 74 = .ok (.iadd, 1) := by decide +kernel
theorem dX12_game_75 : decode cX12_game 75 = .ok (.iaload, 1) := by decide +kernel
theorem dX12_game_76 : decode cX12_game 76 = .ok (.ifCond .eq 12, 3) := by decide +kernel
theorem dX12_game_79 : decode cX12_game 79 = .ok (.aload_n 0, 1) := by decide +kernel
theorem dX12_game_80 : decode cX12_game 80 = .ok (.getfield 99, 3) := by decide +kernel
theorem dX12_game_83 : decode cX12_game 83 = .ok (.iload_n 3, 1) := by decide +kernel
theorem dX12_game_84 : decode cX12_game 84 = .ok (.iaload, 1) := by decide +kernel
theorem dX12_game_85 : decode cX12_game 85 = .ok (.ifCond .ne 9, 3) := by decide +kernel
theorem dX12_game_88 : decode cX12_game 88 = .ok (.aload_n 0, 1) := by decide +kernel
theorem dX12_game_89 : decode cX12_game 89 = .ok (.iconst 2, 1) := by decide +kernel
theorem dX12_game_90 : decode cX12_game 90 = .ok (.invokevirtual 329, 3) := by decide +kernel
theorem dX12_game_93 : decode cX12_game 93 = .ok (.ireturn, 1) := by decide +kernel
theorem dX12_game_94 : decode cX12_game 94 = .ok (.aload_n 0, 1) := by decide +kernel
theorem dX12_game_95 : decode cX12_game 95 = .ok (.iload_n 1, 1) := by decide +kernel
theorem dX12_game_96 : decode cX12_game 96 = .ok (.iload_n 2, 1) := by decide +kernel
theorem dX12_game_97 : decode cX12_game 97 = .ok (.iload_n 3, 1) := by decide +kernel
theorem dX12_game_98 : decode cX12_game 98 = .ok (.invokevirtual 487, 3) := by decide +kernel
theorem dX12_game_101 : decode cX12_game 101 = .ok (.iconst 0, 1) := by decide +kernel
theorem dX12_game_102 : decode cX12_game 102 = .ok (.istore 5, 2) := by decide +kernel
theorem dX12_game_104 : decode cX12_game 104 = .ok (.iconst (-1), 1) := by decide +kernel
theorem dX12_game_105 : decode cX12_game 105 = .ok (.istore 6, 2) := by decide +kernel
theorem dX12_game_107 : decode cX12_game 107 = .ok (.iconst 0, 1) := by decide +kernel
theorem dX12_game_108 : decode cX12_game 108 = .ok (.istore 7, 2) := by decide +kernel
theorem dX12_game_110 : decode cX12_game 110 = .ok (.iload 7, 2) := by decide +kernel
theorem dX12_game_112 : decode cX12_game 112 = .ok (.iconst 4, 1) := by decide +kernel
theorem dX12_game_113 : decode cX12_game 113 = .ok (.if_icmp .ge 90, 3) := by decide +kernel
theorem dX12_game_116 : decode cX12_game 116 = .ok (.aload_n 0, 1) := by decide +kernel
theorem dX12_game_117 : decode cX12_game 117 = .ok (.getfield 154, 3) := by decide +kernel
theorem dX12_game_120 : decode cX12_game 120 = .ok (.iconst 2, 1) := by decide +kernel
theorem dX12_game_121 : decode cX12_game 121 = .ok (.iload 7, 2) := by decide +kernel
theorem dX12_game_123 : decode cX12_game 123 = .ok (.iconst 2, 1) := by decide +kernel
theorem dX12_game_124 : decode cX12_game 124 = .ok (.ixor, 1) := by decide +kernel
theorem dX12_game_125 : decode cX12_game 125 = .ok (.imul, 1) := by decide +kernel
theorem dX12_game_126 : decode cX12_game 126 = .ok (.iaload, 1) := by decide +kernel
theorem dX12_game_127 : decode cX12_game 127 = .ok (.aload_n 0, 1) := by decide +kernel
theorem dX12_game_128 : decode cX12_game 128 = .ok (.getfield 154, 3) := by decide +kernel
theorem dX12_game_131 : decode cX12_game 131 = .ok (.iconst 2, 1) := by decide +kernel
theorem dX12_game_132 : decode cX12_game 132 = .ok (.iload 7, 2) := by decide +kernel
theorem dX12_game_134 : decode cX12_game 134 = .ok (.imul, 1) := by decide +kernel
theorem dX12_game_135 : decode cX12_game 135 = .ok (.iaload, 1) := by decide +kernel
theorem dX12_game_136 : decode cX12_game 136 = .ok (.if_icmp .gt 61, 3) := by decide +kernel
theorem dX12_game_139 : decode cX12_game 139 = .ok (.aload_n 0, 1) := by decide +kernel
theorem dX12_game_140 : decode cX12_game 140 = .ok (.getfield 154, 3) := by decide +kernel
theorem dX12_game_143 : decode cX12_game 143 = .ok (.iconst 2, 1) := by decide +kernel
theorem dX12_game_144 : decode cX12_game 144 = .ok (.iload 7, 2) := by decide +kernel
theorem dX12_game_146 : decode cX12_game 146 = .ok (.iconst 1, 1) := by decide +kernel
theorem dX12_game_147 : decode cX12_game 147 = .ok (.ixor, 1) := by decide +kernel
theorem dX12_game_148 : decode cX12_game 148 = .ok (.imul, 1) := by decide +kernel
theorem dX12_game_149 : decode cX12_game 149 = .ok (.iconst 1, 1) := by decide +kernel
theorem dX12_game_150 : decode cX12_game 150 = .ok (.iadd, 1) := by decide +kernel
theorem dX12_game_151 : decode cX12_game 151 = .ok (.iaload, 1) := by decide +kernel
theorem dX12_game_152 : decode cX12_game 152 = .ok (.aload_n 0, 1) := by decide +kernel
theorem dX12_game_153 : decode cX12_game 153 = .ok (.getfield 154, 3) := by decide +kernel
theorem dX12_game_156 : decode cX12_game 156 = .ok (.iconst 2, 1) := by decide +kernel
theorem dX12_game_157 : decode cX12_game 157 = .ok (.iload 7, 2) := by decide +kernel
theorem dX12_game_159 : decode cX12_game 159 = .ok (.imul, 1) := by decide +kernel
theorem dX12_game_160 : decode cX12_game 160 = .ok (.iconst 1, 1) := by decide +kernel
theorem dX12_game_161 : decode cX12_game 161 = .ok (.iadd, 1) := by decide +kernel
theorem dX12_game_162 : decode cX12_game 162 = .ok (.iaload, 1) := by decide +kernel
theorem dX12_game_163 : decode cX12_game 163 = .ok (.if_icmp .le 6, 3) := by decide +kernel
theorem dX12_game_166 : decode cX12_game 166 = .ok (.goto 31, 3) := by decide +kernel
theorem dX12_game_169 : decode cX12_game 169 = .ok (.iinc 5 1, 3) := by decide +kernel
theorem dX12_game_172 : decode cX12_game 172 = .ok (.iload 6, 2) := by decide +kernel
theorem dX12_game_174 : decode cX12_game 174 = .ok (.iconst (-1), 1) := by decide +kernel
theorem dX12_game_175 : decode cX12_game 175 = .ok (.if_icmp .ne 18, 3) := by decide +kernel
theorem dX12_game_178 : decode cX12_game 178 = .ok (.bipush 10, 2) := by decide +kernel
theorem dX12_game_180 : decode cX12_game 180 = .ok (.iload 7, 2) := by decide +kernel
theorem dX12_game_182 : decode cX12_game 182 = .ok (.iconst 2, 1) := by decide +kernel
theorem dX12_game_183 : decode cX12_game 183 = .ok (.idiv, 1) := by decide +kernel
theorem dX12_game_184 : decode cX12_game 184 = .ok (.imul, 1) := by decide +kernel
theorem dX12_game_185 : decode cX12_game 185 = .ok (.iload 7, 2) := by decide +kernel
theorem dX12_game_187 : decode cX12_game 187 = .ok (.iconst 2, 1) := by decide +kernel
theorem dX12_game_188 : decode cX12_game 188 = .ok (.irem, 1) := by decide +kernel
theorem dX12_game_189 : decode cX12_game 189 = .ok (.iadd, 1) := by decide +kernel
theorem dX12_game_190 : decode cX12_game 190 = .ok (.goto 5, 3) := by decide +kernel
theorem dX12_game_193 : decode cX12_game 193 = .ok (.iload 6, 2) := by decide +kernel
theorem dX12_game_195 : decode cX12_game 195 = .ok (.istore 6, 2) := by decide +kernel
theorem dX12_game_197 : decode cX12_game 197 = .ok (.iinc 7 1, 3) := by decide +kernel
theorem dX12_game_200 : decode cX12_game 200 = .ok (.goto (-90), 3) := by decide +kernel
theorem dX12_game_203 : decode cX12_game 203 = .ok (.iload 4, 2) := by decide +kernel
theorem dX12_game_205 : decode cX12_game 205 = .ok (.ifCond .ne 8, 3) := by decide +kernel
theorem dX12_game_208 : decode cX12_game 208 = .ok (.iload 5, 2) := by decide +kernel
theorem dX12_game_210 : decode cX12_game 210 = .ok (.goto 5, 3) := by decide +kernel
theorem dX12_game_213 : decode cX12_game 213 = .ok (.iload 6, 2) := by decide +kernel
theorem dX12_game_215 : decode cX12_game 215 = .ok (.ireturn, 1) := by decide +kernel
theorem dX12_drawOf_0 : decode cX12_drawOf 0 = .ok (.aload_n 0, 1) := by decide +kernel
theorem dX12_drawOf_1 : decode cX12_drawOf 1 = .ok (.aload_n 0, 1) := by decide +kernel
theorem dX12_drawOf_2 : decode cX12_drawOf 2 = .ok (.getfield 491, 3) := by decide +kernel
theorem dX12_drawOf_5 : decode cX12_drawOf 5 = .ok (.ldc_w 494, 3) := by decide +kernel
theorem dX12_drawOf_8 : decode cX12_drawOf 8 = .ok (.imul, 1) := by decide +kernel
theorem dX12_drawOf_9 : decode cX12_drawOf 9 = .ok (.sipush 12345, 3) := by decide +kernel
theorem dX12_drawOf_12 : decode cX12_drawOf 12 = .ok (.iadd, 1) := by decide +kernel
theorem dX12_drawOf_13 : decode cX12_drawOf 13 = .ok (.putfield 491, 3) := by decide +kernel
theorem dX12_drawOf_16 : decode cX12_drawOf 16 = .ok (.aload_n 0, 1) := by decide +kernel
theorem dX12_drawOf_17 : decode cX12_drawOf 17 = .ok (.getfield 491, 3) := by decide +kernel
theorem dX12_drawOf_20 : decode cX12_drawOf 20 = .ok (.bipush 16, 2) := by decide +kernel
theorem dX12_drawOf_22 : decode cX12_drawOf 22 = .ok (.ishr, 1) := by decide +kernel
theorem dX12_drawOf_23 : decode cX12_drawOf 23 = .ok (.sipush 32767, 3) := by decide +kernel
theorem dX12_drawOf_26 : decode cX12_drawOf 26 = .ok (.iand, 1) := by decide +kernel
theorem dX12_drawOf_27 : decode cX12_drawOf 27 = .ok (.iload_n 1, 1) := by decide +kernel
theorem dX12_drawOf_28 : decode cX12_drawOf 28 = .ok (.irem, 1) := by decide +kernel
theorem dX12_drawOf_29 : decode cX12_drawOf 29 = .ok (.ireturn, 1) := by decide +kernel
theorem dX12_something_0 : decode cX12_something 0 = .ok (.aload_n 0, 1) := by decide +kernel
theorem dX12_something_1 : decode cX12_something 1 = .ok (.bipush 6, 2) := by decide +kernel
theorem dX12_something_3 : decode cX12_something 3 = .ok (.invokevirtual 495, 3) := by decide +kernel
theorem dX12_something_6 : decode cX12_something 6 = .ok (.istore_n 1, 1) := by decide +kernel
theorem dX12_something_7 : decode cX12_something 7 = .ok (.iload_n 1, 1) := by decide +kernel
theorem dX12_something_8 : decode cX12_something 8 = .ok (.ifCond .ne 43, 3) := by decide +kernel
theorem dX12_something_11 : decode cX12_something 11 = .ok (.aload_n 0, 1) := by decide +kernel
theorem dX12_something_12 : decode cX12_something 12 = .ok (.getfield 48, 3) := by decide +kernel
theorem dX12_something_15 : decode cX12_something 15 = .ok (.iconst 0, 1) := by decide +kernel
theorem dX12_something_16 : decode cX12_something 16 = .ok (.iaload, 1) := by decide +kernel
theorem dX12_something_17 : decode cX12_something 17 = .ok (.ifCond .le 34, 3) := by decide +kernel
theorem dX12_something_20 : decode cX12_something 20 = .ok (.aload_n 0, 1) := by decide +kernel
theorem dX12_something_21 : decode cX12_something 21 = .ok (.aload_n 0, 1) := by decide +kernel
theorem dX12_something_22 : decode cX12_something 22 = .ok (.getfield 48, 3) := by decide +kernel
theorem dX12_something_25 : decode cX12_something 25 = .ok (.iconst 0, 1) := by decide +kernel
theorem dX12_something_26 : decode cX12_something 26 = .ok (.iaload, 1) := by decide +kernel
theorem dX12_something_27 : decode cX12_something 27 = .ok (.invokevirtual 495, 3) := by decide +kernel
theorem dX12_something_30 : decode cX12_something 30 = .ok (.istore_n 2, 1) := by decide +kernel
theorem dX12_something_31 : decode cX12_something 31 = .ok (.aload_n 0, 1) := by decide +kernel
theorem dX12_something_32 : decode cX12_something 32 = .ok (.getfield 85, 3) := by decide +kernel
theorem dX12_something_35 : decode cX12_something 35 = .ok (.iload_n 2, 1) := by decide +kernel
theorem dX12_something_36 : decode cX12_something 36 = .ok (.bipush 99, 2) := by decide +kernel
theorem dX12_something_38 : decode cX12_something 38 = .ok (.aload_n 0, 1) := by decide +kernel
theorem dX12_something_39 : decode cX12_something 39 = .ok (.getfield 85, 3) := by decide +kernel
theorem dX12_something_42 : decode cX12_something 42 = .ok (.iload_n 2, 1) := by decide +kernel
theorem dX12_something_43 : decode cX12_something 43 = .ok (.iaload, 1) := by decide +kernel
theorem dX12_something_44 : decode cX12_something 44 = .ok (.bipush 15, 2) := by decide +kernel
theorem dX12_something_46 : decode cX12_something 46 = .ok (.iadd, 1) := by decide +kernel
theorem dX12_something_47 : decode cX12_something 47 = .ok (.invokestatic 221, 3) := by decide +kernel
theorem dX12_something_50 : decode cX12_something 50 = .ok (.iastore, 1) := by decide +kernel
theorem dX12_something_51 : decode cX12_something 51 = .ok (.iload_n 1, 1) := by decide +kernel
theorem dX12_something_52 : decode cX12_something 52 = .ok (.iconst 1, 1) := by decide +kernel
theorem dX12_something_53 : decode cX12_something 53 = .ok (.if_icmp .ne 56, 3) := by decide +kernel
theorem dX12_something_56 : decode cX12_something 56 = .ok (.aload_n 0, 1) := by decide +kernel
theorem dX12_something_57 : decode cX12_something 57 = .ok (.getfield 48, 3) := by decide +kernel
theorem dX12_something_60 : decode cX12_something 60 = .ok (.iconst 1, 1) := by decide +kernel
theorem dX12_something_61 : decode cX12_something 61 = .ok (.iaload, 1) := by decide +kernel
theorem dX12_something_62 : decode cX12_something 62 = .ok (.ifCond .le 47, 3) := by decide +kernel
theorem dX12_something_65 : decode cX12_something 65 = .ok (.aload_n 0, 1) := by decide +kernel
theorem dX12_something_66 : decode cX12_something 66 = .ok (.aload_n 0, 1) := by decide +kernel
theorem dX12_something_67 : decode cX12_something 67 = .ok (.getfield 48, 3) := by decide +kernel
theorem dX12_something_70 : decode cX12_something 70 = .ok (.iconst 1, 1) := by decide +kernel
theorem dX12_something_71 : decode cX12_something 71 = .ok (.iaload, 1) := by decide +kernel
theorem dX12_something_72 : decode cX12_something 72 = .ok (.invokevirtual 495, 3) := by decide +kernel
theorem dX12_something_75 : decode cX12_something 75 = .ok (.istore_n 2, 1) := by decide +kernel
theorem dX12_something_76 : decode cX12_something 76 = .ok (.aload_n 0, 1) := by decide +kernel
theorem dX12_something_77 : decode cX12_something 77 = .ok (.getfield 99, 3) := by decide +kernel
theorem dX12_something_80 : decode cX12_something 80 = .ok (.iload_n 2, 1) := by decide +kernel
theorem dX12_something_81 : decode cX12_something 81 = .ok (.iaload, 1) := by decide +kernel
theorem dX12_something_82 : decode cX12_something 82 = .ok (.iconst 1, 1) := by decide +kernel
theorem dX12_something_83 : decode cX12_something 83 = .ok (.if_icmp .ne 26, 3) := by decide +kernel
theorem dX12_something_86 : decode cX12_something 86 = .ok (.aload_n 0, 1) := by decide +kernel
theorem dX12_something_87 : decode cX12_something 87 = .ok (.getfield 96, 3) := by decide +kernel
theorem dX12_something_90 : decode cX12_something 90 = .ok (.iload_n 2, 1) := by decide +kernel
theorem dX12_something_91 : decode cX12_something 91 = .ok (.iaload, 1) := by decide +kernel
theorem dX12_something_92 : decode cX12_something 92 = .ok (.aload_n 0, 1) := by decide +kernel
theorem dX12_something_93 : decode cX12_something 93 = .ok (.getfield 342, 3) := by decide +kernel
theorem dX12_something_96 : decode cX12_something 96 = .ok (.if_icmp .lt 13, 3) := by decide +kernel
theorem dX12_something_99 : decode cX12_something 99 = .ok (.aload_n 0, 1) := by decide +kernel
theorem dX12_something_100 : decode cX12_something 100 = .ok (.getfield 96, 3) := by decide +kernel
theorem dX12_something_103 : decode cX12_something 103 = .ok (.iload_n 2, 1) := by decide +kernel
theorem dX12_something_104 : decode cX12_something 104 = .ok (.dup2, 1) := by decide +kernel
theorem dX12_something_105 : decode cX12_something 105 = .ok (.iaload, 1) := by decide +kernel
theorem dX12_something_106 : decode cX12_something 106 = .ok (.iconst 2, 1) := by decide +kernel
theorem dX12_something_107 : decode cX12_something 107 = .ok (.iadd, 1) := by decide +kernel
theorem dX12_something_108 : decode cX12_something 108 = .ok (.iastore, 1) := by decide +kernel
theorem dX12_something_109 : decode cX12_something 109 = .ok (.return_, 1) := by decide +kernel
theorem dX12_drawn_0 : decode cX12_drawn 0 = .ok (.aload_n 0, 1) := by decide +kernel
theorem dX12_drawn_1 : decode cX12_drawn 1 = .ok (.iconst 0, 1) := by decide +kernel
theorem dX12_drawn_2 : decode cX12_drawn 2 = .ok (.putfield 184, 3) := by decide +kernel
theorem dX12_drawn_5 : decode cX12_drawn 5 = .ok (.iload_n 3, 1) := by decide +kernel
theorem dX12_drawn_6 : decode cX12_drawn 6 = .ok (.i2l, 1) := by decide +kernel
theorem dX12_drawn_7 : decode cX12_drawn 7 = .ok (.lconst 0, 1) := by decide +kernel
theorem dX12_drawn_8 : decode cX12_drawn 8 = .ok (.ldc2_w 475, 3) := by decide +kernel
theorem dX12_drawn_11 : decode cX12_drawn 11 = .ok (.invokestatic 187, 3) := by decide +kernel
theorem dX12_drawn_14 : decode cX12_drawn 14 = .ok (.ifCond .ne 9, 3) := by decide +kernel
theorem dX12_drawn_17 : decode cX12_drawn 17 = .ok (.aload_n 0, 1) := by decide +kernel
theorem dX12_drawn_18 : decode cX12_drawn 18 = .ok (.iconst 1, 1) := by decide +kernel
theorem dX12_drawn_19 : decode cX12_drawn 19 = .ok (.invokevirtual 329, 3) := by decide +kernel
theorem dX12_drawn_22 : decode cX12_drawn 22 = .ok (.ireturn, 1) := by decide +kernel
theorem dX12_drawn_23 : decode cX12_drawn 23 = .ok (.iload_n 2, 1) := by decide +kernel
theorem dX12_drawn_24 : decode cX12_drawn 24 = .ok (.i2l, 1) := by decide +kernel
theorem dX12_drawn_25 : decode cX12_drawn 25 = .ok (.lconst 0, 1) := by decide +kernel
theorem dX12_drawn_26 : decode cX12_drawn 26 = .ok (.ldc2_w 439, 3) := by decide +kernel
theorem dX12_drawn_29 : decode cX12_drawn 29 = .ok (.invokestatic 187, 3) := by decide +kernel
theorem dX12_drawn_32 : decode cX12_drawn 32 = .ok (.ifCond .ne 9, 3) := by decide +kernel
theorem dX12_drawn_35 : decode cX12_drawn 35 = .ok (.aload_n 0, 1) := by decide +kernel
theorem dX12_drawn_36 : decode cX12_drawn 36 = .ok (.iconst 2, 1) := by decide +kernel
theorem dX12_drawn_37 : decode cX12_drawn 37 = .ok (.invokevirtual 329, 3) := by decide +kernel
theorem dX12_drawn_40 : decode cX12_drawn 40 = .ok (.ireturn, 1) := by decide +kernel
theorem dX12_drawn_41 : decode cX12_drawn 41 = .ok (.aload_n 0, 1) := by decide +kernel
theorem dX12_drawn_42 : decode cX12_drawn 42 = .ok (.aload_n 0, 1) := by decide +kernel
theorem dX12_drawn_43 : decode cX12_drawn 43 = .ok (.getfield 120, 3) := by decide +kernel
theorem dX12_drawn_46 : decode cX12_drawn 46 = .ok (.iconst 0, 1) := by decide +kernel
theorem dX12_drawn_47 : decode cX12_drawn 47 = .ok (.invokevirtual 412, 3) := by decide +kernel
theorem dX12_drawn_50 : decode cX12_drawn 50 = .ok (.aload_n 0, 1) := by decide +kernel
theorem dX12_drawn_51 : decode cX12_drawn 51 = .ok (.iload_n 1, 1) := by decide +kernel
theorem dX12_drawn_52 : decode cX12_drawn 52 = .ok (.putfield 491, 3) := by decide +kernel
theorem dX12_drawn_55 : decode cX12_drawn 55 = .ok (.aload_n 0, 1) := by decide +kernel
theorem dX12_drawn_56 : decode cX12_drawn 56 = .ok (.getfield 344, 3) := by decide +kernel
theorem dX12_drawn_59 : decode cX12_drawn 59 = .ok (.istore 4, 2) := by decide +kernel
theorem dX12_drawn_61 : decode cX12_drawn 61 = .ok (.iconst 0, 1) := by decide +kernel
theorem dX12_drawn_62 : decode cX12_drawn 62 = .ok (.istore 5, 2) := by decide +kernel
theorem dX12_drawn_64 : decode cX12_drawn 64 = .ok (.iload 5, 2) := by decide +kernel
theorem dX12_drawn_66 : decode cX12_drawn 66 = .ok (.iload_n 2, 1) := by decide +kernel
theorem dX12_drawn_67 : decode cX12_drawn 67 = .ok (.if_icmp .ge 17, 3) := by decide +kernel
theorem dX12_drawn_70 : decode cX12_drawn 70 = .ok (.aload_n 0, 1) := by decide +kernel
theorem dX12_drawn_71 : decode cX12_drawn 71 = .ok (.invokevirtual 498, 3) := by decide +kernel
theorem dX12_drawn_74 : decode cX12_drawn 74 = .ok (.aload_n 0, 1) := by decide +kernel
theorem dX12_drawn_75 : decode cX12_drawn 75 = .ok (.invokevirtual 391, 3) := by decide +kernel
theorem dX12_drawn_78 : decode cX12_drawn 78 = .ok (.iinc 5 1, 3) := by decide +kernel
theorem dX12_drawn_81 : decode cX12_drawn 81 = .ok (.goto (-17), 3) := by decide +kernel
theorem dX12_drawn_84 : decode cX12_drawn 84 = .ok (.iload_n 3, 1) := by decide +kernel
theorem dX12_drawn_85 : decode cX12_drawn 85 = .ok (.ifCond .ne 20, 3) := by decide +kernel
theorem dX12_drawn_88 : decode cX12_drawn 88 = .ok (.aload_n 0, 1) := by decide +kernel
theorem dX12_drawn_89 : decode cX12_drawn 89 = .ok (.getfield 48, 3) := by decide +kernel
theorem dX12_drawn_92 : decode cX12_drawn 92 = .ok (.iconst 1, 1) := by decide +kernel
theorem dX12_drawn_93 : decode cX12_drawn 93 = .ok (.iaload, 1) := by decide +kernel
theorem dX12_drawn_94 : decode cX12_drawn 94 = .ok (.aload_n 0, 1) := by decide +kernel
theorem dX12_drawn_95 : decode cX12_drawn 95 = .ok (.invokevirtual 400, 3) := by decide +kernel
theorem dX12_drawn_98 : decode cX12_drawn 98 = .ok (.invokestatic 360, 3) := by decide +kernel
theorem dX12_drawn_101 : decode cX12_drawn 101 = .ok (.isub, 1) := by decide +kernel
theorem dX12_drawn_102 : decode cX12_drawn 102 = .ok (.goto 22, 3) := by decide +kernel
theorem dX12_drawn_105 : decode cX12_drawn 105 = .ok (.iload_n 3, 1) := by decide +kernel
theorem dX12_drawn_106 : decode cX12_drawn 106 = .ok (.iconst 1, 1) := by decide +kernel
theorem dX12_drawn_107 : decode cX12_drawn 107 = .ok (.if_icmp .ne 13, 3) := by decide +kernel
theorem dX12_drawn_110 : decode cX12_drawn 110 = .ok (.aload_n 0, 1) := by decide +kernel
theorem dX12_drawn_111 : decode cX12_drawn 111 = .ok (.getfield 344, 3) := by decide +kernel
theorem dX12_drawn_114 : decode cX12_drawn 114 = .ok (.iload 4, 2) := by decide +kernel
theorem dX12_drawn_116 : decode cX12_drawn 116 = .ok (.isub, 1) := by decide +kernel
theorem dX12_drawn_117 : decode cX12_drawn 117 = .ok (.goto 7, 3) := by decide +kernel
theorem dX12_drawn_120 : decode cX12_drawn 120 = .ok (.aload_n 0, 1) := by decide +kernel
theorem dX12_drawn_121 : decode cX12_drawn 121 = .ok (.invokevirtual 403, 3) := by decide +kernel
theorem dX12_drawn_124 : decode cX12_drawn 124 = .ok (.istore 5, 2) := by decide +kernel
theorem dX12_drawn_126 : decode cX12_drawn 126 = .ok (.aload_n 0, 1) := by decide +kernel
theorem dX12_drawn_127 : decode cX12_drawn 127 = .ok (.aload_n 0, 1) := by decide +kernel
theorem dX12_drawn_128 : decode cX12_drawn 128 = .ok (.getfield 120, 3) := by decide +kernel
theorem dX12_drawn_131 : decode cX12_drawn 131 = .ok (.iconst 0, 1) := by decide +kernel
theorem dX12_drawn_132 : decode cX12_drawn 132 = .ok (.invokevirtual 433, 3) := by decide +kernel
theorem dX12_drawn_135 : decode cX12_drawn 135 = .ok (.iload 5, 2) := by decide +kernel
theorem dX12_drawn_137 : decode cX12_drawn 137 = .ok (.ireturn, 1) := by decide +kernel
theorem dX12_copyTo_0 : decode cX12_copyTo 0 = .ok (.iconst 0, 1) := by decide +kernel
theorem dX12_copyTo_1 : decode cX12_copyTo 1 = .ok (.istore_n 2, 1) := by decide +kernel
theorem dX12_copyTo_2 : decode cX12_copyTo 2 = .ok (.iload_n 2, 1) := by decide +kernel
theorem dX12_copyTo_3 : decode cX12_copyTo 3 = .ok (.aload_n 0, 1) := by decide +kernel
theorem dX12_copyTo_4 : decode cX12_copyTo 4 = .ok (.arraylength, 1) := by decide +kernel
theorem dX12_copyTo_5 : decode cX12_copyTo 5 = .ok (.if_icmp .ge 15, 3) := by decide +kernel
theorem dX12_copyTo_8 : decode cX12_copyTo 8 = .ok (.aload_n 0, 1) := by decide +kernel
theorem dX12_copyTo_9 : decode cX12_copyTo 9 = .ok (.iload_n 2, 1) := by decide +kernel
theorem dX12_copyTo_10 : decode cX12_copyTo 10 = .ok (.aload_n 1, 1) := by decide +kernel
theorem dX12_copyTo_11 : decode cX12_copyTo 11 = .ok (.iload_n 2, 1) := by decide +kernel
theorem dX12_copyTo_12 : decode cX12_copyTo 12 = .ok (.iaload, 1) := by decide +kernel
theorem dX12_copyTo_13 : decode cX12_copyTo 13 = .ok (.iastore, 1) := by decide +kernel
theorem dX12_copyTo_14 : decode cX12_copyTo 14 = .ok (.iinc 2 1, 3) := by decide +kernel
theorem dX12_copyTo_17 : decode cX12_copyTo 17 = .ok (.goto (-15), 3) := by decide +kernel
theorem dX12_copyTo_20 : decode cX12_copyTo 20 = .ok (.return_, 1) := by decide +kernel
theorem dX12_image_0 : decode cX12_image 0 = .ok (.aload_n 0, 1) := by decide +kernel
theorem dX12_image_1 : decode cX12_image 1 = .ok (.iconst 0, 1) := by decide +kernel
theorem dX12_image_2 : decode cX12_image 2 = .ok (.putfield 184, 3) := by decide +kernel
theorem dX12_image_5 : decode cX12_image 5 = .ok (.aload_n 0, 1) := by decide +kernel
theorem dX12_image_6 : decode cX12_image 6 = .ok (.iconst 1, 1) := by decide +kernel
theorem dX12_image_7 : decode cX12_image 7 = .ok (.putfield 353, 3) := by decide +kernel
theorem dX12_image_10 : decode cX12_image 10 = .ok (.aload_n 0, 1) := by decide +kernel
theorem dX12_image_11 : decode cX12_image 11 = .ok (.aload_n 0, 1) := by decide +kernel
theorem dX12_image_12 : decode cX12_image 12 = .ok (.getfield 347, 3) := by decide +kernel
theorem dX12_image_15 : decode cX12_image 15 = .ok (.putfield 501, 3) := by decide +kernel
theorem dX12_image_18 : decode cX12_image 18 = .ok (.aload_n 0, 1) := by decide +kernel
theorem dX12_image_19 : decode cX12_image 19 = .ok (.aload_n 0, 1) := by decide +kernel
theorem dX12_image_20 : decode cX12_image 20 = .ok (.getfield 350, 3) := by decide +kernel
theorem dX12_image_23 : decode cX12_image 23 = .ok (.putfield 504, 3) := by decide +kernel
theorem dX12_image_26 : decode cX12_image 26 = .ok (.aload_n 0, 1) := by decide +kernel
theorem dX12_image_27 : decode cX12_image 27 = .ok (.aload_n 0, 1) := by decide +kernel
theorem dX12_image_28 : decode cX12_image 28 = .ok (.getfield 160, 3) := by decide +kernel
theorem dX12_image_31 : decode cX12_image 31 = .ok (.iconst 0, 1) := by decide +kernel
theorem dX12_image_32 : decode cX12_image 32 = .ok (.invokevirtual 412, 3) := by decide +kernel
theorem dX12_image_35 : decode cX12_image 35 = .ok (.aload_n 0, 1) := by decide +kernel
theorem dX12_image_36 : decode cX12_image 36 = .ok (.getfield 163, 3) := by decide +kernel
theorem dX12_image_39 : decode cX12_image 39 = .ok (.aload_n 0, 1) := by decide +kernel
theorem dX12_image_40 : decode cX12_image 40 = .ok (.getfield 108, 3) := by decide +kernel
theorem dX12_image_43 : decode cX12_image 43 = .ok (.invokestatic 507, 3) := by decide +kernel
theorem dX12_image_46 : decode cX12_image 46 = .ok (.aload_n 0, 1) := by decide +kernel
theorem dX12_image_47 : decode cX12_image 47 = .ok (.getfield 166, 3) := by decide +kernel
theorem dX12_image_50 : decode cX12_image 50 = .ok (.aload_n 0, 1) := by decide +kernel
theorem dX12_image_51 : decode cX12_image 51 = .ok (.getfield 129, 3) := by decide +kernel
theorem dX12_image_54 : decode cX12_image 54 = .ok (.invokestatic 507, 3) := by decide +kernel
theorem dX12_image_57 : decode cX12_image 57 = .ok (.aload_n 0, 1) := by decide +kernel
theorem dX12_image_58 : decode cX12_image 58 = .ok (.getfield 169, 3) := by decide +kernel
theorem dX12_image_61 : decode cX12_image 61 = .ok (.aload_n 0, 1) := by decide +kernel
theorem dX12_image_62 : decode cX12_image 62 = .ok (.getfield 132, 3) := by decide +kernel
theorem dX12_image_65 : decode cX12_image 65 = .ok (.invokestatic 507, 3) := by decide +kernel
theorem dX12_image_68 : decode cX12_image 68 = .ok (.aload_n 0, 1) := by decide +kernel
theorem dX12_image_69 : decode cX12_image 69 = .ok (.getfield 172, 3) := by decide +kernel
theorem dX12_image_72 : decode cX12_image 72 = .ok (.aload_n 0, 1) := by decide +kernel
theorem dX12_image_73 : decode cX12_image 73 = .ok (.getfield 135, 3) := by decide +kernel
theorem dX12_image_76 : decode cX12_image 76 = .ok (.invokestatic 507, 3) := by decide +kernel
theorem dX12_image_79 : decode cX12_image 79 = .ok (.aload_n 0, 1) := by decide +kernel
theorem dX12_image_80 : decode cX12_image 80 = .ok (.getfield 175, 3) := by decide +kernel
theorem dX12_image_83 : decode cX12_image 83 = .ok (.aload_n 0, 1) := by decide +kernel
theorem dX12_image_84 : decode cX12_image 84 = .ok (.getfield 138, 3) := by decide +kernel
theorem dX12_image_87 : decode cX12_image 87 = .ok (.invokestatic 507, 3) := by decide +kernel
theorem dX12_image_90 : decode cX12_image 90 = .ok (.iconst 0, 1) := by decide +kernel
theorem dX12_image_91 : decode cX12_image 91 = .ok (.istore_n 1, 1) := by decide +kernel
theorem dX12_image_92 : decode cX12_image 92 = .ok (.iload_n 1, 1) := by decide +kernel
theorem dX12_image_93 : decode cX12_image 93 = .ok (.bipush 8, 2) := by decide +kernel
theorem dX12_image_95 : decode cX12_image 95 = .ok (.if_icmp .ge 21, 3) := by decide +kernel
theorem dX12_image_98 : decode cX12_image 98 = .ok (.aload_n 0, 1) := by decide +kernel
theorem dX12_image_99 : decode cX12_image 99 = .ok (.getfield 181, 3) := by decide +kernel
theorem dX12_image_102 : decode cX12_image 102 = .ok (.iload_n 1, 1) := by decide +kernel
theorem dX12_image_103 : decode cX12_image 103 = .ok (.aload_n 0, 1) := by decide +kernel
theorem dX12_image_104 : decode cX12_image 104 = .ok (.getfield 144, 3) := by decide +kernel
theorem dX12_image_107 : decode cX12_image 107 = .ok (.iload_n 1, 1) := by decide +kernel
theorem dX12_image_108 : decode cX12_image 108 = .ok (.baload, 1) := by decide +kernel
theorem dX12_image_109 : decode cX12_image 109 = .ok (.bastore, 1) := by decide +kernel
theorem dX12_image_110 : decode cX12_image 110 = .ok (.iinc 1 1, 3) := by decide +kernel
theorem dX12_image_113 : decode cX12_image 113 = .ok (.goto (-21), 3) := by decide +kernel
theorem dX12_image_116 : decode cX12_image 116 = .ok (.aload_n 0, 1) := by decide +kernel
theorem dX12_image_117 : decode cX12_image 117 = .ok (.getfield 178, 3) := by decide +kernel
theorem dX12_image_120 : decode cX12_image 120 = .ok (.aload_n 0, 1) := by decide +kernel
theorem dX12_image_121 : decode cX12_image 121 = .ok (.getfield 75, 3) := by decide +kernel
theorem dX12_image_124 : decode cX12_image 124 = .ok (.invokestatic 507, 3) := by decide +kernel
theorem dX12_image_127 : decode cX12_image 127 = .ok (.return_, 1) := by decide +kernel
theorem dX12_restore_0 : decode cX12_restore 0 = .ok (.aload_n 0, 1) := by decide +kernel
theorem dX12_restore_1 : decode cX12_restore 1 = .ok (.iconst 0, 1) := by decide +kernel
theorem dX12_restore_2 : decode cX12_restore 2 = .ok (.putfield 184, 3) := by decide +kernel
theorem dX12_restore_5 : decode cX12_restore 5 = .ok (.aload_n 0, 1) := by decide +kernel
theorem dX12_restore_6 : decode cX12_restore 6 = .ok (.getfield 353, 3) := by decide +kernel
theorem dX12_restore_9 : decode cX12_restore 9 = .ok (.ifCond .ne 5, 3) := by decide +kernel
theorem dX12_restore_12 : decode cX12_restore 12 = .ok (.iconst 0, 1) := by decide +kernel
theorem dX12_restore_13 : decode cX12_restore 13 = .ok (.ireturn, 1) := by decide +kernel
theorem dX12_restore_14 : decode cX12_restore 14 = .ok (.aload_n 0, 1) := by decide +kernel
theorem dX12_restore_15 : decode cX12_restore 15 = .ok (.aload_n 0, 1) := by decide +kernel
theorem dX12_restore_16 : decode cX12_restore 16 = .ok (.getfield 501, 3) := by decide +kernel
theorem dX12_restore_19 : decode cX12_restore 19 = .ok (.putfield 347, 3) := by decide +kernel
theorem dX12_restore_22 : decode cX12_restore 22 = .ok (.aload_n 0, 1) := by decide +kernel
theorem dX12_restore_23 : decode cX12_restore 23 = .ok (.aload_n 0, 1) := by decide +kernel
theorem dX12_restore_24 : decode cX12_restore 24 = .ok (.getfield 504, 3) := by decide +kernel
theorem dX12_restore_27 : decode cX12_restore 27 = .ok (.putfield 350, 3) := by decide +kernel
theorem dX12_restore_30 : decode cX12_restore 30 = .ok (.aload_n 0, 1) := by decide +kernel
theorem dX12_restore_31 : decode cX12_restore 31 = .ok (.aload_n 0, 1) := by decide +kernel
theorem dX12_restore_32 : decode cX12_restore 32 = .ok (.getfield 160, 3) := by decide +kernel
theorem dX12_restore_35 : decode cX12_restore 35 = .ok (.iconst 0, 1) := by decide +kernel
theorem dX12_restore_36 : decode cX12_restore 36 = .ok (.invokevirtual 433, 3) := by decide +kernel
theorem dX12_restore_39 : decode cX12_restore 39 = .ok (.aload_n 0, 1) := by decide +kernel
theorem dX12_restore_40 : decode cX12_restore 40 = .ok (.getfield 108, 3) := by decide +kernel
theorem dX12_restore_43 : decode cX12_restore 43 = .ok (.aload_n 0, 1) := by decide +kernel
theorem dX12_restore_44 : decode cX12_restore 44 = .ok (.getfield 163, 3) := by decide +kernel
theorem dX12_restore_47 : decode cX12_restore 47 = .ok (.invokestatic 507, 3) := by decide +kernel
theorem dX12_restore_50 : decode cX12_restore 50 = .ok (.aload_n 0, 1) := by decide +kernel
theorem dX12_restore_51 : decode cX12_restore 51 = .ok (.getfield 129, 3) := by decide +kernel
theorem dX12_restore_54 : decode cX12_restore 54 = .ok (.aload_n 0, 1) := by decide +kernel
theorem dX12_restore_55 : decode cX12_restore 55 = .ok (.getfield 166, 3) := by decide +kernel
theorem dX12_restore_58 : decode cX12_restore 58 = .ok (.invokestatic 507, 3) := by decide +kernel
theorem dX12_restore_61 : decode cX12_restore 61 = .ok (.aload_n 0, 1) := by decide +kernel
theorem dX12_restore_62 : decode cX12_restore 62 = .ok (.getfield 132, 3) := by decide +kernel
theorem dX12_restore_65 : decode cX12_restore 65 = .ok (.aload_n 0, 1) := by decide +kernel
theorem dX12_restore_66 : decode cX12_restore 66 = .ok (.getfield 169, 3) := by decide +kernel
theorem dX12_restore_69 : decode cX12_restore 69 = .ok (.invokestatic 507, 3) := by decide +kernel
theorem dX12_restore_72 : decode cX12_restore 72 = .ok (.aload_n 0, 1) := by decide +kernel
theorem dX12_restore_73 : decode cX12_restore 73 = .ok (.getfield 135, 3) := by decide +kernel
theorem dX12_restore_76 : decode cX12_restore 76 = .ok (.aload_n 0, 1) := by decide +kernel
theorem dX12_restore_77 : decode cX12_restore 77 = .ok (.getfield 172, 3) := by decide +kernel
theorem dX12_restore_80 : decode cX12_restore 80 = .ok (.invokestatic 507, 3) := by decide +kernel
theorem dX12_restore_83 : decode cX12_restore 83 = .ok (.aload_n 0, 1) := by decide +kernel
theorem dX12_restore_84 : decode cX12_restore 84 = .ok (.getfield 138, 3) := by decide +kernel
theorem dX12_restore_87 : decode cX12_restore 87 = .ok (.aload_n 0, 1) := by decide +kernel
theorem dX12_restore_88 : decode cX12_restore 88 = .ok (.getfield 175, 3) := by decide +kernel
theorem dX12_restore_91 : decode cX12_restore 91 = .ok (.invokestatic 507, 3) := by decide +kernel
theorem dX12_restore_94 : decode cX12_restore 94 = .ok (.iconst 0, 1) := by decide +kernel
theorem dX12_restore_95 : decode cX12_restore 95 = .ok (.istore_n 1, 1) := by decide +kernel
theorem dX12_restore_96 : decode cX12_restore 96 = .ok (.iload_n 1, 1) := by decide +kernel
theorem dX12_restore_97 : decode cX12_restore 97 = .ok (.bipush 8, 2) := by decide +kernel
theorem dX12_restore_99 : decode cX12_restore 99 = .ok (.if_icmp .ge 21, 3) := by decide +kernel
theorem dX12_restore_102 : decode cX12_restore 102 = .ok (.aload_n 0, 1) := by decide +kernel
theorem dX12_restore_103 : decode cX12_restore 103 = .ok (.getfield 144, 3) := by decide +kernel
theorem dX12_restore_106 : decode cX12_restore 106 = .ok (.iload_n 1, 1) := by decide +kernel
theorem dX12_restore_107 : decode cX12_restore 107 = .ok (.aload_n 0, 1) := by decide +kernel
theorem dX12_restore_108 : decode cX12_restore 108 = .ok (.getfield 181, 3) := by decide +kernel
theorem dX12_restore_111 : decode cX12_restore 111 = .ok (.iload_n 1, 1) := by decide +kernel
theorem dX12_restore_112 : decode cX12_restore 112 = .ok (.baload, 1) := by decide +kernel
theorem dX12_restore_113 : decode cX12_restore 113 = .ok (.bastore, 1) := by decide +kernel
theorem dX12_restore_114 : decode cX12_restore 114 = .ok (.iinc 1 1, 3) := by decide +kernel
theorem dX12_restore_117 : decode cX12_restore 117 = .ok (.goto (-21), 3) := by decide +kernel
theorem dX12_restore_120 : decode cX12_restore 120 = .ok (.aload_n 0, 1) := by decide +kernel
theorem dX12_restore_121 : decode cX12_restore 121 = .ok (.getfield 75, 3) := by decide +kernel
theorem dX12_restore_124 : decode cX12_restore 124 = .ok (.aload_n 0, 1) := by decide +kernel
theorem dX12_restore_125 : decode cX12_restore 125 = .ok (.getfield 178, 3) := by decide +kernel
theorem dX12_restore_128 : decode cX12_restore 128 = .ok (.invokestatic 507, 3) := by decide +kernel
theorem dX12_restore_131 : decode cX12_restore 131 = .ok (.iconst 1, 1) := by decide +kernel
theorem dX12_restore_132 : decode cX12_restore 132 = .ok (.ireturn, 1) := by decide +kernel
theorem dJ11_isValidCodePoint_9a6ad_0 : decode cJ11_isValidCodePoint_9a6ad 0 = .ok (.iload_n 0, 1) := by decide +kernel
theorem dJ11_isValidCodePoint_9a6ad_1 : decode cJ11_isValidCodePoint_9a6ad 1 = .ok (.bipush 16, 2) := by decide +kernel
theorem dJ11_isValidCodePoint_9a6ad_3 : decode cJ11_isValidCodePoint_9a6ad 3 = .ok (.iushr, 1) := by decide +kernel
theorem dJ11_isValidCodePoint_9a6ad_4 : decode cJ11_isValidCodePoint_9a6ad 4 = .ok (.istore_n 1, 1) := by decide +kernel
theorem dJ11_isValidCodePoint_9a6ad_5 : decode cJ11_isValidCodePoint_9a6ad 5 = .ok (.iload_n 1, 1) := by decide +kernel
theorem dJ11_isValidCodePoint_9a6ad_6 : decode cJ11_isValidCodePoint_9a6ad 6 = .ok (.bipush 17, 2) := by decide +kernel
theorem dJ11_isValidCodePoint_9a6ad_8 : decode cJ11_isValidCodePoint_9a6ad 8 = .ok (.if_icmp .ge 7, 3) := by decide +kernel
theorem dJ11_isValidCodePoint_9a6ad_11 : decode cJ11_isValidCodePoint_9a6ad 11 = .ok (.iconst 1, 1) := by decide +kernel
theorem dJ11_isValidCodePoint_9a6ad_12 : decode cJ11_isValidCodePoint_9a6ad 12 = .ok (.goto 4, 3) := by decide +kernel
theorem dJ11_isValidCodePoint_9a6ad_15 : decode cJ11_isValidCodePoint_9a6ad 15 = .ok (.iconst 0, 1) := by decide +kernel
theorem dJ11_isValidCodePoint_9a6ad_16 : decode cJ11_isValidCodePoint_9a6ad 16 = .ok (.ireturn, 1) := by decide +kernel
theorem dJ11_highSurrogate_5068e_0 : decode cJ11_highSurrogate_5068e 0 = .ok (.iload_n 0, 1) := by decide +kernel
theorem dJ11_highSurrogate_5068e_1 : decode cJ11_highSurrogate_5068e 1 = .ok (.bipush 10, 2) := by decide +kernel
theorem dJ11_highSurrogate_5068e_3 : decode cJ11_highSurrogate_5068e 3 = .ok (.iushr, 1) := by decide +kernel
theorem dJ11_highSurrogate_5068e_4 : decode cJ11_highSurrogate_5068e 4 = .ok (.ldc 110, 2) := by decide +kernel
theorem dJ11_highSurrogate_5068e_6 : decode cJ11_highSurrogate_5068e 6 = .ok (.iadd, 1) := by decide +kernel
theorem dJ11_highSurrogate_5068e_7 : decode cJ11_highSurrogate_5068e 7 = .ok (.i2c, 1) := by decide +kernel
theorem dJ11_highSurrogate_5068e_8 : decode cJ11_highSurrogate_5068e 8 = .ok (.ireturn, 1) := by decide +kernel
theorem dJ11_lowSurrogate_5068e_0 : decode cJ11_lowSurrogate_5068e 0 = .ok (.iload_n 0, 1) := by decide +kernel
theorem dJ11_lowSurrogate_5068e_1 : decode cJ11_lowSurrogate_5068e 1 = .ok (.sipush 1023, 3) := by decide +kernel
theorem dJ11_lowSurrogate_5068e_4 : decode cJ11_lowSurrogate_5068e 4 = .ok (.iand, 1) := by decide +kernel
theorem dJ11_lowSurrogate_5068e_5 : decode cJ11_lowSurrogate_5068e 5 = .ok (.ldc 76, 2) := by decide +kernel
theorem dJ11_lowSurrogate_5068e_7 : decode cJ11_lowSurrogate_5068e 7 = .ok (.iadd, 1) := by decide +kernel
theorem dJ11_lowSurrogate_5068e_8 : decode cJ11_lowSurrogate_5068e 8 = .ok (.i2c, 1) := by decide +kernel
theorem dJ11_lowSurrogate_5068e_9 : decode cJ11_lowSurrogate_5068e 9 = .ok (.ireturn, 1) := by decide +kernel
theorem dJ6_bitCount_0f7a4_0 : decode cJ6_bitCount_0f7a4 0 = .ok (.iload_n 0, 1) := by decide +kernel
theorem dJ6_bitCount_0f7a4_1 : decode cJ6_bitCount_0f7a4 1 = .ok (.iload_n 0, 1) := by decide +kernel
theorem dJ6_bitCount_0f7a4_2 : decode cJ6_bitCount_0f7a4 2 = .ok (.iconst 1, 1) := by decide +kernel
theorem dJ6_bitCount_0f7a4_3 : decode cJ6_bitCount_0f7a4 3 = .ok (.iushr, 1) := by decide +kernel
theorem dJ6_bitCount_0f7a4_4 : decode cJ6_bitCount_0f7a4 4 = .ok (.ldc_w 265, 3) := by decide +kernel
theorem dJ6_bitCount_0f7a4_7 : decode cJ6_bitCount_0f7a4 7 = .ok (.iand, 1) := by decide +kernel
theorem dJ6_bitCount_0f7a4_8 : decode cJ6_bitCount_0f7a4 8 = .ok (.isub, 1) := by decide +kernel
theorem dJ6_bitCount_0f7a4_9 : decode cJ6_bitCount_0f7a4 9 = .ok (.istore_n 0, 1) := by decide +kernel
theorem dJ6_bitCount_0f7a4_10 : decode cJ6_bitCount_0f7a4 10 = .ok (.iload_n 0, 1) := by decide +kernel
theorem dJ6_bitCount_0f7a4_11 : decode cJ6_bitCount_0f7a4 11 = .ok (.ldc_w 266, 3) := by decide +kernel
theorem dJ6_bitCount_0f7a4_14 : decode cJ6_bitCount_0f7a4 14 = .ok (.iand, 1) := by decide +kernel
theorem dJ6_bitCount_0f7a4_15 : decode cJ6_bitCount_0f7a4 15 = .ok (.iload_n 0, 1) := by decide +kernel
theorem dJ6_bitCount_0f7a4_16 : decode cJ6_bitCount_0f7a4 16 = .ok (.iconst 2, 1) := by decide +kernel
theorem dJ6_bitCount_0f7a4_17 : decode cJ6_bitCount_0f7a4 17 = .ok (.iushr, 1) := by decide +kernel
theorem dJ6_bitCount_0f7a4_18 : decode cJ6_bitCount_0f7a4 18 = .ok (.ldc_w 266, 3) := by decide +kernel
theorem dJ6_bitCount_0f7a4_21 : decode cJ6_bitCount_0f7a4 21 = .ok (.iand, 1) := by decide +kernel
theorem dJ6_bitCount_0f7a4_22 : decode cJ6_bitCount_0f7a4 22 = .ok (.iadd, 1) := by decide +kernel
theorem dJ6_bitCount_0f7a4_23 : decode cJ6_bitCount_0f7a4 23 = .ok (.istore_n 0, 1) := by decide +kernel
theorem dJ6_bitCount_0f7a4_24 : decode cJ6_bitCount_0f7a4 24 = .ok (.iload_n 0, 1) := by decide +kernel
theorem dJ6_bitCount_0f7a4_25 : decode cJ6_bitCount_0f7a4 25 = .ok (.iload_n 0, 1) := by decide +kernel
theorem dJ6_bitCount_0f7a4_26 : decode cJ6_bitCount_0f7a4 26 = .ok (.iconst 4, 1) := by decide +kernel
theorem dJ6_bitCount_0f7a4_27 : decode cJ6_bitCount_0f7a4 27 = .ok (.iushr, 1) := by decide +kernel
theorem dJ6_bitCount_0f7a4_28 : decode cJ6_bitCount_0f7a4 28 = .ok (.iadd, 1) := by decide +kernel
theorem dJ6_bitCount_0f7a4_29 : decode cJ6_bitCount_0f7a4 29 = .ok (.ldc_w 267, 3) := by decide +kernel
theorem dJ6_bitCount_0f7a4_32 : decode cJ6_bitCount_0f7a4 32 = .ok (.iand, 1) := by decide +kernel
theorem dJ6_bitCount_0f7a4_33 : decode cJ6_bitCount_0f7a4 33 = .ok (.istore_n 0, 1) := by decide +kernel
theorem dJ6_bitCount_0f7a4_34 : decode cJ6_bitCount_0f7a4 34 = .ok (.iload_n 0, 1) := by decide +kernel
theorem dJ6_bitCount_0f7a4_35 : decode cJ6_bitCount_0f7a4 35 = .ok (.iload_n 0, 1) := by decide +kernel
theorem dJ6_bitCount_0f7a4_36 : decode cJ6_bitCount_0f7a4 36 = .ok (.bipush 8, 2) := by decide +kernel
theorem dJ6_bitCount_0f7a4_38 : decode cJ6_bitCount_0f7a4 38 = .ok (.iushr, 1) := by decide +kernel
theorem dJ6_bitCount_0f7a4_39 : decode cJ6_bitCount_0f7a4 39 = .ok (.iadd, 1) := by decide +kernel
theorem dJ6_bitCount_0f7a4_40 : decode cJ6_bitCount_0f7a4 40 = .ok (.istore_n 0, 1) := by decide +kernel
theorem dJ6_bitCount_0f7a4_41 : decode cJ6_bitCount_0f7a4 41 = .ok (.iload_n 0, 1) := by decide +kernel
theorem dJ6_bitCount_0f7a4_42 : decode cJ6_bitCount_0f7a4 42 = .ok (.iload_n 0, 1) := by decide +kernel
theorem dJ6_bitCount_0f7a4_43 : decode cJ6_bitCount_0f7a4 43 = .ok (.bipush 16, 2) := by decide +kernel
theorem dJ6_bitCount_0f7a4_45 : decode cJ6_bitCount_0f7a4 45 = .ok (.iushr, 1) := by decide +kernel
theorem dJ6_bitCount_0f7a4_46 : decode cJ6_bitCount_0f7a4 46 = .ok (.iadd, 1) := by decide +kernel
theorem dJ6_bitCount_0f7a4_47 : decode cJ6_bitCount_0f7a4 47 = .ok (.istore_n 0, 1) := by decide +kernel
theorem dJ6_bitCount_0f7a4_48 : decode cJ6_bitCount_0f7a4 48 = .ok (.iload_n 0, 1) := by decide +kernel
theorem dJ6_bitCount_0f7a4_49 : decode cJ6_bitCount_0f7a4 49 = .ok (.bipush 63, 2) := by decide +kernel
theorem dJ6_bitCount_0f7a4_51 : decode cJ6_bitCount_0f7a4 51 = .ok (.iand, 1) := by decide +kernel
theorem dJ6_bitCount_0f7a4_52 : decode cJ6_bitCount_0f7a4 52 = .ok (.ireturn, 1) := by decide +kernel
theorem dJ9_max_7cf53_0 : decode cJ9_max_7cf53 0 = .ok (.iload_n 0, 1) := by decide +kernel
theorem dJ9_max_7cf53_1 : decode cJ9_max_7cf53 1 = .ok (.iload_n 1, 1) := by decide +kernel
theorem dJ9_max_7cf53_2 : decode cJ9_max_7cf53 2 = .ok (.if_icmp .lt 7, 3) := by decide +kernel
theorem dJ9_max_7cf53_5 : decode cJ9_max_7cf53 5 = .ok (.iload_n 0, 1) := by decide +kernel
theorem dJ9_max_7cf53_6 : decode cJ9_max_7cf53 6 = .ok (.goto 4, 3) := by decide +kernel
theorem dJ9_max_7cf53_9 : decode cJ9_max_7cf53 9 = .ok (.iload_n 1, 1) := by decide +kernel
theorem dJ9_max_7cf53_10 : decode cJ9_max_7cf53 10 = .ok (.ireturn, 1) := by decide +kernel
theorem dJ9_min_7cf53_0 : decode cJ9_min_7cf53 0 = .ok (.iload_n 0, 1) := by decide +kernel
theorem dJ9_min_7cf53_1 : decode cJ9_min_7cf53 1 = .ok (.iload_n 1, 1) := by decide +kernel
theorem dJ9_min_7cf53_2 : decode cJ9_min_7cf53 2 = .ok (.if_icmp .gt 7, 3) := by decide +kernel
theorem dJ9_min_7cf53_5 : decode cJ9_min_7cf53 5 = .ok (.iload_n 0, 1) := by decide +kernel
theorem dJ9_min_7cf53_6 : decode cJ9_min_7cf53 6 = .ok (.goto 4, 3) := by decide +kernel
theorem dJ9_min_7cf53_9 : decode cJ9_min_7cf53 9 = .ok (.iload_n 1, 1) := by decide +kernel
theorem dJ9_min_7cf53_10 : decode cJ9_min_7cf53 10 = .ok (.ireturn, 1) := by decide +kernel
theorem dJ0_length_8abf5_0 : decode cJ0_length_8abf5 0 = .ok (.aload_n 0, 1) := by decide +kernel
theorem dJ0_length_8abf5_1 : decode cJ0_length_8abf5 1 = .ok (.getfield 9, 3) := by decide +kernel
theorem dJ0_length_8abf5_4 : decode cJ0_length_8abf5 4 = .ok (.arraylength, 1) := by decide +kernel
theorem dJ0_length_8abf5_5 : decode cJ0_length_8abf5 5 = .ok (.aload_n 0, 1) := by decide +kernel
theorem dJ0_length_8abf5_6 : decode cJ0_length_8abf5 6 = .ok (.invokevirtual 335, 3) := by decide +kernel
theorem dJ0_length_8abf5_9 : decode cJ0_length_8abf5 9 = .ok (.ishr, 1) := by decide +kernel
theorem dJ0_length_8abf5_10 : decode cJ0_length_8abf5 10 = .ok (.ireturn, 1) := by decide +kernel
theorem dJ0_charAt_5068e_0 : decode cJ0_charAt_5068e 0 = .ok (.aload_n 0, 1) := by decide +kernel
theorem dJ0_charAt_5068e_1 : decode cJ0_charAt_5068e 1 = .ok (.invokevirtual 492, 3) := by decide +kernel
theorem dJ0_charAt_5068e_4 : decode cJ0_charAt_5068e 4 = .ok (.ifCond .eq 12, 3) := by decide +kernel
theorem dJ0_charAt_5068e_7 : decode cJ0_charAt_5068e 7 = .ok (.aload_n 0, 1) := by decide +kernel
theorem dJ0_charAt_5068e_8 : decode cJ0_charAt_5068e 8 = .ok (.getfield 9, 3) := by decide +kernel
theorem dJ0_charAt_5068e_11 : decode cJ0_charAt_5068e 11 = .ok (.iload_n 1, 1) := by decide +kernel
theorem dJ0_charAt_5068e_12 : decode cJ0_charAt_5068e 12 = .ok (.invokestatic 495, 3) := by decide +kernel
theorem dJ0_charAt_5068e_15 : decode cJ0_charAt_5068e 15 = .ok (.ireturn, 1) := by decide +kernel
theorem dJ0_charAt_5068e_16 : decode cJ0_charAt_5068e 16 = .ok (.aload_n 0, 1) := by decide +kernel
theorem dJ0_charAt_5068e_17 : decode cJ0_charAt_5068e 17 = .ok (.getfield 9, 3) := by decide +kernel
theorem dJ0_charAt_5068e_20 : decode cJ0_charAt_5068e 20 = .ok (.iload_n 1, 1) := by decide +kernel
theorem dJ0_charAt_5068e_21 : decode cJ0_charAt_5068e 21 = .ok (.invokestatic 498, 3) := by decide +kernel
theorem dJ0_charAt_5068e_24 : decode cJ0_charAt_5068e 24 = .ok (.ireturn, 1) := by decide +kernel
theorem dJ0_indexOf_0f7a4_0 : decode cJ0_indexOf_0f7a4 0 = .ok (.aload_n 0, 1) := by decide +kernel
theorem dJ0_indexOf_0f7a4_1 : decode cJ0_indexOf_0f7a4 1 = .ok (.iload_n 1, 1) := by decide +kernel
theorem dJ0_indexOf_0f7a4_2 : decode cJ0_indexOf_0f7a4 2 = .ok (.iconst 0, 1) := by decide +kernel
theorem dJ0_indexOf_0f7a4_3 : decode cJ0_indexOf_0f7a4 3 = .ok (.invokevirtual 633, 3) := by decide +kernel
theorem dJ0_indexOf_0f7a4_6 : decode cJ0_indexOf_0f7a4 6 = .ok (.ireturn, 1) := by decide +kernel
theorem dJ0_indexOf_7cf53_0 : decode cJ0_indexOf_7cf53 0 = .ok (.aload_n 0, 1) := by decide +kernel
theorem dJ0_indexOf_7cf53_1 : decode cJ0_indexOf_7cf53 1 = .ok (.invokevirtual 492, 3) := by decide +kernel
theorem dJ0_indexOf_7cf53_4 : decode cJ0_indexOf_7cf53 4 = .ok (.ifCond .eq 19, 3) := by decide +kernel
theorem dJ0_indexOf_7cf53_7 : decode cJ0_indexOf_7cf53 7 = .ok (.aload_n 0, 1) := by decide +kernel
theorem dJ0_indexOf_7cf53_8 : decode cJ0_indexOf_7cf53 8 = .ok (.getfield 9, 3) := by decide +kernel
theorem dJ0_indexOf_7cf53_11 : decode cJ0_indexOf_7cf53 11 = .ok (.iload_n 1, 1) := by decide +kernel
theorem dJ0_indexOf_7cf53_12 : decode cJ0_indexOf_7cf53 12 = .ok (.iload_n 2, 1) := by decide +kernel
theorem dJ0_indexOf_7cf53_13 : decode cJ0_indexOf_7cf53 13 = .ok (.aload_n 0, 1) := by decide +kernel
theorem dJ0_indexOf_7cf53_14 : decode cJ0_indexOf_7cf53 14 = .ok (.invokevirtual 505, 3) := by decide +kernel
theorem dJ0_indexOf_7cf53_17 : decode cJ0_indexOf_7cf53 17 = .ok (.invokestatic 637, 3) := by decide +kernel
theorem dJ0_indexOf_7cf53_20 : decode cJ0_indexOf_7cf53 20 = .ok (.goto 16, 3) := by decide +kernel
theorem dJ0_indexOf_7cf53_23 : decode cJ0_indexOf_7cf53 23 = .ok (.aload_n 0, 1) := by decide +kernel
theorem dJ0_indexOf_7cf53_24 : decode cJ0_indexOf_7cf53 24 = .ok (.getfield 9, 3) := by decide +kernel
theorem dJ0_indexOf_7cf53_27 : decode cJ0_indexOf_7cf53 27 = .ok (.iload_n 1, 1) := by decide +kernel
theorem dJ0_indexOf_7cf53_28 : decode cJ0_indexOf_7cf53 28 = .ok (.iload_n 2, 1) := by decide +kernel
theorem dJ0_indexOf_7cf53_29 : decode cJ0_indexOf_7cf53 29 = .ok (.aload_n 0, 1) := by decide +kernel
theorem dJ0_indexOf_7cf53_30 : decode cJ0_indexOf_7cf53 30 = .ok (.invokevirtual 505, 3) := by decide +kernel
theorem dJ0_indexOf_7cf53_33 : decode cJ0_indexOf_7cf53 33 = .ok (.invokestatic 640, 3) := by decide +kernel
theorem dJ0_indexOf_7cf53_36 : decode cJ0_indexOf_7cf53 36 = .ok (.ireturn, 1) := by decide +kernel
theorem dJ0_coder_7d493_0 : decode cJ0_coder_7d493 0 = .ok (.getstatic 38, 3) := by decide +kernel
theorem dJ0_coder_7d493_3 : decode cJ0_coder_7d493 3 = .ok (.ifCond .eq 10, 3) := by decide +kernel
theorem dJ0_coder_7d493_6 : decode cJ0_coder_7d493 6 = .ok (.aload_n 0, 1) := by decide +kernel
theorem dJ0_coder_7d493_7 : decode cJ0_coder_7d493 7 = .ok (.getfield 15, 3) := by decide +kernel
theorem dJ0_coder_7d493_10 : decode cJ0_coder_7d493 10 = .ok (.goto 4, 3) := by decide +kernel
theorem dJ0_coder_7d493_13 : decode cJ0_coder_7d493 13 = .ok (.iconst 1, 1) := by decide +kernel
theorem dJ0_coder_7d493_14 : decode cJ0_coder_7d493 14 = .ok (.ireturn, 1) := by decide +kernel
theorem dJ0_isLatin1_aae02_0 : decode cJ0_isLatin1_aae02 0 = .ok (.getstatic 38, 3) := by decide +kernel
theorem dJ0_isLatin1_aae02_3 : decode cJ0_isLatin1_aae02 3 = .ok (.ifCond .eq 14, 3) := by decide +kernel
theorem dJ0_isLatin1_aae02_6 : decode cJ0_isLatin1_aae02 6 = .ok (.aload_n 0, 1) := by decide +kernel
theorem dJ0_isLatin1_aae02_7 : decode cJ0_isLatin1_aae02 7 = .ok (.getfield 15, 3) := by decide +kernel
theorem dJ0_isLatin1_aae02_10 : decode cJ0_isLatin1_aae02 10 = .ok (.ifCond .ne 7, 3) := by decide +kernel
theorem dJ0_isLatin1_aae02_13 : decode cJ0_isLatin1_aae02 13 = .ok (.iconst 1, 1) := by decide +kernel
theorem dJ0_isLatin1_aae02_14 : decode cJ0_isLatin1_aae02 14 = .ok (.goto 4, 3) := by decide +kernel
theorem dJ0_isLatin1_aae02_17 : decode cJ0_isLatin1_aae02 17 = .ok (.iconst 0, 1) := by decide +kernel
theorem dJ0_isLatin1_aae02_18 : decode cJ0_isLatin1_aae02 18 = .ok (.ireturn, 1) := by decide +kernel
theorem dJ0_checkIndex_df160_0 : decode cJ0_checkIndex_df160 0 = .ok (.iload_n 0, 1) := by decide +kernel
theorem dJ0_checkIndex_df160_1 : decode cJ0_checkIndex_df160 1 = .ok (.iload_n 1, 1) := by decide +kernel
theorem dJ0_checkIndex_df160_2 : decode cJ0_checkIndex_df160 2 = .ok (.getstatic 1053, 3) := by decide +kernel
theorem dJ0_checkIndex_df160_5 : decode cJ0_checkIndex_df160 5 = .ok (.invokestatic 1059, 3) := by decide +kernel
theorem dJ0_checkIndex_df160_8 : decode cJ0_checkIndex_df160 8 = .ok (.pop, 1) := by decide +kernel
theorem dJ0_checkIndex_df160_9 : decode cJ0_checkIndex_df160 9 = .ok (.return_, 1) := by decide +kernel
theorem dJ0_checkBoundsBeginEnd_23922_0 : decode cJ0_checkBoundsBeginEnd_23922 0 = .ok (.iload_n 0, 1) := by decide +kernel
theorem dJ0_checkBoundsBeginEnd_23922_1 : decode cJ0_checkBoundsBeginEnd_23922 1 = .ok (.iload_n 1, 1) := by decide +kernel
theorem dJ0_checkBoundsBeginEnd_23922_2 : decode cJ0_checkBoundsBeginEnd_23922 2 = .ok (.iload_n 2, 1) := by decide +kernel
theorem dJ0_checkBoundsBeginEnd_23922_3 : decode cJ0_checkBoundsBeginEnd_23922 3 = .ok (.getstatic 1053, 3) := by decide +kernel
theorem dJ0_checkBoundsBeginEnd_23922_6 : decode cJ0_checkBoundsBeginEnd_23922 6 = .ok (.invokestatic 1062, 3) := by decide +kernel
theorem dJ0_checkBoundsBeginEnd_23922_9 : decode cJ0_checkBoundsBeginEnd_23922 9 = .ok (.pop, 1) := by decide +kernel
theorem dJ0_checkBoundsBeginEnd_23922_10 : decode cJ0_checkBoundsBeginEnd_23922 10 = .ok (.return_, 1) := by decide +kernel
theorem dJ1_charAt_3b067_0 : decode cJ1_charAt_3b067 0 = .ok (.iload_n 1, 1) := by decide +kernel
theorem dJ1_charAt_3b067_1 : decode cJ1_charAt_3b067 1 = .ok (.aload_n 0, 1) := by decide +kernel
theorem dJ1_charAt_3b067_2 : decode cJ1_charAt_3b067 2 = .ok (.arraylength, 1) := by decide +kernel
theorem dJ1_charAt_3b067_3 : decode cJ1_charAt_3b067 3 = .ok (.invokestatic 9, 3) := by decide +kernel
theorem dJ1_charAt_3b067_6 : decode cJ1_charAt_3b067 6 = .ok (.aload_n 0, 1) := by decide +kernel
theorem dJ1_charAt_3b067_7 : decode cJ1_charAt_3b067 7 = .ok (.iload_n 1, 1) := by decide +kernel
theorem dJ1_charAt_3b067_8 : decode cJ1_charAt_3b067 8 = .ok (.baload, 1) := by decide +kernel
theorem dJ1_charAt_3b067_9 : decode cJ1_charAt_3b067 9 = .ok (.sipush 255, 3) := by decide +kernel
theorem dJ1_charAt_3b067_12 : decode cJ1_charAt_3b067 12 = .ok (.iand, 1) := by decide +kernel
theorem dJ1_charAt_3b067_13 : decode cJ1_charAt_3b067 13 = .ok (.i2c, 1) := by decide +kernel
theorem dJ1_charAt_3b067_14 : decode cJ1_charAt_3b067 14 = .ok (.ireturn, 1) := by decide +kernel
theorem dJ1_canEncode_9a6ad_0 : decode cJ1_canEncode_9a6ad 0 = .ok (.iload_n 0, 1) := by decide +kernel
theorem dJ1_canEncode_9a6ad_1 : decode cJ1_canEncode_9a6ad 1 = .ok (.ifCond .lt 14, 3) := by decide +kernel
theorem dJ1_canEncode_9a6ad_4 : decode cJ1_canEncode_9a6ad 4 = .ok (.iload_n 0, 1) := by decide +kernel
theorem dJ1_canEncode_9a6ad_5 : decode cJ1_canEncode_9a6ad 5 = .ok (.sipush 255, 3) := by decide +kernel
theorem dJ1_canEncode_9a6ad_8 : decode cJ1_canEncode_9a6ad 8 = .ok (.if_icmp .gt 7, 3) := by decide +kernel
theorem dJ1_canEncode_9a6ad_11 : decode cJ1_canEncode_9a6ad 11 = .ok (.iconst 1, 1) := by decide +kernel
theorem dJ1_canEncode_9a6ad_12 : decode cJ1_canEncode_9a6ad 12 = .ok (.goto 4, 3) := by decide +kernel
theorem dJ1_canEncode_9a6ad_15 : decode cJ1_canEncode_9a6ad 15 = .ok (.iconst 0, 1) := by decide +kernel
theorem dJ1_canEncode_9a6ad_16 : decode cJ1_canEncode_9a6ad 16 = .ok (.ireturn, 1) := by decide +kernel
theorem dJ1_indexOf_4cfef_0 : decode cJ1_indexOf_4cfef 0 = .ok (.iload_n 1, 1) := by decide +kernel
theorem dJ1_indexOf_4cfef_1 : decode cJ1_indexOf_4cfef 1 = .ok (.invokestatic 88, 3) := by decide +kernel
theorem dJ1_indexOf_4cfef_4 : decode cJ1_indexOf_4cfef 4 = .ok (.ifCond .ne 5, 3) := by decide +kernel
theorem dJ1_indexOf_4cfef_7 : decode cJ1_indexOf_4cfef 7 = .ok (.iconst (-1), 1) := by decide +kernel
theorem dJ1_indexOf_4cfef_8 : decode cJ1_indexOf_4cfef 8 = .ok (.ireturn, 1) := by decide +kernel
theorem dJ1_indexOf_4cfef_9 : decode cJ1_indexOf_4cfef 9 = .ok (.iload_n 2, 1) := by decide +kernel
theorem dJ1_indexOf_4cfef_10 : decode cJ1_indexOf_4cfef 10 = .ok (.iconst 0, 1) := by decide +kernel
theorem dJ1_indexOf_4cfef_11 : decode cJ1_indexOf_4cfef 11 = .ok (.invokestatic 92, 3) := by decide +kernel
theorem dJ1_indexOf_4cfef_14 : decode cJ1_indexOf_4cfef 14 = .ok (.istore_n 2, 1) := by decide +kernel
theorem dJ1_indexOf_4cfef_15 : decode cJ1_indexOf_4cfef 15 = .ok (.iload_n 3, 1) := by decide +kernel
theorem dJ1_indexOf_4cfef_16 : decode cJ1_indexOf_4cfef 16 = .ok (.aload_n 0, 1) := by decide +kernel
theorem dJ1_indexOf_4cfef_17 : decode cJ1_indexOf_4cfef 17 = .ok (.arraylength, 1) := by decide +kernel
theorem dJ1_indexOf_4cfef_18 : decode cJ1_indexOf_4cfef 18 = .ok (.invokestatic 38, 3) := by decide +kernel
theorem dJ1_indexOf_4cfef_21 : decode cJ1_indexOf_4cfef 21 = .ok (.istore_n 3, 1) := by decide +kernel
theorem dJ1_indexOf_4cfef_22 : decode cJ1_indexOf_4cfef 22 = .ok (.iload_n 2, 1) := by decide +kernel
theorem dJ1_indexOf_4cfef_23 : decode cJ1_indexOf_4cfef 23 = .ok (.iload_n 3, 1) := by decide +kernel
theorem dJ1_indexOf_4cfef_24 : decode cJ1_indexOf_4cfef 24 = .ok (.if_icmp .lt 5, 3) := by decide +kernel
theorem dJ1_indexOf_4cfef_27 : decode cJ1_indexOf_4cfef 27 = .ok (.iconst (-1), 1) := by decide +kernel
theorem dJ1_indexOf_4cfef_28 : decode cJ1_indexOf_4cfef 28 = .ok (.ireturn, 1) := by decide +kernel
theorem dJ1_indexOf_4cfef_29 : decode cJ1_indexOf_4cfef 29 = .ok (.aload_n 0, 1) := by decide +kernel
theorem dJ1_indexOf_4cfef_30 : decode cJ1_indexOf_4cfef 30 = .ok (.iload_n 1, 1) := by decide +kernel
theorem dJ1_indexOf_4cfef_31 : decode cJ1_indexOf_4cfef 31 = .ok (.iload_n 2, 1) := by decide +kernel
theorem dJ1_indexOf_4cfef_32 : decode cJ1_indexOf_4cfef 32 = .ok (.iload_n 3, 1) := by decide +kernel
theorem dJ1_indexOf_4cfef_33 : decode cJ1_indexOf_4cfef 33 = .ok (.invokestatic 95, 3) := by decide +kernel
theorem dJ1_indexOf_4cfef_36 : decode cJ1_indexOf_4cfef 36 = .ok (.ireturn, 1) := by decide +kernel
theorem dJ1_indexOfChar_4cfef_0 : decode cJ1_indexOfChar_4cfef 0 = .ok (.iload_n 1, 1) := by decide +kernel
theorem dJ1_indexOfChar_4cfef_1 : decode cJ1_indexOfChar_4cfef 1 = .ok (.i2b, 1) := by decide +kernel
theorem dJ1_indexOfChar_4cfef_2 : decode cJ1_indexOfChar_4cfef 2 = .ok (.istore 4, 2) := by decide +kernel
theorem dJ1_indexOfChar_4cfef_4 : decode cJ1_indexOfChar_4cfef 4 = .ok (.iload_n 2, 1) := by decide +kernel
theorem dJ1_indexOfChar_4cfef_5 : decode cJ1_indexOfChar_4cfef 5 = .ok (.istore 5, 2) := by decide +kernel
theorem dJ1_indexOfChar_4cfef_7 : decode cJ1_indexOfChar_4cfef 7 = .ok (.iload 5, 2) := by decide +kernel
theorem dJ1_indexOfChar_4cfef_9 : decode cJ1_indexOfChar_4cfef 9 = .ok (.iload_n 3, 1) := by decide +kernel
theorem dJ1_indexOfChar_4cfef_10 : decode cJ1_indexOfChar_4cfef 10 = .ok (.if_icmp .ge 21, 3) := by decide +kernel
theorem dJ1_indexOfChar_4cfef_13 : decode cJ1_indexOfChar_4cfef 13 = .ok (.aload_n 0, 1) := by decide +kernel
theorem dJ1_indexOfChar_4cfef_14 : decode cJ1_indexOfChar_4cfef 14 = .ok (.iload 5, 2) := by decide +kernel
theorem dJ1_indexOfChar_4cfef_16 : decode cJ1_indexOfChar_4cfef 16 = .ok (.baload, 1) := by decide +kernel
theorem dJ1_indexOfChar_4cfef_17 : decode cJ1_indexOfChar_4cfef 17 = .ok (.iload 4, 2) := by decide +kernel
theorem dJ1_indexOfChar_4cfef_19 : decode cJ1_indexOfChar_4cfef 19 = .ok (.if_icmp .ne 6, 3) := by decide +kernel
theorem dJ1_indexOfChar_4cfef_22 : decode cJ1_indexOfChar_4cfef 22 = .ok (.iload 5, 2) := by decide +kernel
theorem dJ1_indexOfChar_4cfef_24 : decode cJ1_indexOfChar_4cfef 24 = .ok (.ireturn, 1) := by decide +kernel
theorem dJ1_indexOfChar_4cfef_25 : decode cJ1_indexOfChar_4cfef 25 = .ok (.iinc 5 1, 3) := by decide +kernel
theorem dJ1_indexOfChar_4cfef_28 : decode cJ1_indexOfChar_4cfef 28 = .ok (.goto (-21), 3) := by decide +kernel
theorem dJ1_indexOfChar_4cfef_31 : decode cJ1_indexOfChar_4cfef 31 = .ok (.iconst (-1), 1) := by decide +kernel
theorem dJ1_indexOfChar_4cfef_32 : decode cJ1_indexOfChar_4cfef 32 = .ok (.ireturn, 1) := by decide +kernel
theorem dJ2_getChar_3b067_0 : decode cJ2_getChar_3b067 0 = .ok (.getstatic 44, 3) := by decide +kernel
theorem dJ2_getChar_3b067_3 : decode cJ2_getChar_3b067 3 = .ok (.ifCond .ne 25, 3) := by decide +kernel
theorem dJ2_getChar_3b067_6 : decode cJ2_getChar_3b067 6 = .ok (.iload_n 1, 1) := by decide +kernel
theorem dJ2_getChar_3b067_7 : decode cJ2_getChar_3b067 7 = .ok (.ifCond .lt 11, 3) := by decide +kernel
theorem dJ2_getChar_3b067_10 : decode cJ2_getChar_3b067 10 = .ok (.iload_n 1, 1) := by decide +kernel
theorem dJ2_getChar_3b067_11 : decode cJ2_getChar_3b067 11 = .ok (.aload_n 0, 1) := by decide +kernel
theorem dJ2_getChar_3b067_12 : decode cJ2_getChar_3b067 12 = .ok (.invokestatic 48, 3) := by decide +kernel
theorem dJ2_getChar_3b067_15 : decode cJ2_getChar_3b067 15 = .ok (.if_icmp .lt 13, 3) := by decide +kernel
theorem dJ2_getChar_3b067_18 : decode cJ2_getChar_3b067 18 = .ok (.new 52, 3) := by decide +kernel
theorem dJ2_getChar_3b067_21 : decode cJ2_getChar_3b067 21 = .ok (.dup, 1) := by decide +kernel
theorem dJ2_getChar_3b067_22 : decode cJ2_getChar_3b067 22 = .ok (.ldc 54, 2) := by decide +kernel
theorem dJ2_getChar_3b067_24 : decode cJ2_getChar_3b067 24 = .ok (.invokespecial 56, 3) := by decide +kernel
theorem dJ2_getChar_3b067_27 : decode cJ2_getChar_3b067 27 = .ok (.athrow, 1) := by decide +kernel
theorem dJ2_getChar_3b067_28 : decode cJ2_getChar_3b067 28 = .ok (.iload_n 1, 1) := by decide +kernel
theorem dJ2_getChar_3b067_29 : decode cJ2_getChar_3b067 29 = .ok (.iconst 1, 1) := by decide +kernel
theorem dJ2_getChar_3b067_30 : decode cJ2_getChar_3b067 30 = .ok (.ishl, 1) := by decide +kernel
theorem dJ2_getChar_3b067_31 : decode cJ2_getChar_3b067 31 = .ok (.istore_n 1, 1) := by decide +kernel
theorem dJ2_getChar_3b067_32 : decode cJ2_getChar_3b067 32 = .ok (.aload_n 0, 1) := by decide +kernel
theorem dJ2_getChar_3b067_33 : decode cJ2_getChar_3b067 33 = .ok (.iload_n 1, 1) := by decide +kernel
theorem dJ2_getChar_3b067_34 : decode cJ2_getChar_3b067 34 = .ok (.iinc 1 1, 3) := by decide +kernel
theorem dJ2_getChar_3b067_37 : decode cJ2_getChar_3b067 37 = .ok (.baload, 1) := by decide +kernel
theorem dJ2_getChar_3b067_38 : decode cJ2_getChar_3b067 38 = .ok (.sipush 255, 3) := by decide +kernel
theorem dJ2_getChar_3b067_41 : decode cJ2_getChar_3b067 41 = .ok (.iand, 1) := by decide +kernel
theorem dJ2_getChar_3b067_42 : decode cJ2_getChar_3b067 42 = .ok (.getstatic 59, 3) := by decide +kernel
theorem dJ2_getChar_3b067_45 : decode cJ2_getChar_3b067 45 = .ok (.ishl, 1) := by decide +kernel
theorem dJ2_getChar_3b067_46 : decode cJ2_getChar_3b067 46 = .ok (.aload_n 0, 1) := by decide +kernel
theorem dJ2_getChar_3b067_47 : decode cJ2_getChar_3b067 47 = .ok (.iload_n 1, 1) := by decide +kernel
theorem dJ2_getChar_3b067_48 : decode cJ2_getChar_3b067 48 = .ok (.baload, 1) := by decide +kernel
theorem dJ2_getChar_3b067_49 : decode cJ2_getChar_3b067 49 = .ok (.sipush 255, 3) := by decide +kernel
theorem dJ2_getChar_3b067_52 : decode cJ2_getChar_3b067 52 = .ok (.iand, 1) := by decide +kernel
theorem dJ2_getChar_3b067_53 : decode cJ2_getChar_3b067 53 = .ok (.getstatic 63, 3) := by decide +kernel
theorem dJ2_getChar_3b067_56 : decode cJ2_getChar_3b067 56 = .ok (.ishl, 1) := by decide +kernel
theorem dJ2_getChar_3b067_57 : decode cJ2_getChar_3b067 57 = .ok (.ior, 1) := by decide +kernel
theorem dJ2_getChar_3b067_58 : decode cJ2_getChar_3b067 58 = .ok (.i2c, 1) := by decide +kernel
theorem dJ2_getChar_3b067_59 : decode cJ2_getChar_3b067 59 = .ok (.ireturn, 1) := by decide +kernel
theorem dJ2_length_9d52b_0 : decode cJ2_length_9d52b 0 = .ok (.aload_n 0, 1) := by decide +kernel
theorem dJ2_length_9d52b_1 : decode cJ2_length_9d52b 1 = .ok (.arraylength, 1) := by decide +kernel
theorem dJ2_length_9d52b_2 : decode cJ2_length_9d52b 2 = .ok (.iconst 1, 1) := by decide +kernel
theorem dJ2_length_9d52b_3 : decode cJ2_length_9d52b 3 = .ok (.ishr, 1) := by decide +kernel
theorem dJ2_length_9d52b_4 : decode cJ2_length_9d52b 4 = .ok (.ireturn, 1) := by decide +kernel
theorem dJ2_indexOf_4cfef_0 : decode cJ2_indexOf_4cfef 0 = .ok (.iload_n 2, 1) := by decide +kernel
theorem dJ2_indexOf_4cfef_1 : decode cJ2_indexOf_4cfef 1 = .ok (.iconst 0, 1) := by decide +kernel
theorem dJ2_indexOf_4cfef_2 : decode cJ2_indexOf_4cfef 2 = .ok (.invokestatic 224, 3) := by decide +kernel
theorem dJ2_indexOf_4cfef_5 : decode cJ2_indexOf_4cfef 5 = .ok (.istore_n 2, 1) := by decide +kernel
theorem dJ2_indexOf_4cfef_6 : decode cJ2_indexOf_4cfef 6 = .ok (.iload_n 3, 1) := by decide +kernel
theorem dJ2_indexOf_4cfef_7 : decode cJ2_indexOf_4cfef 7 = .ok (.aload_n 0, 1) := by decide +kernel
theorem dJ2_indexOf_4cfef_8 : decode cJ2_indexOf_4cfef 8 = .ok (.arraylength, 1) := by decide +kernel
theorem dJ2_indexOf_4cfef_9 : decode cJ2_indexOf_4cfef 9 = .ok (.iconst 1, 1) := by decide +kernel
theorem dJ2_indexOf_4cfef_10 : decode cJ2_indexOf_4cfef 10 = .ok (.ishr, 1) := by decide +kernel
theorem dJ2_indexOf_4cfef_11 : decode cJ2_indexOf_4cfef 11 = .ok (.invokestatic 183, 3) := by decide +kernel
theorem dJ2_indexOf_4cfef_14 : decode cJ2_indexOf_4cfef 14 = .ok (.istore_n 3, 1) := by decide +kernel
theorem dJ2_indexOf_4cfef_15 : decode cJ2_indexOf_4cfef 15 = .ok (.iload_n 2, 1) := by decide +kernel
theorem dJ2_indexOf_4cfef_16 : decode cJ2_indexOf_4cfef 16 = .ok (.iload_n 3, 1) := by decide +kernel
theorem dJ2_indexOf_4cfef_17 : decode cJ2_indexOf_4cfef 17 = .ok (.if_icmp .lt 5, 3) := by decide +kernel
theorem dJ2_indexOf_4cfef_20 : decode cJ2_indexOf_4cfef 20 = .ok (.iconst (-1), 1) := by decide +kernel
theorem dJ2_indexOf_4cfef_21 : decode cJ2_indexOf_4cfef 21 = .ok (.ireturn, 1) := by decide +kernel
theorem dJ2_indexOf_4cfef_22 : decode cJ2_indexOf_4cfef 22 = .ok (.iload_n 1, 1) := by decide +kernel
theorem dJ2_indexOf_4cfef_23 : decode cJ2_indexOf_4cfef 23 = .ok (.ldc 227, 2) := by decide +kernel
theorem dJ2_indexOf_4cfef_25 : decode cJ2_indexOf_4cfef 25 = .ok (.if_icmp .ge 11, 3) := by decide +kernel
theorem dJ2_indexOf_4cfef_28 : decode cJ2_indexOf_4cfef 28 = .ok (.aload_n 0, 1) := by decide +kernel
theorem dJ2_indexOf_4cfef_29 : decode cJ2_indexOf_4cfef 29 = .ok (.iload_n 1, 1) := by decide +kernel
theorem dJ2_indexOf_4cfef_30 : decode cJ2_indexOf_4cfef 30 = .ok (.iload_n 2, 1) := by decide +kernel
theorem dJ2_indexOf_4cfef_31 : decode cJ2_indexOf_4cfef 31 = .ok (.iload_n 3, 1) := by decide +kernel
theorem dJ2_indexOf_4cfef_32 : decode cJ2_indexOf_4cfef 32 = .ok (.invokestatic 228, 3) := by decide +kernel
theorem dJ2_indexOf_4cfef_35 : decode cJ2_indexOf_4cfef 35 = .ok (.ireturn, 1) := by decide +kernel
theorem dJ2_indexOf_4cfef_36 : decode cJ2_indexOf_4cfef 36 = .ok (.aload_n 0, 1) := by decide +kernel
theorem dJ2_indexOf_4cfef_37 : decode cJ2_indexOf_4cfef 37 = .ok (.iload_n 1, 1) := by decide +kernel
theorem dJ2_indexOf_4cfef_38 : decode cJ2_indexOf_4cfef 38 = .ok (.iload_n 2, 1) := by decide +kernel
theorem dJ2_indexOf_4cfef_39 : decode cJ2_indexOf_4cfef 39 = .ok (.iload_n 3, 1) := by decide +kernel
theorem dJ2_indexOf_4cfef_40 : decode cJ2_indexOf_4cfef 40 = .ok (.invokestatic 232, 3) := by decide +kernel
theorem dJ2_indexOf_4cfef_43 : decode cJ2_indexOf_4cfef 43 = .ok (.ireturn, 1) := by decide +kernel
theorem dJ2_indexOfChar_4cfef_0 : decode cJ2_indexOfChar_4cfef 0 = .ok (.iload_n 2, 1) := by decide +kernel
theorem dJ2_indexOfChar_4cfef_1 : decode cJ2_indexOfChar_4cfef 1 = .ok (.iload_n 3, 1) := by decide +kernel
theorem dJ2_indexOfChar_4cfef_2 : decode cJ2_indexOfChar_4cfef 2 = .ok (.aload_n 0, 1) := by decide +kernel
theorem dJ2_indexOfChar_4cfef_3 : decode cJ2_indexOfChar_4cfef 3 = .ok (.invokestatic 96, 3) := by decide +kernel
theorem dJ2_indexOfChar_4cfef_6 : decode cJ2_indexOfChar_4cfef 6 = .ok (.aload_n 0, 1) := by decide +kernel
theorem dJ2_indexOfChar_4cfef_7 : decode cJ2_indexOfChar_4cfef 7 = .ok (.iload_n 1, 1) := by decide +kernel
theorem dJ2_indexOfChar_4cfef_8 : decode cJ2_indexOfChar_4cfef 8 = .ok (.iload_n 2, 1) := by decide +kernel
theorem dJ2_indexOfChar_4cfef_9 : decode cJ2_indexOfChar_4cfef 9 = .ok (.iload_n 3, 1) := by decide +kernel
theorem dJ2_indexOfChar_4cfef_10 : decode cJ2_indexOfChar_4cfef 10 = .ok (.invokestatic 244, 3) := by decide +kernel
