/-! the instructions, as the claim prints them -/
theorem dX0_init_0 : decode cX0_init 0 = .ok (.aload_n 0, 1) := by decide +kernel
theorem dX0_init_1 : decode cX0_init 1 = .ok (.invokespecial 3, 3) := by decide +kernel
theorem dX0_init_4 : decode cX0_init 4 = .ok (.aload_n 0, 1) := by decide +kernel
theorem dX0_init_5 : decode cX0_init 5 = .ok (.iconst 5, 1) := by decide +kernel
theorem dX0_init_6 : decode cX0_init 6 = .ok (.newarray .int, 2) := by decide +kernel
theorem dX0_init_8 : decode cX0_init 8 = .ok (.putfield 9, 3) := by decide +kernel
theorem dX0_init_11 : decode cX0_init 11 = .ok (.aload_n 0, 1) := by decide +kernel
theorem dX0_init_12 : decode cX0_init 12 = .ok (.iconst 5, 1) := by decide +kernel
theorem dX0_init_13 : decode cX0_init 13 = .ok (.newarray .int, 2) := by decide +kernel
theorem dX0_init_15 : decode cX0_init 15 = .ok (.putfield 15, 3) := by decide +kernel
theorem dX0_init_18 : decode cX0_init 18 = .ok (.aload_n 0, 1) := by decide +kernel
theorem dX0_init_19 : decode cX0_init 19 = .ok (.iconst 5, 1) := by decide +kernel
theorem dX0_init_20 : decode cX0_init 20 = .ok (.newarray .int, 2) := by decide +kernel
theorem dX0_init_22 : decode cX0_init 22 = .ok (.putfield 18, 3) := by decide +kernel
theorem dX0_init_25 : decode cX0_init 25 = .ok (.return_, 1) := by decide +kernel
theorem dX0_add_0 : decode cX0_add 0 = .ok (.aload_n 0, 1) := by decide +kernel
theorem dX0_add_1 : decode cX0_add 1 = .ok (.getfield 21, 3) := by decide +kernel
theorem dX0_add_4 : decode cX0_add 4 = .ok (.ifCond .lt 51, 3) := by decide +kernel
theorem dX0_add_7 : decode cX0_add 7 = .ok (.aload_n 0, 1) := by decide +kernel
theorem dX0_add_8 : decode cX0_add 8 = .ok (.getfield 21, 3) := by decide +kernel
theorem dX0_add_11 : decode cX0_add 11 = .ok (.iconst 5, 1) := by decide +kernel
theorem dX0_add_12 : decode cX0_add 12 = .ok (.if_icmp .ge 43, 3) := by decide +kernel
theorem dX0_add_15 : decode cX0_add 15 = .ok (.aload_n 0, 1) := by decide +kernel
theorem dX0_add_16 : decode cX0_add 16 = .ok (.getfield 9, 3) := by decide +kernel
theorem dX0_add_19 : decode cX0_add 19 = .ok (.aload_n 0, 1) := by decide +kernel
theorem dX0_add_20 : decode cX0_add 20 = .ok (.getfield 21, 3) := by decide +kernel
theorem dX0_add_23 : decode cX0_add 23 = .ok (.iload_n 1, 1) := by decide +kernel
theorem dX0_add_24 : decode cX0_add 24 = .ok (.iastore, 1) := by decide +kernel
theorem dX0_add_25 : decode cX0_add 25 = .ok (.aload_n 0, 1) := by decide +kernel
theorem dX0_add_26 : decode cX0_add 26 = .ok (.getfield 15, 3) := by decide +kernel
theorem dX0_add_29 : decode cX0_add 29 = .ok (.aload_n 0, 1) := by decide +kernel
theorem dX0_add_30 : decode cX0_add 30 = .ok (.getfield 21, 3) := by decide +kernel
theorem dX0_add_33 : decode cX0_add 33 = .ok (.iload_n 2, 1) := by decide +kernel
theorem dX0_add_34 : decode cX0_add 34 = .ok (.iastore, 1) := by decide +kernel
theorem dX0_add_35 : decode cX0_add 35 = .ok (.aload_n 0, 1) := by decide +kernel
theorem dX0_add_36 : decode cX0_add 36 = .ok (.getfield 18, 3) := by decide +kernel
theorem dX0_add_39 : decode cX0_add 39 = .ok (.aload_n 0, 1) := by decide +kernel
theorem dX0_add_40 : decode cX0_add 40 = .ok (.getfield 21, 3) := by decide +kernel
theorem dX0_add_43 : decode cX0_add 43 = .ok (.iload_n 3, 1) := by decide +kernel
theorem dX0_add_44 : decode cX0_add 44 = .ok (.iastore, 1) := by decide +kernel
theorem dX0_add_45 : decode cX0_add 45 = .ok (.aload_n 0, 1) := by decide +kernel
theorem dX0_add_46 : decode cX0_add 46 = .ok (.dup, 1) := by decide +kernel
theorem dX0_add_47 : decode cX0_add 47 = .ok (.getfield 21, 3) := by decide +kernel
theorem dX0_add_50 : decode cX0_add 50 = .ok (.iconst 1, 1) := by decide +kernel
theorem dX0_add_51 : decode cX0_add 51 = .ok (.iadd, 1) := by decide +kernel
theorem dX0_add_52 : decode cX0_add 52 = .ok (.putfield 21, 3) := by decide +kernel
theorem dX0_add_55 : decode cX0_add 55 = .ok (.return_, 1) := by decide +kernel
theorem dX0_kindOf_0 : decode cX0_kindOf 0 = .ok (.iload_n 1, 1) := by decide +kernel
theorem dX0_kindOf_1 : decode cX0_kindOf 1 = .ok (.ifCond .lt 17, 3) := by decide +kernel
theorem dX0_kindOf_4 : decode cX0_kindOf 4 = .ok (.iload_n 1, 1) := by decide +kernel
theorem dX0_kindOf_5 : decode cX0_kindOf 5 = .ok (.iconst 5, 1) := by decide +kernel
theorem dX0_kindOf_6 : decode cX0_kindOf 6 = .ok (.if_icmp .ge 12, 3) := by decide +kernel
theorem dX0_kindOf_9 : decode cX0_kindOf 9 = .ok (.aload_n 0, 1) := by decide +kernel
theorem dX0_kindOf_10 : decode cX0_kindOf 10 = .ok (.getfield 9, 3) := by decide +kernel
theorem dX0_kindOf_13 : decode cX0_kindOf 13 = .ok (.iload_n 1, 1) := by decide +kernel
theorem dX0_kindOf_14 : decode cX0_kindOf 14 = .ok (.iaload, 1) := by decide +kernel
theorem dX0_kindOf_15 : decode cX0_kindOf 15 = .ok (.goto 4, 3) := by decide +kernel
theorem dX0_kindOf_18 : decode cX0_kindOf 18 = .ok (.iconst 0, 1) := by decide +kernel
theorem dX0_kindOf_19 : decode cX0_kindOf 19 = .ok (.ireturn, 1) := by decide +kernel
theorem dX0_oarOf_0 : decode cX0_oarOf 0 = .ok (.iload_n 1, 1) := by decide +kernel
theorem dX0_oarOf_1 : decode cX0_oarOf 1 = .ok (.ifCond .lt 17, 3) := by decide +kernel
theorem dX0_oarOf_4 : decode cX0_oarOf 4 = .ok (.iload_n 1, 1) := by decide +kernel
theorem dX0_oarOf_5 : decode cX0_oarOf 5 = .ok (.iconst 5, 1) := by decide +kernel
theorem dX0_oarOf_6 : decode cX0_oarOf 6 = .ok (.if_icmp .ge 12, 3) := by decide +kernel
theorem dX0_oarOf_9 : decode cX0_oarOf 9 = .ok (.aload_n 0, 1) := by decide +kernel
theorem dX0_oarOf_10 : decode cX0_oarOf 10 = .ok (.getfield 15, 3) := by decide +kernel
theorem dX0_oarOf_13 : decode cX0_oarOf 13 = .ok (.iload_n 1, 1) := by decide +kernel
theorem dX0_oarOf_14 : decode cX0_oarOf 14 = .ok (.iaload, 1) := by decide +kernel
theorem dX0_oarOf_15 : decode cX0_oarOf 15 = .ok (.goto 4, 3) := by decide +kernel
theorem dX0_oarOf_18 : decode cX0_oarOf 18 = .ok (.iconst 0, 1) := by decide +kernel
theorem dX0_oarOf_19 : decode cX0_oarOf 19 = .ok (.ireturn, 1) := by decide +kernel
theorem dX0_willOf_0 : decode cX0_willOf 0 = .ok (.iload_n 1, 1) := by decide +kernel
theorem dX0_willOf_1 : decode cX0_willOf 1 = .ok (.ifCond .lt 17, 3) := by decide +kernel
theorem dX0_willOf_4 : decode cX0_willOf 4 = .ok (.iload_n 1, 1) := by decide +kernel
theorem dX0_willOf_5 : decode cX0_willOf 5 = .ok (.iconst 5, 1) := by decide +kernel
theorem dX0_willOf_6 : decode cX0_willOf 6 = .ok (.if_icmp .ge 12, 3) := by decide +kernel
theorem dX0_willOf_9 : decode cX0_willOf 9 = .ok (.aload_n 0, 1) := by decide +kernel
theorem dX0_willOf_10 : decode cX0_willOf 10 = .ok (.getfield 18, 3) := by decide +kernel
theorem dX0_willOf_13 : decode cX0_willOf 13 = .ok (.iload_n 1, 1) := by decide +kernel
theorem dX0_willOf_14 : decode cX0_willOf 14 = .ok (.iaload, 1) := by decide +kernel
theorem dX0_willOf_15 : decode cX0_willOf 15 = .ok (.goto 4, 3) := by decide +kernel
theorem dX0_willOf_18 : decode cX0_willOf 18 = .ok (.iconst 0, 1) := by decide +kernel
theorem dX0_willOf_19 : decode cX0_willOf 19 = .ok (.ireturn, 1) := by decide +kernel
theorem dX0_isOfKind_0 : decode cX0_isOfKind 0 = .ok (.aload_n 0, 1) := by decide +kernel
theorem dX0_isOfKind_1 : decode cX0_isOfKind 1 = .ok (.iload_n 1, 1) := by decide +kernel
theorem dX0_isOfKind_2 : decode cX0_isOfKind 2 = .ok (.invokevirtual 25, 3) := by decide +kernel
theorem dX0_isOfKind_5 : decode cX0_isOfKind 5 = .ok (.istore_n 3, 1) := by decide +kernel
theorem dX0_isOfKind_6 : decode cX0_isOfKind 6 = .ok (.iload_n 2, 1) := by decide +kernel
theorem dX0_isOfKind_7 : decode cX0_isOfKind 7 = .ok (.ifCond .eq 18, 3) := by decide +kernel
theorem dX0_isOfKind_10 : decode cX0_isOfKind 10 = .ok (.iload_n 3, 1) := by decide +kernel
theorem dX0_isOfKind_11 : decode cX0_isOfKind 11 = .ok (.iload_n 2, 1) := by decide +kernel
theorem dX0_isOfKind_12 : decode cX0_isOfKind 12 = .ok (.if_icmp .eq 13, 3) := by decide +kernel
theorem dX0_isOfKind_15 : decode cX0_isOfKind 15 = .ok (.iload_n 2, 1) := by decide +kernel
theorem dX0_isOfKind_16 : decode cX0_isOfKind 16 = .ok (.iconst 3, 1) := by decide +kernel
theorem dX0_isOfKind_17 : decode cX0_isOfKind 17 = .ok (.if_icmp .ne 12, 3) := by decide +kernel
theorem dX0_isOfKind_20 : decode cX0_isOfKind 20 = .ok (.iload_n 3, 1) := by decide +kernel
theorem dX0_isOfKind_21 : decode cX0_isOfKind 21 = .ok (.iconst 4, 1) := by decide +kernel
theorem dX0_isOfKind_22 : decode cX0_isOfKind 22 = .ok (.if_icmp .ne 7, 3) := by decide +kernel
theorem dX0_isOfKind_25 : decode cX0_isOfKind 25 = .ok (.iconst 1, 1) := by decide +kernel
theorem dX0_isOfKind_26 : decode cX0_isOfKind 26 = .ok (.goto 4, 3) := by decide +kernel
theorem dX0_isOfKind_29 : decode cX0_isOfKind 29 = .ok (.iconst 0, 1) := by decide +kernel
theorem dX0_isOfKind_30 : decode cX0_isOfKind 30 = .ok (.ireturn, 1) := by decide +kernel
theorem dX0_everyone_0 : decode cX0_everyone 0 = .ok (.iconst 1, 1) := by decide +kernel
theorem dX0_everyone_1 : decode cX0_everyone 1 = .ok (.aload_n 0, 1) := by decide +kernel
theorem dX0_everyone_2 : decode cX0_everyone 2 = .ok (.getfield 21, 3) := by decide +kernel
theorem dX0_everyone_5 : decode cX0_everyone 5 = .ok (.ishl, 1) := by decide +kernel
theorem dX0_everyone_6 : decode cX0_everyone 6 = .ok (.iconst 1, 1) := by decide +kernel
theorem dX0_everyone_7 : decode cX0_everyone 7 = .ok (.isub, 1) := by decide +kernel
theorem dX0_everyone_8 : decode cX0_everyone 8 = .ok (.ireturn, 1) := by decide +kernel
theorem dX1_init_0 : decode cX1_init 0 = .ok (.aload_n 0, 1) := by decide +kernel
theorem dX1_init_1 : decode cX1_init 1 = .ok (.invokespecial 3, 3) := by decide +kernel
theorem dX1_init_4 : decode cX1_init 4 = .ok (.aload_n 0, 1) := by decide +kernel
theorem dX1_init_5 : decode cX1_init 5 = .ok (.bipush 8, 2) := by decide +kernel
theorem dX1_init_7 : decode cX1_init 7 = .ok (.newarray .int, 2) := by decide +kernel
theorem dX1_init_9 : decode cX1_init 9 = .ok (.putfield 9, 3) := by decide +kernel
theorem dX1_init_12 : decode cX1_init 12 = .ok (.return_, 1) := by decide +kernel
theorem dX1_add_0 : decode cX1_add 0 = .ok (.aload_n 0, 1) := by decide +kernel
theorem dX1_add_1 : decode cX1_add 1 = .ok (.getfield 15, 3) := by decide +kernel
theorem dX1_add_4 : decode cX1_add 4 = .ok (.ifCond .lt 32, 3) := by decide +kernel
theorem dX1_add_7 : decode cX1_add 7 = .ok (.aload_n 0, 1) := by decide +kernel
theorem dX1_add_8 : decode cX1_add 8 = .ok (.getfield 15, 3) := by decide +kernel
theorem dX1_add_11 : decode cX1_add 11 = .ok (.bipush 8, 2) := by decide +kernel
theorem dX1_add_13 : decode cX1_add 13 = .ok (.if_icmp .ge 23, 3) := by decide +kernel
theorem dX1_add_16 : decode cX1_add 16 = .ok (.aload_n 0, 1) := by decide +kernel
theorem dX1_add_17 : decode cX1_add 17 = .ok (.getfield 9, 3) := by decide +kernel
theorem dX1_add_20 : decode cX1_add 20 = .ok (.aload_n 0, 1) := by decide +kernel
theorem dX1_add_21 : decode cX1_add 21 = .ok (.getfield 15, 3) := by decide +kernel
theorem dX1_add_24 : decode cX1_add 24 = .ok (.iload_n 1, 1) := by decide +kernel
theorem dX1_add_25 : decode cX1_add 25 = .ok (.iastore, 1) := by decide +kernel
theorem dX1_add_26 : decode cX1_add 26 = .ok (.aload_n 0, 1) := by decide +kernel
theorem dX1_add_27 : decode cX1_add 27 = .ok (.dup, 1) := by decide +kernel
theorem dX1_add_28 : decode cX1_add 28 = .ok (.getfield 15, 3) := by decide +kernel
theorem dX1_add_31 : decode cX1_add 31 = .ok (.iconst 1, 1) := by decide +kernel
theorem dX1_add_32 : decode cX1_add 32 = .ok (.iadd, 1) := by decide +kernel
theorem dX1_add_33 : decode cX1_add 33 = .ok (.putfield 15, 3) := by decide +kernel
theorem dX1_add_36 : decode cX1_add 36 = .ok (.return_, 1) := by decide +kernel
theorem dX1_setAt_0 : decode cX1_setAt 0 = .ok (.iload_n 1, 1) := by decide +kernel
theorem dX1_setAt_1 : decode cX1_setAt 1 = .ok (.ifCond .lt 18, 3) := by decide +kernel
theorem dX1_setAt_4 : decode cX1_setAt 4 = .ok (.iload_n 1, 1) := by decide +kernel
theorem dX1_setAt_5 : decode cX1_setAt 5 = .ok (.bipush 8, 2) := by decide +kernel
theorem dX1_setAt_7 : decode cX1_setAt 7 = .ok (.if_icmp .ge 12, 3) := by decide +kernel
theorem dX1_setAt_10 : decode cX1_setAt 10 = .ok (.aload_n 0, 1) := by decide +kernel
theorem dX1_setAt_11 : decode cX1_setAt 11 = .ok (.getfield 9, 3) := by decide +kernel
theorem dX1_setAt_14 : decode cX1_setAt 14 = .ok (.iload_n 1, 1) := by decide +kernel
theorem dX1_setAt_15 : decode cX1_setAt 15 = .ok (.iaload, 1) := by decide +kernel
theorem dX1_setAt_16 : decode cX1_setAt 16 = .ok (.goto 4, 3) := by decide +kernel
theorem dX1_setAt_19 : decode cX1_setAt 19 = .ok (.iconst 0, 1) := by decide +kernel
theorem dX1_setAt_20 : decode cX1_setAt 20 = .ok (.ireturn, 1) := by decide +kernel
theorem dX1_copy_0 : decode cX1_copy 0 = .ok (.aload_n 1, 1) := by decide +kernel
theorem dX1_copy_1 : decode cX1_copy 1 = .ok (.getfield 9, 3) := by decide +kernel
theorem dX1_copy_4 : decode cX1_copy 4 = .ok (.iconst 0, 1) := by decide +kernel
theorem dX1_copy_5 : decode cX1_copy 5 = .ok (.aload_n 0, 1) := by decide +kernel
theorem dX1_copy_6 : decode cX1_copy 6 = .ok (.getfield 9, 3) := by decide +kernel
theorem dX1_copy_9 : decode cX1_copy 9 = .ok (.iconst 0, 1) := by decide +kernel
theorem dX1_copy_10 : decode cX1_copy 10 = .ok (.bipush 8, 2) := by decide +kernel
theorem dX1_copy_12 : decode cX1_copy 12 = .ok (.invokestatic 19, 3) := by decide +kernel
theorem dX1_copy_15 : decode cX1_copy 15 = .ok (.aload_n 0, 1) := by decide +kernel
theorem dX1_copy_16 : decode cX1_copy 16 = .ok (.aload_n 1, 1) := by decide +kernel
theorem dX1_copy_17 : decode cX1_copy 17 = .ok (.getfield 15, 3) := by decide +kernel
theorem dX1_copy_20 : decode cX1_copy 20 = .ok (.putfield 15, 3) := by decide +kernel
theorem dX1_copy_23 : decode cX1_copy 23 = .ok (.return_, 1) := by decide +kernel
theorem dX2_init_0 : decode cX2_init 0 = .ok (.aload_n 0, 1) := by decide +kernel
theorem dX2_init_1 : decode cX2_init 1 = .ok (.invokespecial 3, 3) := by decide +kernel
theorem dX2_init_4 : decode cX2_init 4 = .ok (.aload_n 0, 1) := by decide +kernel
theorem dX2_init_5 : decode cX2_init 5 = .ok (.bipush 30, 2) := by decide +kernel
theorem dX2_init_7 : decode cX2_init 7 = .ok (.newarray .int, 2) := by decide +kernel
theorem dX2_init_9 : decode cX2_init 9 = .ok (.putfield 9, 3) := by decide +kernel
theorem dX2_init_12 : decode cX2_init 12 = .ok (.return_, 1) := by decide +kernel
theorem dX2_add_0 : decode cX2_add 0 = .ok (.aload_n 0, 1) := by decide +kernel
theorem dX2_add_1 : decode cX2_add 1 = .ok (.getfield 15, 3) := by decide +kernel
theorem dX2_add_4 : decode cX2_add 4 = .ok (.ifCond .lt 35, 3) := by decide +kernel
theorem dX2_add_7 : decode cX2_add 7 = .ok (.aload_n 0, 1) := by decide +kernel
theorem dX2_add_8 : decode cX2_add 8 = .ok (.getfield 15, 3) := by decide +kernel
theorem dX2_add_11 : decode cX2_add 11 = .ok (.aload_n 0, 1) := by decide +kernel
theorem dX2_add_12 : decode cX2_add 12 = .ok (.getfield 9, 3) := by decide +kernel
theorem dX2_add_15 : decode cX2_add 15 = .ok (.arraylength, 1) := by decide +kernel
theorem dX2_add_16 : decode cX2_add 16 = .ok (.if_icmp .ge 23, 3) := by decide +kernel
theorem dX2_add_19 : decode cX2_add 19 = .ok (.aload_n 0, 1) := by decide +kernel
theorem dX2_add_20 : decode cX2_add 20 = .ok (.getfield 9, 3) := by decide +kernel
theorem dX2_add_23 : decode cX2_add 23 = .ok (.aload_n 0, 1) := by decide +kernel
theorem dX2_add_24 : decode cX2_add 24 = .ok (.getfield 15, 3) := by decide +kernel
theorem dX2_add_27 : decode cX2_add 27 = .ok (.iload_n 1, 1) := by decide +kernel
theorem dX2_add_28 : decode cX2_add 28 = .ok (.iastore, 1) := by decide +kernel
theorem dX2_add_29 : decode cX2_add 29 = .ok (.aload_n 0, 1) := by decide +kernel
theorem dX2_add_30 : decode cX2_add 30 = .ok (.dup, 1) := by decide +kernel
theorem dX2_add_31 : decode cX2_add 31 = .ok (.getfield 15, 3) := by decide +kernel
theorem dX2_add_34 : decode cX2_add 34 = .ok (.iconst 1, 1) := by decide +kernel
theorem dX2_add_35 : decode cX2_add 35 = .ok (.iadd, 1) := by decide +kernel
theorem dX2_add_36 : decode cX2_add 36 = .ok (.putfield 15, 3) := by decide +kernel
theorem dX2_add_39 : decode cX2_add 39 = .ok (.return_, 1) := by decide +kernel
theorem dX2_codeAt_0 : decode cX2_codeAt 0 = .ok (.iload_n 1, 1) := by decide +kernel
theorem dX2_codeAt_1 : decode cX2_codeAt 1 = .ok (.ifCond .lt 21, 3) := by decide +kernel
theorem dX2_codeAt_4 : decode cX2_codeAt 4 = .ok (.iload_n 1, 1) := by decide +kernel
theorem dX2_codeAt_5 : decode cX2_codeAt 5 = .ok (.aload_n 0, 1) := by decide +kernel
theorem dX2_codeAt_6 : decode cX2_codeAt 6 = .ok (.getfield 9, 3) := by decide +kernel
theorem dX2_codeAt_9 : decode cX2_codeAt 9 = .ok (.arraylength, 1) := by decide +kernel
theorem dX2_codeAt_10 : decode cX2_codeAt 10 = .ok (.if_icmp .ge 12, 3) := by decide +kernel
theorem dX2_codeAt_13 : decode cX2_codeAt 13 = .ok (.aload_n 0, 1) := by decide +kernel
theorem dX2_codeAt_14 : decode cX2_codeAt 14 = .ok (.getfield 9, 3) := by decide +kernel
theorem dX2_codeAt_17 : decode cX2_codeAt 17 = .ok (.iload_n 1, 1) := by decide +kernel
theorem dX2_codeAt_18 : decode cX2_codeAt 18 = .ok (.iaload, 1) := by decide +kernel
theorem dX2_codeAt_19 : decode cX2_codeAt 19 = .ok (.goto 4, 3) := by decide +kernel
theorem dX2_codeAt_22 : decode cX2_codeAt 22 = .ok (.iconst 0, 1) := by decide +kernel
theorem dX2_codeAt_23 : decode cX2_codeAt 23 = .ok (.ireturn, 1) := by decide +kernel
theorem dX2_isPassage_0 : decode cX2_isPassage 0 = .ok (.aload_n 0, 1) := by decide +kernel
theorem dX2_isPassage_1 : decode cX2_isPassage 1 = .ok (.getfield 15, 3) := by decide +kernel
theorem dX2_isPassage_4 : decode cX2_isPassage 4 = .ok (.iconst 4, 1) := by decide +kernel
theorem dX2_isPassage_5 : decode cX2_isPassage 5 = .ok (.if_icmp .le 34, 3) := by decide +kernel
theorem dX2_isPassage_8 : decode cX2_isPassage 8 = .ok (.aload_n 0, 1) := by decide +kernel
theorem dX2_isPassage_9 : decode cX2_isPassage 9 = .ok (.invokevirtual 19, 3) := by decide +kernel
theorem dX2_isPassage_12 : decode cX2_isPassage 12 = .ok (.aload_n 0, 1) := by decide +kernel
theorem dX2_isPassage_13 : decode cX2_isPassage 13 = .ok (.getfield 15, 3) := by decide +kernel
theorem dX2_isPassage_16 : decode cX2_isPassage 16 = .ok (.if_icmp .ne 23, 3) := by decide +kernel
theorem dX2_isPassage_19 : decode cX2_isPassage 19 = .ok (.aload_n 0, 1) := by decide +kernel
theorem dX2_isPassage_20 : decode cX2_isPassage 20 = .ok (.aload_n 0, 1) := by decide +kernel
theorem dX2_isPassage_21 : decode cX2_isPassage 21 = .ok (.getfield 15, 3) := by decide +kernel
theorem dX2_isPassage_24 : decode cX2_isPassage 24 = .ok (.iconst 1, 1) := by decide +kernel
theorem dX2_isPassage_25 : decode cX2_isPassage 25 = .ok (.isub, 1) := by decide +kernel
theorem dX2_isPassage_26 : decode cX2_isPassage 26 = .ok (.invokevirtual 23, 3) := by decide +kernel
theorem dX2_isPassage_29 : decode cX2_isPassage 29 = .ok (.invokestatic 27, 3) := by decide +kernel
theorem dX2_isPassage_32 : decode cX2_isPassage 32 = .ok (.ifCond .ne 7, 3) := by decide +kernel
theorem dX2_isPassage_35 : decode cX2_isPassage 35 = .ok (.iconst 1, 1) := by decide +kernel
theorem dX2_isPassage_36 : decode cX2_isPassage 36 = .ok (.goto 4, 3) := by decide +kernel
theorem dX2_isPassage_39 : decode cX2_isPassage 39 = .ok (.iconst 0, 1) := by decide +kernel
theorem dX2_isPassage_40 : decode cX2_isPassage 40 = .ok (.ireturn, 1) := by decide +kernel
theorem dX2_firstFault_0 : decode cX2_firstFault 0 = .ok (.iconst 0, 1) := by decide +kernel
theorem dX2_firstFault_1 : decode cX2_firstFault 1 = .ok (.istore_n 1, 1) := by decide +kernel
theorem dX2_firstFault_2 : decode cX2_firstFault 2 = .ok (.iconst 0, 1) := by decide +kernel
theorem dX2_firstFault_3 : decode cX2_firstFault 3 = .ok (.istore_n 2, 1) := by decide +kernel
theorem dX2_firstFault_4 : decode cX2_firstFault 4 = .ok (.iconst 0, 1) := by decide +kernel
theorem dX2_firstFault_5 : decode cX2_firstFault 5 = .ok (.istore_n 3, 1) := by decide +kernel
theorem dX2_firstFault_6 : decode cX2_firstFault 6 = .ok (.iload_n 3, 1) := by decide +kernel
theorem dX2_firstFault_7 : decode cX2_firstFault 7 = .ok (.aload_n 0, 1) := by decide +kernel
theorem dX2_firstFault_8 : decode cX2_firstFault 8 = .ok (.getfield 15, 3) := by decide +kernel
theorem dX2_firstFault_11 : decode cX2_firstFault 11 = .ok (.if_icmp .ge 83, 3) := by decide +kernel
theorem dX2_firstFault_14 : decode cX2_firstFault 14 = .ok (.aload_n 0, 1) := by decide +kernel
theorem dX2_firstFault_15 : decode cX2_firstFault 15 = .ok (.iload_n 3, 1) := by decide +kernel
theorem dX2_firstFault_16 : decode cX2_firstFault 16 = .ok (.invokevirtual 23, 3) := by decide +kernel
theorem dX2_firstFault_19 : decode cX2_firstFault 19 = .ok (.istore 4, 2) := by decide +kernel
theorem dX2_firstFault_21 : decode cX2_firstFault 21 = .ok (.iload_n 3, 1) := by decide +kernel
theorem dX2_firstFault_22 : decode cX2_firstFault 22 = .ok (.iconst 4, 1) := by decide +kernel
theorem dX2_firstFault_23 : decode cX2_firstFault 23 = .ok (.if_icmp .ge 15, 3) := by decide +kernel
theorem dX2_firstFault_26 : decode cX2_firstFault 26 = .ok (.aload_n 0, 1) := by decide +kernel
theorem dX2_firstFault_27 : decode cX2_firstFault 27 = .ok (.iload_n 3, 1) := by decide +kernel
theorem dX2_firstFault_28 : decode cX2_firstFault 28 = .ok (.iload 4, 2) := by decide +kernel
theorem dX2_firstFault_30 : decode cX2_firstFault 30 = .ok (.invokevirtual 31, 3) := by decide +kernel
theorem dX2_firstFault_33 : decode cX2_firstFault 33 = .ok (.ifCond .ne 55, 3) := by decide +kernel
theorem dX2_firstFault_36 : decode cX2_firstFault 36 = .ok (.iload_n 3, 1) := by decide +kernel
theorem dX2_firstFault_37 : decode cX2_firstFault 37 = .ok (.ireturn, 1) := by decide +kernel
theorem dX2_firstFault_38 : decode cX2_firstFault 38 = .ok (.iload_n 2, 1) := by decide +kernel
theorem dX2_firstFault_39 : decode cX2_firstFault 39 = .ok (.ifCond .eq 24, 3) := by decide +kernel
theorem dX2_firstFault_42 : decode cX2_firstFault 42 = .ok (.iload 4, 2) := by decide +kernel
theorem dX2_firstFault_44 : decode cX2_firstFault 44 = .ok (.bipush 49, 2) := by decide +kernel
theorem dX2_firstFault_46 : decode cX2_firstFault 46 = .ok (.if_icmp .lt 10, 3) := by decide +kernel
theorem dX2_firstFault_49 : decode cX2_firstFault 49 = .ok (.iload 4, 2) := by decide +kernel
theorem dX2_firstFault_51 : decode cX2_firstFault 51 = .ok (.bipush 57, 2) := by decide +kernel
theorem dX2_firstFault_53 : decode cX2_firstFault 53 = .ok (.if_icmp .le 5, 3) := by decide +kernel
theorem dX2_firstFault_56 : decode cX2_firstFault 56 = .ok (.iload_n 3, 1) := by decide +kernel
theorem dX2_firstFault_57 : decode cX2_firstFault 57 = .ok (.ireturn, 1) := by decide +kernel
theorem dX2_firstFault_58 : decode cX2_firstFault 58 = .ok (.iconst 0, 1) := by decide +kernel
theorem dX2_firstFault_59 : decode cX2_firstFault 59 = .ok (.istore_n 2, 1) := by decide +kernel
theorem dX2_firstFault_60 : decode cX2_firstFault 60 = .ok (.goto 28, 3) := by decide +kernel
theorem dX2_firstFault_63 : decode cX2_firstFault 63 = .ok (.iload_n 1, 1) := by decide +kernel
theorem dX2_firstFault_64 : decode cX2_firstFault 64 = .ok (.bipush 12, 2) := by decide +kernel
theorem dX2_firstFault_66 : decode cX2_firstFault 66 = .ok (.if_icmp .ge 11, 3) := by decide +kernel
theorem dX2_firstFault_69 : decode cX2_firstFault 69 = .ok (.iload 4, 2) := by decide +kernel
theorem dX2_firstFault_71 : decode cX2_firstFault 71 = .ok (.invokestatic 35, 3) := by decide +kernel
theorem dX2_firstFault_74 : decode cX2_firstFault 74 = .ok (.ifCond .ne 5, 3) := by decide +kernel
theorem dX2_firstFault_77 : decode cX2_firstFault 77 = .ok (.iload_n 3, 1) := by decide +kernel
theorem dX2_firstFault_78 : decode cX2_firstFault 78 = .ok (.ireturn, 1) := by decide +kernel
theorem dX2_firstFault_79 : decode cX2_firstFault 79 = .ok (.iinc 1 1, 3) := by decide +kernel
theorem dX2_firstFault_82 : decode cX2_firstFault 82 = .ok (.iload 4, 2) := by decide +kernel
theorem dX2_firstFault_84 : decode cX2_firstFault 84 = .ok (.invokestatic 27, 3) := by decide +kernel
theorem dX2_firstFault_87 : decode cX2_firstFault 87 = .ok (.istore_n 2, 1) := by decide +kernel
theorem dX2_firstFault_88 : decode cX2_firstFault 88 = .ok (.iinc 3 1, 3) := by decide +kernel
theorem dX2_firstFault_91 : decode cX2_firstFault 91 = .ok (.goto (-85), 3) := by decide +kernel
theorem dX2_firstFault_94 : decode cX2_firstFault 94 = .ok (.aload_n 0, 1) := by decide +kernel
theorem dX2_firstFault_95 : decode cX2_firstFault 95 = .ok (.getfield 15, 3) := by decide +kernel
theorem dX2_firstFault_98 : decode cX2_firstFault 98 = .ok (.ireturn, 1) := by decide +kernel
theorem dX2_isInHead_0 : decode cX2_isInHead 0 = .ok (.iload_n 1, 1) := by decide +kernel
theorem dX2_isInHead_1 : decode cX2_isInHead 1 = .ok (.tableswitch 96 0 2 #[27, 45, 78], 27) := by decide +kernel
theorem dX2_isInHead_28 : decode cX2_isInHead 28 = .ok (.iload_n 2, 1) := by decide +kernel
theorem dX2_isInHead_29 : decode cX2_isInHead 29 = .ok (.bipush 48, 2) := by decide +kernel
theorem dX2_isInHead_31 : decode cX2_isInHead 31 = .ok (.if_icmp .lt 13, 3) := by decide +kernel
theorem dX2_isInHead_34 : decode cX2_isInHead 34 = .ok (.iload_n 2, 1) := by decide +kernel
theorem dX2_isInHead_35 : decode cX2_isInHead 35 = .ok (.bipush 52, 2) := by decide +kernel
theorem dX2_isInHead_37 : decode cX2_isInHead 37 = .ok (.if_icmp .gt 7, 3) := by decide +kernel
theorem dX2_isInHead_40 : decode cX2_isInHead 40 = .ok (.iconst 1, 1) := by decide +kernel
theorem dX2_isInHead_41 : decode cX2_isInHead 41 = .ok (.goto 4, 3) := by decide +kernel
theorem dX2_isInHead_44 : decode cX2_isInHead 44 = .ok (.iconst 0, 1) := by decide +kernel
theorem dX2_isInHead_45 : decode cX2_isInHead 45 = .ok (.ireturn, 1) := by decide +kernel
theorem dX2_isInHead_46 : decode cX2_isInHead 46 = .ok (.iload_n 2, 1) := by decide +kernel
theorem dX2_isInHead_47 : decode cX2_isInHead 47 = .ok (.bipush 48, 2) := by decide +kernel
theorem dX2_isInHead_49 : decode cX2_isInHead 49 = .ok (.if_icmp .lt 28, 3) := by decide +kernel
theorem dX2_isInHead_52 : decode cX2_isInHead 52 = .ok (.iload_n 2, 1) := by decide +kernel
theorem dX2_isInHead_53 : decode cX2_isInHead 53 = .ok (.aload_n 0, 1) := by decide +kernel
theorem dX2_isInHead_54 : decode cX2_isInHead 54 = .ok (.iconst 0, 1) := by decide +kernel
theorem dX2_isInHead_55 : decode cX2_isInHead 55 = .ok (.invokevirtual 23, 3) := by decide +kernel
theorem dX2_isInHead_58 : decode cX2_isInHead 58 = .ok (.bipush 52, 2) := by decide +kernel
theorem dX2_isInHead_60 : decode cX2_isInHead 60 = .ok (.if_icmp .ne 8, 3) := by decide +kernel
theorem dX2_isInHead_63 : decode cX2_isInHead 63 = .ok (.bipush 53, 2) := by decide +kernel
theorem dX2_isInHead_65 : decode cX2_isInHead 65 = .ok (.goto 5, 3) := by decide +kernel
theorem dX2_isInHead_68 : decode cX2_isInHead 68 = .ok (.bipush 57, 2) := by decide +kernel
theorem dX2_isInHead_70 : decode cX2_isInHead 70 = .ok (.if_icmp .gt 7, 3) := by decide +kernel
theorem dX2_isInHead_73 : decode cX2_isInHead 73 = .ok (.iconst 1, 1) := by decide +kernel
theorem dX2_isInHead_74 : decode cX2_isInHead 74 = .ok (.goto 4, 3) := by decide +kernel
theorem dX2_isInHead_77 : decode cX2_isInHead 77 = .ok (.iconst 0, 1) := by decide +kernel
theorem dX2_isInHead_78 : decode cX2_isInHead 78 = .ok (.ireturn, 1) := by decide +kernel
theorem dX2_isInHead_79 : decode cX2_isInHead 79 = .ok (.iload_n 2, 1) := by decide +kernel
theorem dX2_isInHead_80 : decode cX2_isInHead 80 = .ok (.bipush 49, 2) := by decide +kernel
theorem dX2_isInHead_82 : decode cX2_isInHead 82 = .ok (.if_icmp .lt 13, 3) := by decide +kernel
theorem dX2_isInHead_85 : decode cX2_isInHead 85 = .ok (.iload_n 2, 1) := by decide +kernel
theorem dX2_isInHead_86 : decode cX2_isInHead 86 = .ok (.bipush 57, 2) := by decide +kernel
theorem dX2_isInHead_88 : decode cX2_isInHead 88 = .ok (.if_icmp .gt 7, 3) := by decide +kernel
theorem dX2_isInHead_91 : decode cX2_isInHead 91 = .ok (.iconst 1, 1) := by decide +kernel
theorem dX2_isInHead_92 : decode cX2_isInHead 92 = .ok (.goto 4, 3) := by decide +kernel
theorem dX2_isInHead_95 : decode cX2_isInHead 95 = .ok (.iconst 0, 1) := by decide +kernel
theorem dX2_isInHead_96 : decode cX2_isInHead 96 = .ok (.ireturn, 1) := by decide +kernel
theorem dX2_isInHead_97 : decode cX2_isInHead 97 = .ok (.iload_n 2, 1) := by decide +kernel
theorem dX2_isInHead_98 : decode cX2_isInHead 98 = .ok (.bipush 58, 2) := by decide +kernel
theorem dX2_isInHead_100 : decode cX2_isInHead 100 = .ok (.if_icmp .ne 7, 3) := by decide +kernel
theorem dX2_isInHead_103 : decode cX2_isInHead 103 = .ok (.iconst 1, 1) := by decide +kernel
theorem dX2_isInHead_104 : decode cX2_isInHead 104 = .ok (.goto 4, 3) := by decide +kernel
theorem dX2_isInHead_107 : decode cX2_isInHead 107 = .ok (.iconst 0, 1) := by decide +kernel
theorem dX2_isInHead_108 : decode cX2_isInHead 108 = .ok (.ireturn, 1) := by decide +kernel
theorem dX2_beginsPlace_0 : decode cX2_beginsPlace 0 = .ok (.iload_n 0, 1) := by decide +kernel
theorem dX2_beginsPlace_1 : decode cX2_beginsPlace 1 = .ok (.bipush 46, 2) := by decide +kernel
theorem dX2_beginsPlace_3 : decode cX2_beginsPlace 3 = .ok (.if_icmp .eq 22, 3) := by decide +kernel
theorem dX2_beginsPlace_6 : decode cX2_beginsPlace 6 = .ok (.iload_n 0, 1) := by decide +kernel
theorem dX2_beginsPlace_7 : decode cX2_beginsPlace 7 = .ok (.bipush 114, 2) := by decide +kernel
theorem dX2_beginsPlace_9 : decode cX2_beginsPlace 9 = .ok (.if_icmp .eq 16, 3) := by decide +kernel
theorem dX2_beginsPlace_12 : decode cX2_beginsPlace 12 = .ok (.iload_n 0, 1) := by decide +kernel
theorem dX2_beginsPlace_13 : decode cX2_beginsPlace 13 = .ok (.bipush 101, 2) := by decide +kernel
theorem dX2_beginsPlace_15 : decode cX2_beginsPlace 15 = .ok (.if_icmp .eq 10, 3) := by decide +kernel
theorem dX2_beginsPlace_18 : decode cX2_beginsPlace 18 = .ok (.iload_n 0, 1) := by decide +kernel
theorem dX2_beginsPlace_19 : decode cX2_beginsPlace 19 = .ok (.invokestatic 27, 3) := by decide +kernel
theorem dX2_beginsPlace_22 : decode cX2_beginsPlace 22 = .ok (.ifCond .eq 7, 3) := by decide +kernel
theorem dX2_beginsPlace_25 : decode cX2_beginsPlace 25 = .ok (.iconst 1, 1) := by decide +kernel
theorem dX2_beginsPlace_26 : decode cX2_beginsPlace 26 = .ok (.goto 4, 3) := by decide +kernel
theorem dX2_beginsPlace_29 : decode cX2_beginsPlace 29 = .ok (.iconst 0, 1) := by decide +kernel
theorem dX2_beginsPlace_30 : decode cX2_beginsPlace 30 = .ok (.ireturn, 1) := by decide +kernel
theorem dX2_isSong_0 : decode cX2_isSong 0 = .ok (.iload_n 0, 1) := by decide +kernel
theorem dX2_isSong_1 : decode cX2_isSong 1 = .ok (.bipush 115, 2) := by decide +kernel
theorem dX2_isSong_3 : decode cX2_isSong 3 = .ok (.if_icmp .eq 9, 3) := by decide +kernel
theorem dX2_isSong_6 : decode cX2_isSong 6 = .ok (.iload_n 0, 1) := by decide +kernel
theorem dX2_isSong_7 : decode cX2_isSong 7 = .ok (.bipush 98, 2) := by decide +kernel
theorem dX2_isSong_9 : decode cX2_isSong 9 = .ok (.if_icmp .ne 7, 3) := by decide +kernel
theorem dX2_isSong_12 : decode cX2_isSong 12 = .ok (.iconst 1, 1) := by decide +kernel
theorem dX2_isSong_13 : decode cX2_isSong 13 = .ok (.goto 4, 3) := by decide +kernel
theorem dX2_isSong_16 : decode cX2_isSong 16 = .ok (.iconst 0, 1) := by decide +kernel
theorem dX2_isSong_17 : decode cX2_isSong 17 = .ok (.ireturn, 1) := by decide +kernel
theorem dX3_init_0 : decode cX3_init 0 = .ok (.aload_n 0, 1) := by decide +kernel
theorem dX3_init_1 : decode cX3_init 1 = .ok (.invokespecial 3, 3) := by decide +kernel
theorem dX3_init_4 : decode cX3_init 4 = .ok (.aload_n 0, 1) := by decide +kernel
theorem dX3_init_5 : decode cX3_init 5 = .ok (.bipush 12, 2) := by decide +kernel
theorem dX3_init_7 : decode cX3_init 7 = .ok (.newarray .int, 2) := by decide +kernel
theorem dX3_init_9 : decode cX3_init 9 = .ok (.putfield 9, 3) := by decide +kernel
theorem dX3_init_12 : decode cX3_init 12 = .ok (.aload_n 0, 1) := by decide +kernel
theorem dX3_init_13 : decode cX3_init 13 = .ok (.bipush 12, 2) := by decide +kernel
theorem dX3_init_15 : decode cX3_init 15 = .ok (.newarray .int, 2) := by decide +kernel
theorem dX3_init_17 : decode cX3_init 17 = .ok (.putfield 15, 3) := by decide +kernel
theorem dX3_init_20 : decode cX3_init 20 = .ok (.return_, 1) := by decide +kernel
theorem dX3_read_0 : decode cX3_read 0 = .ok (.aload_n 0, 1) := by decide +kernel
theorem dX3_read_1 : decode cX3_read 1 = .ok (.bipush 10, 2) := by decide +kernel
theorem dX3_read_3 : decode cX3_read 3 = .ok (.aload_n 1, 1) := by decide +kernel
theorem dX3_read_4 : decode cX3_read 4 = .ok (.iconst 0, 1) := by decide +kernel
theorem dX3_read_5 : decode cX3_read 5 = .ok (.invokevirtual 18, 3) := by decide +kernel
theorem dX3_read_8 : decode cX3_read 8 = .ok (.bipush 48, 2) := by decide +kernel
theorem dX3_read_10 : decode cX3_read 10 = .ok (.isub, 1) := by decide +kernel
theorem dX3_read_11 : decode cX3_read 11 = .ok (.imul, 1) := by decide +kernel
theorem dX3_read_12 : decode cX3_read 12 = .ok (.aload_n 1, 1) := by decide +kernel
theorem dX3_read_13 : decode cX3_read 13 = .ok (.iconst 1, 1) := by decide +kernel
theorem dX3_read_14 : decode cX3_read 14 = .ok (.invokevirtual 18, 3) := by decide +kernel
theorem dX3_read_17 : decode cX3_read 17 = .ok (.iadd, 1) := by decide +kernel
theorem dX3_read_18 : decode cX3_read 18 = .ok (.bipush 48, 2) := by decide +kernel
theorem dX3_read_20 : decode cX3_read 20 = .ok (.isub, 1) := by decide +kernel
theorem dX3_read_21 : decode cX3_read 21 = .ok (.putfield 24, 3) := by decide +kernel
theorem dX3_read_24 : decode cX3_read 24 = .ok (.aload_n 0, 1) := by decide +kernel
theorem dX3_read_25 : decode cX3_read 25 = .ok (.aload_n 1, 1) := by decide +kernel
theorem dX3_read_26 : decode cX3_read 26 = .ok (.iconst 2, 1) := by decide +kernel
theorem dX3_read_27 : decode cX3_read 27 = .ok (.invokevirtual 18, 3) := by decide +kernel
theorem dX3_read_30 : decode cX3_read 30 = .ok (.bipush 48, 2) := by decide +kernel
theorem dX3_read_32 : decode cX3_read 32 = .ok (.isub, 1) := by decide +kernel
theorem dX3_read_33 : decode cX3_read 33 = .ok (.putfield 28, 3) := by decide +kernel
theorem dX3_read_36 : decode cX3_read 36 = .ok (.aload_n 0, 1) := by decide +kernel
theorem dX3_read_37 : decode cX3_read 37 = .ok (.iconst 0, 1) := by decide +kernel
theorem dX3_read_38 : decode cX3_read 38 = .ok (.putfield 31, 3) := by decide +kernel
theorem dX3_read_41 : decode cX3_read 41 = .ok (.iconst 4, 1) := by decide +kernel
theorem dX3_read_42 : decode cX3_read 42 = .ok (.istore_n 2, 1) := by decide +kernel
theorem dX3_read_43 : decode cX3_read 43 = .ok (.iload_n 2, 1) := by decide +kernel
theorem dX3_read_44 : decode cX3_read 44 = .ok (.aload_n 1, 1) := by decide +kernel
theorem dX3_read_45 : decode cX3_read 45 = .ok (.getfield 34, 3) := by decide +kernel
theorem dX3_read_48 : decode cX3_read 48 = .ok (.if_icmp .ge 52, 3) := by decide +kernel
theorem dX3_read_51 : decode cX3_read 51 = .ok (.aload_n 1, 1) := by decide +kernel
theorem dX3_read_52 : decode cX3_read 52 = .ok (.iload_n 2, 1) := by decide +kernel
theorem dX3_read_53 : decode cX3_read 53 = .ok (.invokevirtual 18, 3) := by decide +kernel
theorem dX3_read_56 : decode cX3_read 56 = .ok (.istore_n 3, 1) := by decide +kernel
theorem dX3_read_57 : decode cX3_read 57 = .ok (.iload_n 3, 1) := by decide +kernel
theorem dX3_read_58 : decode cX3_read 58 = .ok (.bipush 49, 2) := by decide +kernel
theorem dX3_read_60 : decode cX3_read 60 = .ok (.if_icmp .lt 26, 3) := by decide +kernel
theorem dX3_read_63 : decode cX3_read 63 = .ok (.iload_n 3, 1) := by decide +kernel
theorem dX3_read_64 : decode cX3_read 64 = .ok (.bipush 57, 2) := by decide +kernel
theorem dX3_read_66 : decode cX3_read 66 = .ok (.if_icmp .gt 20, 3) := by decide +kernel
theorem dX3_read_69 : decode cX3_read 69 = .ok (.aload_n 0, 1) := by decide +kernel
theorem dX3_read_70 : decode cX3_read 70 = .ok (.aload_n 0, 1) := by decide +kernel
theorem dX3_read_71 : decode cX3_read 71 = .ok (.getfield 31, 3) := by decide +kernel
theorem dX3_read_74 : decode cX3_read 74 = .ok (.iconst 1, 1) := by decide +kernel
theorem dX3_read_75 : decode cX3_read 75 = .ok (.isub, 1) := by decide +kernel
theorem dX3_read_76 : decode cX3_read 76 = .ok (.iload_n 3, 1) := by decide +kernel
theorem dX3_read_77 : decode cX3_read 77 = .ok (.bipush 48, 2) := by decide +kernel
theorem dX3_read_79 : decode cX3_read 79 = .ok (.isub, 1) := by decide +kernel
theorem dX3_read_80 : decode cX3_read 80 = .ok (.invokevirtual 35, 3) := by decide +kernel
theorem dX3_read_83 : decode cX3_read 83 = .ok (.goto 11, 3) := by decide +kernel
theorem dX3_read_86 : decode cX3_read 86 = .ok (.aload_n 0, 1) := by decide +kernel
theorem dX3_read_87 : decode cX3_read 87 = .ok (.iload_n 3, 1) := by decide +kernel
theorem dX3_read_88 : decode cX3_read 88 = .ok (.invokestatic 39, 3) := by decide +kernel
theorem dX3_read_91 : decode cX3_read 91 = .ok (.invokevirtual 42, 3) := by decide +kernel
theorem dX3_read_94 : decode cX3_read 94 = .ok (.iinc 2 1, 3) := by decide +kernel
theorem dX3_read_97 : decode cX3_read 97 = .ok (.goto (-54), 3) := by decide +kernel
theorem dX3_read_100 : decode cX3_read 100 = .ok (.return_, 1) := by decide +kernel
theorem dX3_rockBy_0 : decode cX3_rockBy 0 = .ok (.iload_n 0, 1) := by decide +kernel
theorem dX3_rockBy_1 : decode cX3_rockBy 1 = .ok (.bipush 114, 2) := by decide +kernel
theorem dX3_rockBy_3 : decode cX3_rockBy 3 = .ok (.if_icmp .eq 9, 3) := by decide +kernel
theorem dX3_rockBy_6 : decode cX3_rockBy 6 = .ok (.iload_n 0, 1) := by decide +kernel
theorem dX3_rockBy_7 : decode cX3_rockBy 7 = .ok (.bipush 98, 2) := by decide +kernel
theorem dX3_rockBy_9 : decode cX3_rockBy 9 = .ok (.if_icmp .ne 5, 3) := by decide +kernel
theorem dX3_rockBy_12 : decode cX3_rockBy 12 = .ok (.iconst 1, 1) := by decide +kernel
theorem dX3_rockBy_13 : decode cX3_rockBy 13 = .ok (.ireturn, 1) := by decide +kernel
theorem dX3_rockBy_14 : decode cX3_rockBy 14 = .ok (.iload_n 0, 1) := by decide +kernel
theorem dX3_rockBy_15 : decode cX3_rockBy 15 = .ok (.bipush 101, 2) := by decide +kernel
theorem dX3_rockBy_17 : decode cX3_rockBy 17 = .ok (.if_icmp .ne 7, 3) := by decide +kernel
theorem dX3_rockBy_20 : decode cX3_rockBy 20 = .ok (.iconst 2, 1) := by decide +kernel
theorem dX3_rockBy_21 : decode cX3_rockBy 21 = .ok (.goto 4, 3) := by decide +kernel
theorem dX3_rockBy_24 : decode cX3_rockBy 24 = .ok (.iconst 0, 1) := by decide +kernel
theorem dX3_rockBy_25 : decode cX3_rockBy 25 = .ok (.ireturn, 1) := by decide +kernel
theorem dX3_addPlace_0 : decode cX3_addPlace 0 = .ok (.aload_n 0, 1) := by decide +kernel
theorem dX3_addPlace_1 : decode cX3_addPlace 1 = .ok (.getfield 31, 3) := by decide +kernel
theorem dX3_addPlace_4 : decode cX3_addPlace 4 = .ok (.ifCond .lt 42, 3) := by decide +kernel
theorem dX3_addPlace_7 : decode cX3_addPlace 7 = .ok (.aload_n 0, 1) := by decide +kernel
theorem dX3_addPlace_8 : decode cX3_addPlace 8 = .ok (.getfield 31, 3) := by decide +kernel
theorem dX3_addPlace_11 : decode cX3_addPlace 11 = .ok (.bipush 12, 2) := by decide +kernel
theorem dX3_addPlace_13 : decode cX3_addPlace 13 = .ok (.if_icmp .ge 33, 3) := by decide +kernel
theorem dX3_addPlace_16 : decode cX3_addPlace 16 = .ok (.aload_n 0, 1) := by decide +kernel
theorem dX3_addPlace_17 : decode cX3_addPlace 17 = .ok (.getfield 9, 3) := by decide +kernel
theorem dX3_addPlace_20 : decode cX3_addPlace 20 = .ok (.aload_n 0, 1) := by decide +kernel
theorem dX3_addPlace_21 : decode cX3_addPlace 21 = .ok (.getfield 31, 3) := by decide +kernel
theorem dX3_addPlace_24 : decode cX3_addPlace 24 = .ok (.iconst 0, 1) := by decide +kernel
theorem dX3_addPlace_25 : decode cX3_addPlace 25 = .ok (.iastore, 1) := by decide +kernel
theorem dX3_addPlace_26 : decode cX3_addPlace 26 = .ok (.aload_n 0, 1) := by decide +kernel
theorem dX3_addPlace_27 : decode cX3_addPlace 27 = .ok (.getfield 15, 3) := by decide +kernel
theorem dX3_addPlace_30 : decode cX3_addPlace 30 = .ok (.aload_n 0, 1) := by decide +kernel
theorem dX3_addPlace_31 : decode cX3_addPlace 31 = .ok (.getfield 31, 3) := by decide +kernel
theorem dX3_addPlace_34 : decode cX3_addPlace 34 = .ok (.iload_n 1, 1) := by decide +kernel
theorem dX3_addPlace_35 : decode cX3_addPlace 35 = .ok (.iastore, 1) := by decide +kernel
theorem dX3_addPlace_36 : decode cX3_addPlace 36 = .ok (.aload_n 0, 1) := by decide +kernel
theorem dX3_addPlace_37 : decode cX3_addPlace 37 = .ok (.dup, 1) := by decide +kernel
theorem dX3_addPlace_38 : decode cX3_addPlace 38 = .ok (.getfield 31, 3) := by decide +kernel
theorem dX3_addPlace_41 : decode cX3_addPlace 41 = .ok (.iconst 1, 1) := by decide +kernel
theorem dX3_addPlace_42 : decode cX3_addPlace 42 = .ok (.iadd, 1) := by decide +kernel
theorem dX3_addPlace_43 : decode cX3_addPlace 43 = .ok (.putfield 31, 3) := by decide +kernel
theorem dX3_addPlace_46 : decode cX3_addPlace 46 = .ok (.return_, 1) := by decide +kernel
theorem dX3_setSong_0 : decode cX3_setSong 0 = .ok (.iload_n 1, 1) := by decide +kernel
theorem dX3_setSong_1 : decode cX3_setSong 1 = .ok (.ifCond .lt 16, 3) := by decide +kernel
theorem dX3_setSong_4 : decode cX3_setSong 4 = .ok (.iload_n 1, 1) := by decide +kernel
theorem dX3_setSong_5 : decode cX3_setSong 5 = .ok (.bipush 12, 2) := by decide +kernel
theorem dX3_setSong_7 : decode cX3_setSong 7 = .ok (.if_icmp .ge 10, 3) := by decide +kernel
theorem dX3_setSong_10 : decode cX3_setSong 10 = .ok (.aload_n 0, 1) := by decide +kernel
theorem dX3_setSong_11 : decode cX3_setSong 11 = .ok (.getfield 9, 3) := by decide +kernel
theorem dX3_setSong_14 : decode cX3_setSong 14 = .ok (.iload_n 1, 1) := by decide +kernel
theorem dX3_setSong_15 : decode cX3_setSong 15 = .ok (.iload_n 2, 1) := by decide +kernel
theorem dX3_setSong_16 : decode cX3_setSong 16 = .ok (.iastore, 1) := by decide +kernel
theorem dX3_setSong_17 : decode cX3_setSong 17 = .ok (.return_, 1) := by decide +kernel
theorem dX3_songAt_0 : decode cX3_songAt 0 = .ok (.iload_n 1, 1) := by decide +kernel
theorem dX3_songAt_1 : decode cX3_songAt 1 = .ok (.ifCond .lt 18, 3) := by decide +kernel
theorem dX3_songAt_4 : decode cX3_songAt 4 = .ok (.iload_n 1, 1) := by decide +kernel
theorem dX3_songAt_5 : decode cX3_songAt 5 = .ok (.bipush 12, 2) := by decide +kernel
theorem dX3_songAt_7 : decode cX3_songAt 7 = .ok (.if_icmp .ge 12, 3) := by decide +kernel
theorem dX3_songAt_10 : decode cX3_songAt 10 = .ok (.aload_n 0, 1) := by decide +kernel
theorem dX3_songAt_11 : decode cX3_songAt 11 = .ok (.getfield 9, 3) := by decide +kernel
theorem dX3_songAt_14 : decode cX3_songAt 14 = .ok (.iload_n 1, 1) := by decide +kernel
theorem dX3_songAt_15 : decode cX3_songAt 15 = .ok (.iaload, 1) := by decide +kernel
theorem dX3_songAt_16 : decode cX3_songAt 16 = .ok (.goto 4, 3) := by decide +kernel
theorem dX3_songAt_19 : decode cX3_songAt 19 = .ok (.iconst 0, 1) := by decide +kernel
theorem dX3_songAt_20 : decode cX3_songAt 20 = .ok (.ireturn, 1) := by decide +kernel
theorem dX3_rockAt_0 : decode cX3_rockAt 0 = .ok (.iload_n 1, 1) := by decide +kernel
theorem dX3_rockAt_1 : decode cX3_rockAt 1 = .ok (.ifCond .lt 18, 3) := by decide +kernel
theorem dX3_rockAt_4 : decode cX3_rockAt 4 = .ok (.iload_n 1, 1) := by decide +kernel
theorem dX3_rockAt_5 : decode cX3_rockAt 5 = .ok (.bipush 12, 2) := by decide +kernel
theorem dX3_rockAt_7 : decode cX3_rockAt 7 = .ok (.if_icmp .ge 12, 3) := by decide +kernel
theorem dX3_rockAt_10 : decode cX3_rockAt 10 = .ok (.aload_n 0, 1) := by decide +kernel
theorem dX3_rockAt_11 : decode cX3_rockAt 11 = .ok (.getfield 15, 3) := by decide +kernel
theorem dX3_rockAt_14 : decode cX3_rockAt 14 = .ok (.iload_n 1, 1) := by decide +kernel
theorem dX3_rockAt_15 : decode cX3_rockAt 15 = .ok (.iaload, 1) := by decide +kernel
theorem dX3_rockAt_16 : decode cX3_rockAt 16 = .ok (.goto 4, 3) := by decide +kernel
theorem dX3_rockAt_19 : decode cX3_rockAt 19 = .ok (.iconst 0, 1) := by decide +kernel
theorem dX3_rockAt_20 : decode cX3_rockAt 20 = .ok (.ireturn, 1) := by decide +kernel
theorem dX3_copyWeaker_0 : decode cX3_copyWeaker 0 = .ok (.aload_n 0, 1) := by decide +kernel
theorem dX3_copyWeaker_1 : decode cX3_copyWeaker 1 = .ok (.aload_n 1, 1) := by decide +kernel
theorem dX3_copyWeaker_2 : decode cX3_copyWeaker 2 = .ok (.invokevirtual 46, 3) := by decide +kernel
theorem dX3_copyWeaker_5 : decode cX3_copyWeaker 5 = .ok (.iconst 0, 1) := by decide +kernel
theorem dX3_copyWeaker_6 : decode cX3_copyWeaker 6 = .ok (.istore_n 3, 1) := by decide +kernel
theorem dX3_copyWeaker_7 : decode cX3_copyWeaker 7 = .ok (.iload_n 3, 1) := by decide +kernel
theorem dX3_copyWeaker_8 : decode cX3_copyWeaker 8 = .ok (.aload_n 0, 1) := by decide +kernel
theorem dX3_copyWeaker_9 : decode cX3_copyWeaker 9 = .ok (.getfield 31, 3) := by decide +kernel
theorem dX3_copyWeaker_12 : decode cX3_copyWeaker 12 = .ok (.if_icmp .ge 25, 3) := by decide +kernel
theorem dX3_copyWeaker_15 : decode cX3_copyWeaker 15 = .ok (.aload_n 0, 1) := by decide +kernel
theorem dX3_copyWeaker_16 : decode cX3_copyWeaker 16 = .ok (.iload_n 3, 1) := by decide +kernel
theorem dX3_copyWeaker_17 : decode cX3_copyWeaker 17 = .ok (.iconst 0, 1) := by decide +kernel
theorem dX3_copyWeaker_18 : decode cX3_copyWeaker 18 = .ok (.aload_n 0, 1) := by decide +kernel
theorem dX3_copyWeaker_19 : decode cX3_copyWeaker 19 = .ok (.iload_n 3, 1) := by decide +kernel
theorem dX3_copyWeaker_20 : decode cX3_copyWeaker 20 = .ok (.invokevirtual 50, 3) := by decide +kernel
theorem dX3_copyWeaker_23 : decode cX3_copyWeaker 23 = .ok (.iload_n 2, 1) := by decide +kernel
theorem dX3_copyWeaker_24 : decode cX3_copyWeaker 24 = .ok (.isub, 1) := by decide +kernel
theorem dX3_copyWeaker_25 : decode cX3_copyWeaker 25 = .ok (.invokestatic 53, 3) := by decide +kernel
theorem dX3_copyWeaker_28 : decode cX3_copyWeaker 28 = .ok (.invokevirtual 35, 3) := by decide +kernel
theorem dX3_copyWeaker_31 : decode cX3_copyWeaker 31 = .ok (.iinc 3 1, 3) := by decide +kernel
theorem dX3_copyWeaker_34 : decode cX3_copyWeaker 34 = .ok (.goto (-27), 3) := by decide +kernel
theorem dX3_copyWeaker_37 : decode cX3_copyWeaker 37 = .ok (.return_, 1) := by decide +kernel
theorem dX3_copyDrawn_0 : decode cX3_copyDrawn 0 = .ok (.aload_n 0, 1) := by decide +kernel
theorem dX3_copyDrawn_1 : decode cX3_copyDrawn 1 = .ok (.aload_n 1, 1) := by decide +kernel
theorem dX3_copyDrawn_2 : decode cX3_copyDrawn 2 = .ok (.invokevirtual 46, 3) := by decide +kernel
theorem dX3_copyDrawn_5 : decode cX3_copyDrawn 5 = .ok (.iload_n 2, 1) := by decide +kernel
theorem dX3_copyDrawn_6 : decode cX3_copyDrawn 6 = .ok (.istore_n 3, 1) := by decide +kernel
theorem dX3_copyDrawn_7 : decode cX3_copyDrawn 7 = .ok (.iconst 0, 1) := by decide +kernel
theorem dX3_copyDrawn_8 : decode cX3_copyDrawn 8 = .ok (.istore 4, 2) := by decide +kernel
theorem dX3_copyDrawn_10 : decode cX3_copyDrawn 10 = .ok (.iload 4, 2) := by decide +kernel
theorem dX3_copyDrawn_12 : decode cX3_copyDrawn 12 = .ok (.aload_n 0, 1) := by decide +kernel
theorem dX3_copyDrawn_13 : decode cX3_copyDrawn 13 = .ok (.getfield 31, 3) := by decide +kernel
theorem dX3_copyDrawn_16 : decode cX3_copyDrawn 16 = .ok (.if_icmp .ge 36, 3) := by decide +kernel
theorem dX3_copyDrawn_19 : decode cX3_copyDrawn 19 = .ok (.aload_n 0, 1) := by decide +kernel
theorem dX3_copyDrawn_20 : decode cX3_copyDrawn 20 = .ok (.iload 4, 2) := by decide +kernel
theorem dX3_copyDrawn_22 : decode cX3_copyDrawn 22 = .ok (.invokevirtual 50, 3) := by decide +kernel
theorem dX3_copyDrawn_25 : decode cX3_copyDrawn 25 = .ok (.ifCond .le 21, 3) := by decide +kernel
theorem dX3_copyDrawn_28 : decode cX3_copyDrawn 28 = .ok (.iload_n 3, 1) := by decide +kernel
theorem dX3_copyDrawn_29 : decode cX3_copyDrawn 29 = .ok (.invokestatic 59, 3) := by decide +kernel
theorem dX3_copyDrawn_32 : decode cX3_copyDrawn 32 = .ok (.istore_n 3, 1) := by decide +kernel
theorem dX3_copyDrawn_33 : decode cX3_copyDrawn 33 = .ok (.aload_n 0, 1) := by decide +kernel
theorem dX3_copyDrawn_34 : decode cX3_copyDrawn 34 = .ok (.iload 4, 2) := by decide +kernel
theorem dX3_copyDrawn_36 : decode cX3_copyDrawn 36 = .ok (.iload_n 3, 1) := by decide +kernel
theorem dX3_copyDrawn_37 : decode cX3_copyDrawn 37 = .ok (.ldc 62, 2) := by decide +kernel
theorem dX3_copyDrawn_39 : decode cX3_copyDrawn 39 = .ok (.idiv, 1) := by decide +kernel
theorem dX3_copyDrawn_40 : decode cX3_copyDrawn 40 = .ok (.bipush 10, 2) := by decide +kernel
theorem dX3_copyDrawn_42 : decode cX3_copyDrawn 42 = .ok (.irem, 1) := by decide +kernel
theorem dX3_copyDrawn_43 : decode cX3_copyDrawn 43 = .ok (.invokevirtual 35, 3) := by decide +kernel
theorem dX3_copyDrawn_46 : decode cX3_copyDrawn 46 = .ok (.iinc 4 1, 3) := by decide +kernel
theorem dX3_copyDrawn_49 : decode cX3_copyDrawn 49 = .ok (.goto (-39), 3) := by decide +kernel
theorem dX3_copyDrawn_52 : decode cX3_copyDrawn 52 = .ok (.iload_n 3, 1) := by decide +kernel
theorem dX3_copyDrawn_53 : decode cX3_copyDrawn 53 = .ok (.ireturn, 1) := by decide +kernel
theorem dX3_seedAfter_0 : decode cX3_seedAfter 0 = .ok (.ldc2_w 63, 3) := by decide +kernel
theorem dX3_seedAfter_3 : decode cX3_seedAfter 3 = .ok (.iload_n 0, 1) := by decide +kernel
theorem dX3_seedAfter_4 : decode cX3_seedAfter 4 = .ok (.i2l, 1) := by decide +kernel
theorem dX3_seedAfter_5 : decode cX3_seedAfter 5 = .ok (.lmul, 1) := by decide +kernel
theorem dX3_seedAfter_6 : decode cX3_seedAfter 6 = .ok (.ldc2_w 65, 3) := by decide +kernel
theorem dX3_seedAfter_9 : decode cX3_seedAfter 9 = .ok (.ladd, 1) := by decide +kernel
theorem dX3_seedAfter_10 : decode cX3_seedAfter 10 = .ok (.ldc2_w 67, 3) := by decide +kernel
theorem dX3_seedAfter_13 : decode cX3_seedAfter 13 = .ok (.lrem, 1) := by decide +kernel
theorem dX3_seedAfter_14 : decode cX3_seedAfter 14 = .ok (.l2i, 1) := by decide +kernel
theorem dX3_seedAfter_15 : decode cX3_seedAfter 15 = .ok (.ireturn, 1) := by decide +kernel
theorem dX3_copy_0 : decode cX3_copy 0 = .ok (.aload_n 1, 1) := by decide +kernel
theorem dX3_copy_1 : decode cX3_copy 1 = .ok (.getfield 9, 3) := by decide +kernel
theorem dX3_copy_4 : decode cX3_copy 4 = .ok (.iconst 0, 1) := by decide +kernel
theorem dX3_copy_5 : decode cX3_copy 5 = .ok (.aload_n 0, 1) := by decide +kernel
theorem dX3_copy_6 : decode cX3_copy 6 = .ok (.getfield 9, 3) := by decide +kernel
theorem dX3_copy_9 : decode cX3_copy 9 = .ok (.iconst 0, 1) := by decide +kernel
theorem dX3_copy_10 : decode cX3_copy 10 = .ok (.bipush 12, 2) := by decide +kernel
theorem dX3_copy_12 : decode cX3_copy 12 = .ok (.invokestatic 69, 3) := by decide +kernel
theorem dX3_copy_15 : decode cX3_copy 15 = .ok (.aload_n 1, 1) := by decide +kernel
theorem dX3_copy_16 : decode cX3_copy 16 = .ok (.getfield 15, 3) := by decide +kernel
theorem dX3_copy_19 : decode cX3_copy 19 = .ok (.iconst 0, 1) := by decide +kernel
theorem dX3_copy_20 : decode cX3_copy 20 = .ok (.aload_n 0, 1) := by decide +kernel
theorem dX3_copy_21 : decode cX3_copy 21 = .ok (.getfield 15, 3) := by decide +kernel
theorem dX3_copy_24 : decode cX3_copy 24 = .ok (.iconst 0, 1) := by decide +kernel
theorem dX3_copy_25 : decode cX3_copy 25 = .ok (.bipush 12, 2) := by decide +kernel
theorem dX3_copy_27 : decode cX3_copy 27 = .ok (.invokestatic 69, 3) := by decide +kernel
theorem dX3_copy_30 : decode cX3_copy 30 = .ok (.aload_n 0, 1) := by decide +kernel
theorem dX3_copy_31 : decode cX3_copy 31 = .ok (.aload_n 1, 1) := by decide +kernel
theorem dX3_copy_32 : decode cX3_copy 32 = .ok (.getfield 24, 3) := by decide +kernel
theorem dX3_copy_35 : decode cX3_copy 35 = .ok (.putfield 24, 3) := by decide +kernel
theorem dX3_copy_38 : decode cX3_copy 38 = .ok (.aload_n 0, 1) := by decide +kernel
theorem dX3_copy_39 : decode cX3_copy 39 = .ok (.aload_n 1, 1) := by decide +kernel
theorem dX3_copy_40 : decode cX3_copy 40 = .ok (.getfield 28, 3) := by decide +kernel
theorem dX3_copy_43 : decode cX3_copy 43 = .ok (.putfield 28, 3) := by decide +kernel
theorem dX3_copy_46 : decode cX3_copy 46 = .ok (.aload_n 0, 1) := by decide +kernel
theorem dX3_copy_47 : decode cX3_copy 47 = .ok (.aload_n 1, 1) := by decide +kernel
theorem dX3_copy_48 : decode cX3_copy 48 = .ok (.getfield 31, 3) := by decide +kernel
theorem dX3_copy_51 : decode cX3_copy 51 = .ok (.putfield 31, 3) := by decide +kernel
theorem dX3_copy_54 : decode cX3_copy 54 = .ok (.return_, 1) := by decide +kernel
theorem dX4_init_0 : decode cX4_init 0 = .ok (.aload_n 0, 1) := by decide +kernel
theorem dX4_init_1 : decode cX4_init 1 = .ok (.invokespecial 3, 3) := by decide +kernel
theorem dX4_init_4 : decode cX4_init 4 = .ok (.aload_n 0, 1) := by decide +kernel
theorem dX4_init_5 : decode cX4_init 5 = .ok (.iconst 5, 1) := by decide +kernel
theorem dX4_init_6 : decode cX4_init 6 = .ok (.newarray .int, 2) := by decide +kernel
theorem dX4_init_8 : decode cX4_init 8 = .ok (.putfield 9, 3) := by decide +kernel
theorem dX4_init_11 : decode cX4_init 11 = .ok (.return_, 1) := by decide +kernel
theorem dX4_copy_0 : decode cX4_copy 0 = .ok (.aload_n 1, 1) := by decide +kernel
theorem dX4_copy_1 : decode cX4_copy 1 = .ok (.getfield 9, 3) := by decide +kernel
theorem dX4_copy_4 : decode cX4_copy 4 = .ok (.iconst 0, 1) := by decide +kernel
theorem dX4_copy_5 : decode cX4_copy 5 = .ok (.aload_n 0, 1) := by decide +kernel
theorem dX4_copy_6 : decode cX4_copy 6 = .ok (.getfield 9, 3) := by decide +kernel
theorem dX4_copy_9 : decode cX4_copy 9 = .ok (.iconst 0, 1) := by decide +kernel
theorem dX4_copy_10 : decode cX4_copy 10 = .ok (.iconst 5, 1) := by decide +kernel
theorem dX4_copy_11 : decode cX4_copy 11 = .ok (.invokestatic 15, 3) := by decide +kernel
theorem dX4_copy_14 : decode cX4_copy 14 = .ok (.aload_n 0, 1) := by decide +kernel
theorem dX4_copy_15 : decode cX4_copy 15 = .ok (.aload_n 1, 1) := by decide +kernel
theorem dX4_copy_16 : decode cX4_copy 16 = .ok (.getfield 21, 3) := by decide +kernel
theorem dX4_copy_19 : decode cX4_copy 19 = .ok (.putfield 21, 3) := by decide +kernel
theorem dX4_copy_22 : decode cX4_copy 22 = .ok (.aload_n 0, 1) := by decide +kernel
theorem dX4_copy_23 : decode cX4_copy 23 = .ok (.aload_n 1, 1) := by decide +kernel
theorem dX4_copy_24 : decode cX4_copy 24 = .ok (.getfield 25, 3) := by decide +kernel
theorem dX4_copy_27 : decode cX4_copy 27 = .ok (.putfield 25, 3) := by decide +kernel
theorem dX4_copy_30 : decode cX4_copy 30 = .ok (.aload_n 0, 1) := by decide +kernel
theorem dX4_copy_31 : decode cX4_copy 31 = .ok (.aload_n 1, 1) := by decide +kernel
theorem dX4_copy_32 : decode cX4_copy 32 = .ok (.getfield 28, 3) := by decide +kernel
theorem dX4_copy_35 : decode cX4_copy 35 = .ok (.putfield 28, 3) := by decide +kernel
theorem dX4_copy_38 : decode cX4_copy 38 = .ok (.aload_n 0, 1) := by decide +kernel
theorem dX4_copy_39 : decode cX4_copy 39 = .ok (.aload_n 1, 1) := by decide +kernel
theorem dX4_copy_40 : decode cX4_copy 40 = .ok (.getfield 31, 3) := by decide +kernel
theorem dX4_copy_43 : decode cX4_copy 43 = .ok (.putfield 31, 3) := by decide +kernel
theorem dX4_copy_46 : decode cX4_copy 46 = .ok (.aload_n 0, 1) := by decide +kernel
theorem dX4_copy_47 : decode cX4_copy 47 = .ok (.aload_n 1, 1) := by decide +kernel
theorem dX4_copy_48 : decode cX4_copy 48 = .ok (.getfield 34, 3) := by decide +kernel
theorem dX4_copy_51 : decode cX4_copy 51 = .ok (.putfield 34, 3) := by decide +kernel
theorem dX4_copy_54 : decode cX4_copy 54 = .ok (.return_, 1) := by decide +kernel
theorem dX4_startWith_0 : decode cX4_startWith 0 = .ok (.aload_n 0, 1) := by decide +kernel
theorem dX4_startWith_1 : decode cX4_startWith 1 = .ok (.iload_n 1, 1) := by decide +kernel
theorem dX4_startWith_2 : decode cX4_startWith 2 = .ok (.putfield 25, 3) := by decide +kernel
theorem dX4_startWith_5 : decode cX4_startWith 5 = .ok (.aload_n 0, 1) := by decide +kernel
theorem dX4_startWith_6 : decode cX4_startWith 6 = .ok (.iconst 0, 1) := by decide +kernel
theorem dX4_startWith_7 : decode cX4_startWith 7 = .ok (.putfield 28, 3) := by decide +kernel
theorem dX4_startWith_10 : decode cX4_startWith 10 = .ok (.aload_n 0, 1) := by decide +kernel
theorem dX4_startWith_11 : decode cX4_startWith 11 = .ok (.iconst 0, 1) := by decide +kernel
theorem dX4_startWith_12 : decode cX4_startWith 12 = .ok (.putfield 31, 3) := by decide +kernel
theorem dX4_startWith_15 : decode cX4_startWith 15 = .ok (.aload_n 0, 1) := by decide +kernel
theorem dX4_startWith_16 : decode cX4_startWith 16 = .ok (.iconst 0, 1) := by decide +kernel
theorem dX4_startWith_17 : decode cX4_startWith 17 = .ok (.putfield 34, 3) := by decide +kernel
theorem dX4_startWith_20 : decode cX4_startWith 20 = .ok (.return_, 1) := by decide +kernel
theorem dX4_board_0 : decode cX4_board 0 = .ok (.aload_n 0, 1) := by decide +kernel
theorem dX4_board_1 : decode cX4_board 1 = .ok (.dup, 1) := by decide +kernel
theorem dX4_board_2 : decode cX4_board 2 = .ok (.getfield 25, 3) := by decide +kernel
theorem dX4_board_5 : decode cX4_board 5 = .ok (.iconst 1, 1) := by decide +kernel
theorem dX4_board_6 : decode cX4_board 6 = .ok (.iload_n 1, 1) := by decide +kernel
theorem dX4_board_7 : decode cX4_board 7 = .ok (.ishl, 1) := by decide +kernel
theorem dX4_board_8 : decode cX4_board 8 = .ok (.ior, 1) := by decide +kernel
theorem dX4_board_9 : decode cX4_board 9 = .ok (.putfield 25, 3) := by decide +kernel
theorem dX4_board_12 : decode cX4_board 12 = .ok (.aload_n 0, 1) := by decide +kernel
theorem dX4_board_13 : decode cX4_board 13 = .ok (.iload_n 1, 1) := by decide +kernel
theorem dX4_board_14 : decode cX4_board 14 = .ok (.iconst 0, 1) := by decide +kernel
theorem dX4_board_15 : decode cX4_board 15 = .ok (.invokevirtual 37, 3) := by decide +kernel
theorem dX4_board_18 : decode cX4_board 18 = .ok (.aload_n 0, 1) := by decide +kernel
theorem dX4_board_19 : decode cX4_board 19 = .ok (.iload_n 1, 1) := by decide +kernel
theorem dX4_board_20 : decode cX4_board 20 = .ok (.iconst 0, 1) := by decide +kernel
theorem dX4_board_21 : decode cX4_board 21 = .ok (.invokevirtual 41, 3) := by decide +kernel
theorem dX4_board_24 : decode cX4_board 24 = .ok (.return_, 1) := by decide +kernel
theorem dX4_isAboard_0 : decode cX4_isAboard 0 = .ok (.aload_n 0, 1) := by decide +kernel
theorem dX4_isAboard_1 : decode cX4_isAboard 1 = .ok (.getfield 25, 3) := by decide +kernel
theorem dX4_isAboard_4 : decode cX4_isAboard 4 = .ok (.iconst 1, 1) := by decide +kernel
theorem dX4_isAboard_5 : decode cX4_isAboard 5 = .ok (.iload_n 1, 1) := by decide +kernel
theorem dX4_isAboard_6 : decode cX4_isAboard 6 = .ok (.ishl, 1) := by decide +kernel
theorem dX4_isAboard_7 : decode cX4_isAboard 7 = .ok (.iand, 1) := by decide +kernel
theorem dX4_isAboard_8 : decode cX4_isAboard 8 = .ok (.ifCond .eq 7, 3) := by decide +kernel
theorem dX4_isAboard_11 : decode cX4_isAboard 11 = .ok (.iconst 1, 1) := by decide +kernel
theorem dX4_isAboard_12 : decode cX4_isAboard 12 = .ok (.goto 4, 3) := by decide +kernel
theorem dX4_isAboard_15 : decode cX4_isAboard 15 = .ok (.iconst 0, 1) := by decide +kernel
theorem dX4_isAboard_16 : decode cX4_isAboard 16 = .ok (.ireturn, 1) := by decide +kernel
theorem dX4_isWaxed_0 : decode cX4_isWaxed 0 = .ok (.aload_n 0, 1) := by decide +kernel
theorem dX4_isWaxed_1 : decode cX4_isWaxed 1 = .ok (.getfield 21, 3) := by decide +kernel
theorem dX4_isWaxed_4 : decode cX4_isWaxed 4 = .ok (.iconst 1, 1) := by decide +kernel
theorem dX4_isWaxed_5 : decode cX4_isWaxed 5 = .ok (.iload_n 1, 1) := by decide +kernel
theorem dX4_isWaxed_6 : decode cX4_isWaxed 6 = .ok (.ishl, 1) := by decide +kernel
theorem dX4_isWaxed_7 : decode cX4_isWaxed 7 = .ok (.iand, 1) := by decide +kernel
theorem dX4_isWaxed_8 : decode cX4_isWaxed 8 = .ok (.ifCond .eq 7, 3) := by decide +kernel
theorem dX4_isWaxed_11 : decode cX4_isWaxed 11 = .ok (.iconst 1, 1) := by decide +kernel
theorem dX4_isWaxed_12 : decode cX4_isWaxed 12 = .ok (.goto 4, 3) := by decide +kernel
theorem dX4_isWaxed_15 : decode cX4_isWaxed 15 = .ok (.iconst 0, 1) := by decide +kernel
theorem dX4_isWaxed_16 : decode cX4_isWaxed 16 = .ok (.ireturn, 1) := by decide +kernel
theorem dX4_setWax_0 : decode cX4_setWax 0 = .ok (.aload_n 0, 1) := by decide +kernel
theorem dX4_setWax_1 : decode cX4_setWax 1 = .ok (.iload_n 2, 1) := by decide +kernel
theorem dX4_setWax_2 : decode cX4_setWax 2 = .ok (.ifCond .eq 14, 3) := by decide +kernel
theorem dX4_setWax_5 : decode cX4_setWax 5 = .ok (.aload_n 0, 1) := by decide +kernel
theorem dX4_setWax_6 : decode cX4_setWax 6 = .ok (.getfield 21, 3) := by decide +kernel
theorem dX4_setWax_9 : decode cX4_setWax 9 = .ok (.iconst 1, 1) := by decide +kernel
theorem dX4_setWax_10 : decode cX4_setWax 10 = .ok (.iload_n 1, 1) := by decide +kernel
theorem dX4_setWax_11 : decode cX4_setWax 11 = .ok (.ishl, 1) := by decide +kernel
theorem dX4_setWax_12 : decode cX4_setWax 12 = .ok (.ior, 1) := by decide +kernel
theorem dX4_setWax_13 : decode cX4_setWax 13 = .ok (.goto 13, 3) := by decide +kernel
theorem dX4_setWax_16 : decode cX4_setWax 16 = .ok (.aload_n 0, 1) := by decide +kernel
theorem dX4_setWax_17 : decode cX4_setWax 17 = .ok (.getfield 21, 3) := by decide +kernel
theorem dX4_setWax_20 : decode cX4_setWax 20 = .ok (.iconst 1, 1) := by decide +kernel
theorem dX4_setWax_21 : decode cX4_setWax 21 = .ok (.iload_n 1, 1) := by decide +kernel
theorem dX4_setWax_22 : decode cX4_setWax 22 = .ok (.ishl, 1) := by decide +kernel
theorem dX4_setWax_23 : decode cX4_setWax 23 = .ok (.iconst (-1), 1) := by decide +kernel
theorem dX4_setWax_24 : decode cX4_setWax 24 = .ok (.ixor, 1) := by decide +kernel
theorem dX4_setWax_25 : decode cX4_setWax 25 = .ok (.iand, 1) := by decide +kernel
theorem dX4_setWax_26 : decode cX4_setWax 26 = .ok (.putfield 21, 3) := by decide +kernel
theorem dX4_setWax_29 : decode cX4_setWax 29 = .ok (.return_, 1) := by decide +kernel
theorem dX4_knotsOf_0 : decode cX4_knotsOf 0 = .ok (.iload_n 1, 1) := by decide +kernel
theorem dX4_knotsOf_1 : decode cX4_knotsOf 1 = .ok (.ifCond .lt 17, 3) := by decide +kernel
theorem dX4_knotsOf_4 : decode cX4_knotsOf 4 = .ok (.iload_n 1, 1) := by decide +kernel
theorem dX4_knotsOf_5 : decode cX4_knotsOf 5 = .ok (.iconst 5, 1) := by decide +kernel
theorem dX4_knotsOf_6 : decode cX4_knotsOf 6 = .ok (.if_icmp .ge 12, 3) := by decide +kernel
theorem dX4_knotsOf_9 : decode cX4_knotsOf 9 = .ok (.aload_n 0, 1) := by decide +kernel
theorem dX4_knotsOf_10 : decode cX4_knotsOf 10 = .ok (.getfield 9, 3) := by decide +kernel
theorem dX4_knotsOf_13 : decode cX4_knotsOf 13 = .ok (.iload_n 1, 1) := by decide +kernel
theorem dX4_knotsOf_14 : decode cX4_knotsOf 14 = .ok (.iaload, 1) := by decide +kernel
theorem dX4_knotsOf_15 : decode cX4_knotsOf 15 = .ok (.goto 4, 3) := by decide +kernel
theorem dX4_knotsOf_18 : decode cX4_knotsOf 18 = .ok (.iconst 0, 1) := by decide +kernel
theorem dX4_knotsOf_19 : decode cX4_knotsOf 19 = .ok (.ireturn, 1) := by decide +kernel
theorem dX4_setKnots_0 : decode cX4_setKnots 0 = .ok (.iload_n 1, 1) := by decide +kernel
theorem dX4_setKnots_1 : decode cX4_setKnots 1 = .ok (.ifCond .lt 15, 3) := by decide +kernel
theorem dX4_setKnots_4 : decode cX4_setKnots 4 = .ok (.iload_n 1, 1) := by decide +kernel
theorem dX4_setKnots_5 : decode cX4_setKnots 5 = .ok (.iconst 5, 1) := by decide +kernel
theorem dX4_setKnots_6 : decode cX4_setKnots 6 = .ok (.if_icmp .ge 10, 3) := by decide +kernel
theorem dX4_setKnots_9 : decode cX4_setKnots 9 = .ok (.aload_n 0, 1) := by decide +kernel
theorem dX4_setKnots_10 : decode cX4_setKnots 10 = .ok (.getfield 9, 3) := by decide +kernel
theorem dX4_setKnots_13 : decode cX4_setKnots 13 = .ok (.iload_n 1, 1) := by decide +kernel
theorem dX4_setKnots_14 : decode cX4_setKnots 14 = .ok (.iload_n 2, 1) := by decide +kernel
theorem dX4_setKnots_15 : decode cX4_setKnots 15 = .ok (.iastore, 1) := by decide +kernel
theorem dX4_setKnots_16 : decode cX4_setKnots 16 = .ok (.return_, 1) := by decide +kernel
theorem dX4_lostOf_0 : decode cX4_lostOf 0 = .ok (.aload_n 1, 1) := by decide +kernel
theorem dX4_lostOf_1 : decode cX4_lostOf 1 = .ok (.getfield 45, 3) := by decide +kernel
theorem dX4_lostOf_4 : decode cX4_lostOf 4 = .ok (.aload_n 0, 1) := by decide +kernel
theorem dX4_lostOf_5 : decode cX4_lostOf 5 = .ok (.getfield 25, 3) := by decide +kernel
theorem dX4_lostOf_8 : decode cX4_lostOf 8 = .ok (.invokestatic 50, 3) := by decide +kernel
theorem dX4_lostOf_11 : decode cX4_lostOf 11 = .ok (.isub, 1) := by decide +kernel
theorem dX4_lostOf_12 : decode cX4_lostOf 12 = .ok (.ireturn, 1) := by decide +kernel
theorem dX4_isHearing_0 : decode cX4_isHearing 0 = .ok (.aload_n 3, 1) := by decide +kernel
theorem dX4_isHearing_1 : decode cX4_isHearing 1 = .ok (.iload_n 1, 1) := by decide +kernel
theorem dX4_isHearing_2 : decode cX4_isHearing 2 = .ok (.invokevirtual 56, 3) := by decide +kernel
theorem dX4_isHearing_5 : decode cX4_isHearing 5 = .ok (.iconst 1, 1) := by decide +kernel
theorem dX4_isHearing_6 : decode cX4_isHearing 6 = .ok (.if_icmp .eq 26, 3) := by decide +kernel
theorem dX4_isHearing_9 : decode cX4_isHearing 9 = .ok (.aload_n 0, 1) := by decide +kernel
theorem dX4_isHearing_10 : decode cX4_isHearing 10 = .ok (.iload_n 1, 1) := by decide +kernel
theorem dX4_isHearing_11 : decode cX4_isHearing 11 = .ok (.invokevirtual 59, 3) := by decide +kernel
theorem dX4_isHearing_14 : decode cX4_isHearing 14 = .ok (.ifCond .eq 14, 3) := by decide +kernel
theorem dX4_isHearing_17 : decode cX4_isHearing 17 = .ok (.aload_n 0, 1) := by decide +kernel
theorem dX4_isHearing_18 : decode cX4_isHearing 18 = .ok (.getfield 31, 3) := by decide +kernel
theorem dX4_isHearing_21 : decode cX4_isHearing 21 = .ok (.aload_n 2, 1) := by decide +kernel
theorem dX4_isHearing_22 : decode cX4_isHearing 22 = .ok (.getfield 63, 3) := by decide +kernel
theorem dX4_isHearing_25 : decode cX4_isHearing 25 = .ok (.if_icmp .lt 7, 3) := by decide +kernel
theorem dX4_isHearing_28 : decode cX4_isHearing 28 = .ok (.iconst 1, 1) := by decide +kernel
theorem dX4_isHearing_29 : decode cX4_isHearing 29 = .ok (.goto 4, 3) := by decide +kernel
theorem dX4_isHearing_32 : decode cX4_isHearing 32 = .ok (.iconst 0, 1) := by decide +kernel
theorem dX4_isHearing_33 : decode cX4_isHearing 33 = .ok (.ireturn, 1) := by decide +kernel
theorem dX4_holdOn_0 : decode cX4_holdOn 0 = .ok (.aload_n 2, 1) := by decide +kernel
theorem dX4_holdOn_1 : decode cX4_holdOn 1 = .ok (.iload_n 1, 1) := by decide +kernel
theorem dX4_holdOn_2 : decode cX4_holdOn 2 = .ok (.invokevirtual 56, 3) := by decide +kernel
theorem dX4_holdOn_5 : decode cX4_holdOn 5 = .ok (.iconst 4, 1) := by decide +kernel
theorem dX4_holdOn_6 : decode cX4_holdOn 6 = .ok (.if_icmp .ne 7, 3) := by decide +kernel
theorem dX4_holdOn_9 : decode cX4_holdOn 9 = .ok (.iconst 3, 1) := by decide +kernel
theorem dX4_holdOn_10 : decode cX4_holdOn 10 = .ok (.goto 4, 3) := by decide +kernel
theorem dX4_holdOn_13 : decode cX4_holdOn 13 = .ok (.iconst 2, 1) := by decide +kernel
theorem dX4_holdOn_14 : decode cX4_holdOn 14 = .ok (.istore_n 3, 1) := by decide +kernel
theorem dX4_holdOn_15 : decode cX4_holdOn 15 = .ok (.aload_n 2, 1) := by decide +kernel
theorem dX4_holdOn_16 : decode cX4_holdOn 16 = .ok (.iload_n 1, 1) := by decide +kernel
theorem dX4_holdOn_17 : decode cX4_holdOn 17 = .ok (.invokevirtual 68, 3) := by decide +kernel
theorem dX4_holdOn_20 : decode cX4_holdOn 20 = .ok (.iload_n 3, 1) := by decide +kernel
theorem dX4_holdOn_21 : decode cX4_holdOn 21 = .ok (.aload_n 0, 1) := by decide +kernel
theorem dX4_holdOn_22 : decode cX4_holdOn 22 = .ok (.iload_n 1, 1) := by decide +kernel
theorem dX4_holdOn_23 : decode cX4_holdOn 23 = .ok (.invokevirtual 71, 3) := by decide +kernel
theorem dX4_holdOn_26 : decode cX4_holdOn 26 = .ok (.imul, 1) := by decide +kernel
theorem dX4_holdOn_27 : decode cX4_holdOn 27 = .ok (.iadd, 1) := by decide +kernel
theorem dX4_holdOn_28 : decode cX4_holdOn 28 = .ok (.ireturn, 1) := by decide +kernel
theorem dX4_rowOn_0 : decode cX4_rowOn 0 = .ok (.iconst 0, 1) := by decide +kernel
theorem dX4_rowOn_1 : decode cX4_rowOn 1 = .ok (.istore_n 3, 1) := by decide +kernel
theorem dX4_rowOn_2 : decode cX4_rowOn 2 = .ok (.iload_n 3, 1) := by decide +kernel
theorem dX4_rowOn_3 : decode cX4_rowOn 3 = .ok (.bipush 30, 2) := by decide +kernel
theorem dX4_rowOn_5 : decode cX4_rowOn 5 = .ok (.if_icmp .ge 23, 3) := by decide +kernel
theorem dX4_rowOn_8 : decode cX4_rowOn 8 = .ok (.aload_n 0, 1) := by decide +kernel
theorem dX4_rowOn_9 : decode cX4_rowOn 9 = .ok (.getfield 34, 3) := by decide +kernel
theorem dX4_rowOn_12 : decode cX4_rowOn 12 = .ok (.ifCond .ne 16, 3) := by decide +kernel
theorem dX4_rowOn_15 : decode cX4_rowOn 15 = .ok (.aload_n 0, 1) := by decide +kernel
theorem dX4_rowOn_16 : decode cX4_rowOn 16 = .ok (.aload_n 1, 1) := by decide +kernel
theorem dX4_rowOn_17 : decode cX4_rowOn 17 = .ok (.aload_n 2, 1) := by decide +kernel
theorem dX4_rowOn_18 : decode cX4_rowOn 18 = .ok (.invokevirtual 74, 3) := by decide +kernel
theorem dX4_rowOn_21 : decode cX4_rowOn 21 = .ok (.pop, 1) := by decide +kernel
theorem dX4_rowOn_22 : decode cX4_rowOn 22 = .ok (.iinc 3 1, 3) := by decide +kernel
theorem dX4_rowOn_25 : decode cX4_rowOn 25 = .ok (.goto (-23), 3) := by decide +kernel
theorem dX4_rowOn_28 : decode cX4_rowOn 28 = .ok (.iload_n 3, 1) := by decide +kernel
theorem dX4_rowOn_29 : decode cX4_rowOn 29 = .ok (.ireturn, 1) := by decide +kernel
theorem dX4_row_0 : decode cX4_row 0 = .ok (.aload_n 0, 1) := by decide +kernel
theorem dX4_row_1 : decode cX4_row 1 = .ok (.aload_n 1, 1) := by decide +kernel
theorem dX4_row_2 : decode cX4_row 2 = .ok (.aload_n 2, 1) := by decide +kernel
theorem dX4_row_3 : decode cX4_row 3 = .ok (.invokevirtual 78, 3) := by decide +kernel
theorem dX4_row_6 : decode cX4_row 6 = .ok (.istore_n 3, 1) := by decide +kernel
theorem dX4_row_7 : decode cX4_row 7 = .ok (.aload_n 0, 1) := by decide +kernel
theorem dX4_row_8 : decode cX4_row 8 = .ok (.dup, 1) := by decide +kernel
theorem dX4_row_9 : decode cX4_row 9 = .ok (.getfield 25, 3) := by decide +kernel
theorem dX4_row_12 : decode cX4_row 12 = .ok (.iload_n 3, 1) := by decide +kernel
theorem dX4_row_13 : decode cX4_row 13 = .ok (.iconst (-1), 1) := by decide +kernel
theorem dX4_row_14 : decode cX4_row 14 = .ok (.ixor, 1) := by decide +kernel
theorem dX4_row_15 : decode cX4_row 15 = .ok (.iand, 1) := by decide +kernel
theorem dX4_row_16 : decode cX4_row 16 = .ok (.putfield 25, 3) := by decide +kernel
theorem dX4_row_19 : decode cX4_row 19 = .ok (.aload_n 0, 1) := by decide +kernel
theorem dX4_row_20 : decode cX4_row 20 = .ok (.getfield 25, 3) := by decide +kernel
theorem dX4_row_23 : decode cX4_row 23 = .ok (.ifCond .ne 11, 3) := by decide +kernel
theorem dX4_row_26 : decode cX4_row 26 = .ok (.aload_n 0, 1) := by decide +kernel
theorem dX4_row_27 : decode cX4_row 27 = .ok (.iconst 3, 1) := by decide +kernel
theorem dX4_row_28 : decode cX4_row 28 = .ok (.putfield 34, 3) := by decide +kernel
theorem dX4_row_31 : decode cX4_row 31 = .ok (.goto 50, 3) := by decide +kernel
theorem dX4_row_34 : decode cX4_row 34 = .ok (.aload_n 0, 1) := by decide +kernel
theorem dX4_row_35 : decode cX4_row 35 = .ok (.aload_n 1, 1) := by decide +kernel
theorem dX4_row_36 : decode cX4_row 36 = .ok (.aload_n 0, 1) := by decide +kernel
theorem dX4_row_37 : decode cX4_row 37 = .ok (.getfield 28, 3) := by decide +kernel
theorem dX4_row_40 : decode cX4_row 40 = .ok (.invokevirtual 81, 3) := by decide +kernel
theorem dX4_row_43 : decode cX4_row 43 = .ok (.aload_n 1, 1) := by decide +kernel
theorem dX4_row_44 : decode cX4_row 44 = .ok (.aload_n 2, 1) := by decide +kernel
theorem dX4_row_45 : decode cX4_row 45 = .ok (.invokevirtual 84, 3) := by decide +kernel
theorem dX4_row_48 : decode cX4_row 48 = .ok (.ifCond .eq 16, 3) := by decide +kernel
theorem dX4_row_51 : decode cX4_row 51 = .ok (.aload_n 0, 1) := by decide +kernel
theorem dX4_row_52 : decode cX4_row 52 = .ok (.iconst 0, 1) := by decide +kernel
theorem dX4_row_53 : decode cX4_row 53 = .ok (.putfield 25, 3) := by decide +kernel
theorem dX4_row_56 : decode cX4_row 56 = .ok (.aload_n 0, 1) := by decide +kernel
theorem dX4_row_57 : decode cX4_row 57 = .ok (.iconst 2, 1) := by decide +kernel
theorem dX4_row_58 : decode cX4_row 58 = .ok (.putfield 34, 3) := by decide +kernel
theorem dX4_row_61 : decode cX4_row 61 = .ok (.goto 20, 3) := by decide +kernel
theorem dX4_row_64 : decode cX4_row 64 = .ok (.aload_n 0, 1) := by decide +kernel
theorem dX4_row_65 : decode cX4_row 65 = .ok (.aload_n 2, 1) := by decide +kernel
theorem dX4_row_66 : decode cX4_row 66 = .ok (.invokevirtual 88, 3) := by decide +kernel
theorem dX4_row_69 : decode cX4_row 69 = .ok (.aload_n 1, 1) := by decide +kernel
theorem dX4_row_70 : decode cX4_row 70 = .ok (.getfield 92, 3) := by decide +kernel
theorem dX4_row_73 : decode cX4_row 73 = .ok (.if_icmp .lt 8, 3) := by decide +kernel
theorem dX4_row_76 : decode cX4_row 76 = .ok (.aload_n 0, 1) := by decide +kernel
theorem dX4_row_77 : decode cX4_row 77 = .ok (.aload_n 1, 1) := by decide +kernel
theorem dX4_row_78 : decode cX4_row 78 = .ok (.invokevirtual 95, 3) := by decide +kernel
theorem dX4_row_81 : decode cX4_row 81 = .ok (.aload_n 0, 1) := by decide +kernel
theorem dX4_row_82 : decode cX4_row 82 = .ok (.dup, 1) := by decide +kernel
theorem dX4_row_83 : decode cX4_row 83 = .ok (.getfield 31, 3) := by decide +kernel
theorem dX4_row_86 : decode cX4_row 86 = .ok (.iconst 1, 1) := by decide +kernel
theorem dX4_row_87 : decode cX4_row 87 = .ok (.iadd, 1) := by decide +kernel
theorem dX4_row_88 : decode cX4_row 88 = .ok (.putfield 31, 3) := by decide +kernel
theorem dX4_row_91 : decode cX4_row 91 = .ok (.iload_n 3, 1) := by decide +kernel
theorem dX4_row_92 : decode cX4_row 92 = .ok (.ireturn, 1) := by decide +kernel
theorem dX4_comeOn_0 : decode cX4_comeOn 0 = .ok (.aload_n 0, 1) := by decide +kernel
theorem dX4_comeOn_1 : decode cX4_comeOn 1 = .ok (.getfield 28, 3) := by decide +kernel
theorem dX4_comeOn_4 : decode cX4_comeOn 4 = .ok (.iconst 1, 1) := by decide +kernel
theorem dX4_comeOn_5 : decode cX4_comeOn 5 = .ok (.iadd, 1) := by decide +kernel
theorem dX4_comeOn_6 : decode cX4_comeOn 6 = .ok (.aload_n 1, 1) := by decide +kernel
theorem dX4_comeOn_7 : decode cX4_comeOn 7 = .ok (.getfield 99, 3) := by decide +kernel
theorem dX4_comeOn_10 : decode cX4_comeOn 10 = .ok (.if_icmp .ge 16, 3) := by decide +kernel
theorem dX4_comeOn_13 : decode cX4_comeOn 13 = .ok (.aload_n 0, 1) := by decide +kernel
theorem dX4_comeOn_14 : decode cX4_comeOn 14 = .ok (.dup, 1) := by decide +kernel
theorem dX4_comeOn_15 : decode cX4_comeOn 15 = .ok (.getfield 28, 3) := by decide +kernel
theorem dX4_comeOn_18 : decode cX4_comeOn 18 = .ok (.iconst 1, 1) := by decide +kernel
theorem dX4_comeOn_19 : decode cX4_comeOn 19 = .ok (.iadd, 1) := by decide +kernel
theorem dX4_comeOn_20 : decode cX4_comeOn 20 = .ok (.putfield 28, 3) := by decide +kernel
theorem dX4_comeOn_23 : decode cX4_comeOn 23 = .ok (.goto 8, 3) := by decide +kernel
theorem dX4_comeOn_26 : decode cX4_comeOn 26 = .ok (.aload_n 0, 1) := by decide +kernel
theorem dX4_comeOn_27 : decode cX4_comeOn 27 = .ok (.iconst 1, 1) := by decide +kernel
theorem dX4_comeOn_28 : decode cX4_comeOn 28 = .ok (.putfield 34, 3) := by decide +kernel
theorem dX4_comeOn_31 : decode cX4_comeOn 31 = .ok (.return_, 1) := by decide +kernel
theorem dX4_swimmersAt_0 : decode cX4_swimmersAt 0 = .ok (.aload_n 1, 1) := by decide +kernel
theorem dX4_swimmersAt_1 : decode cX4_swimmersAt 1 = .ok (.aload_n 0, 1) := by decide +kernel
theorem dX4_swimmersAt_2 : decode cX4_swimmersAt 2 = .ok (.getfield 28, 3) := by decide +kernel
theorem dX4_swimmersAt_5 : decode cX4_swimmersAt 5 = .ok (.invokevirtual 100, 3) := by decide +kernel
theorem dX4_swimmersAt_8 : decode cX4_swimmersAt 8 = .ok (.istore_n 3, 1) := by decide +kernel
theorem dX4_swimmersAt_9 : decode cX4_swimmersAt 9 = .ok (.iconst 0, 1) := by decide +kernel
theorem dX4_swimmersAt_10 : decode cX4_swimmersAt 10 = .ok (.istore 4, 2) := by decide +kernel
theorem dX4_swimmersAt_12 : decode cX4_swimmersAt 12 = .ok (.iconst 0, 1) := by decide +kernel
theorem dX4_swimmersAt_13 : decode cX4_swimmersAt 13 = .ok (.istore 5, 2) := by decide +kernel
theorem dX4_swimmersAt_15 : decode cX4_swimmersAt 15 = .ok (.iload 5, 2) := by decide +kernel
theorem dX4_swimmersAt_17 : decode cX4_swimmersAt 17 = .ok (.aload_n 2, 1) := by decide +kernel
theorem dX4_swimmersAt_18 : decode cX4_swimmersAt 18 = .ok (.getfield 45, 3) := by decide +kernel
theorem dX4_swimmersAt_21 : decode cX4_swimmersAt 21 = .ok (.if_icmp .ge 69, 3) := by decide +kernel
theorem dX4_swimmersAt_24 : decode cX4_swimmersAt 24 = .ok (.aload_n 2, 1) := by decide +kernel
theorem dX4_swimmersAt_25 : decode cX4_swimmersAt 25 = .ok (.iload 5, 2) := by decide +kernel
theorem dX4_swimmersAt_27 : decode cX4_swimmersAt 27 = .ok (.invokevirtual 56, 3) := by decide +kernel
theorem dX4_swimmersAt_30 : decode cX4_swimmersAt 30 = .ok (.iconst 2, 1) := by decide +kernel
theorem dX4_swimmersAt_31 : decode cX4_swimmersAt 31 = .ok (.if_icmp .ne 9, 3) := by decide +kernel
theorem dX4_swimmersAt_34 : decode cX4_swimmersAt 34 = .ok (.iload_n 3, 1) := by decide +kernel
theorem dX4_swimmersAt_35 : decode cX4_swimmersAt 35 = .ok (.iconst 2, 1) := by decide +kernel
theorem dX4_swimmersAt_36 : decode cX4_swimmersAt 36 = .ok (.idiv, 1) := by decide +kernel
theorem dX4_swimmersAt_37 : decode cX4_swimmersAt 37 = .ok (.goto 4, 3) := by decide +kernel
theorem dX4_swimmersAt_40 : decode cX4_swimmersAt 40 = .ok (.iload_n 3, 1) := by decide +kernel
theorem dX4_swimmersAt_41 : decode cX4_swimmersAt 41 = .ok (.istore 6, 2) := by decide +kernel
theorem dX4_swimmersAt_43 : decode cX4_swimmersAt 43 = .ok (.aload_n 0, 1) := by decide +kernel
theorem dX4_swimmersAt_44 : decode cX4_swimmersAt 44 = .ok (.iload 5, 2) := by decide +kernel
theorem dX4_swimmersAt_46 : decode cX4_swimmersAt 46 = .ok (.invokevirtual 103, 3) := by decide +kernel
theorem dX4_swimmersAt_49 : decode cX4_swimmersAt 49 = .ok (.ifCond .eq 35, 3) := by decide +kernel
theorem dX4_swimmersAt_52 : decode cX4_swimmersAt 52 = .ok (.aload_n 0, 1) := by decide +kernel
theorem dX4_swimmersAt_53 : decode cX4_swimmersAt 53 = .ok (.iload 5, 2) := by decide +kernel
theorem dX4_swimmersAt_55 : decode cX4_swimmersAt 55 = .ok (.aload_n 1, 1) := by decide +kernel
theorem dX4_swimmersAt_56 : decode cX4_swimmersAt 56 = .ok (.aload_n 2, 1) := by decide +kernel
theorem dX4_swimmersAt_57 : decode cX4_swimmersAt 57 = .ok (.invokevirtual 106, 3) := by decide +kernel
theorem dX4_swimmersAt_60 : decode cX4_swimmersAt 60 = .ok (.ifCond .eq 24, 3) := by decide +kernel
theorem dX4_swimmersAt_63 : decode cX4_swimmersAt 63 = .ok (.aload_n 0, 1) := by decide +kernel
theorem dX4_swimmersAt_64 : decode cX4_swimmersAt 64 = .ok (.iload 5, 2) := by decide +kernel
theorem dX4_swimmersAt_66 : decode cX4_swimmersAt 66 = .ok (.aload_n 2, 1) := by decide +kernel
theorem dX4_swimmersAt_67 : decode cX4_swimmersAt 67 = .ok (.invokevirtual 109, 3) := by decide +kernel
theorem dX4_swimmersAt_70 : decode cX4_swimmersAt 70 = .ok (.iload 6, 2) := by decide +kernel
theorem dX4_swimmersAt_72 : decode cX4_swimmersAt 72 = .ok (.if_icmp .ge 12, 3) := by decide +kernel
theorem dX4_swimmersAt_75 : decode cX4_swimmersAt 75 = .ok (.iload 4, 2) := by decide +kernel
theorem dX4_swimmersAt_77 : decode cX4_swimmersAt 77 = .ok (.iconst 1, 1) := by decide +kernel
theorem dX4_swimmersAt_78 : decode cX4_swimmersAt 78 = .ok (.iload 5, 2) := by decide +kernel
theorem dX4_swimmersAt_80 : decode cX4_swimmersAt 80 = .ok (.ishl, 1) := by decide +kernel
theorem dX4_swimmersAt_81 : decode cX4_swimmersAt 81 = .ok (.ior, 1) := by decide +kernel
theorem dX4_swimmersAt_82 : decode cX4_swimmersAt 82 = .ok (.istore 4, 2) := by decide +kernel
theorem dX4_swimmersAt_84 : decode cX4_swimmersAt 84 = .ok (.iinc 5 1, 3) := by decide +kernel
theorem dX4_swimmersAt_87 : decode cX4_swimmersAt 87 = .ok (.goto (-72), 3) := by decide +kernel
theorem dX4_swimmersAt_90 : decode cX4_swimmersAt 90 = .ok (.iload 4, 2) := by decide +kernel
theorem dX4_swimmersAt_92 : decode cX4_swimmersAt 92 = .ok (.ireturn, 1) := by decide +kernel
theorem dX4_isStriking_0 : decode cX4_isStriking 0 = .ok (.iload_n 1, 1) := by decide +kernel
theorem dX4_isStriking_1 : decode cX4_isStriking 1 = .ok (.ifCond .ne 5, 3) := by decide +kernel
theorem dX4_isStriking_4 : decode cX4_isStriking 4 = .ok (.iconst 0, 1) := by decide +kernel
theorem dX4_isStriking_5 : decode cX4_isStriking 5 = .ok (.ireturn, 1) := by decide +kernel
theorem dX4_isStriking_6 : decode cX4_isStriking 6 = .ok (.iconst 0, 1) := by decide +kernel
theorem dX4_isStriking_7 : decode cX4_isStriking 7 = .ok (.istore 4, 2) := by decide +kernel
theorem dX4_isStriking_9 : decode cX4_isStriking 9 = .ok (.iload 4, 2) := by decide +kernel
theorem dX4_isStriking_11 : decode cX4_isStriking 11 = .ok (.aload_n 3, 1) := by decide +kernel
theorem dX4_isStriking_12 : decode cX4_isStriking 12 = .ok (.getfield 45, 3) := by decide +kernel
theorem dX4_isStriking_15 : decode cX4_isStriking 15 = .ok (.if_icmp .ge 62, 3) := by decide +kernel
theorem dX4_isStriking_18 : decode cX4_isStriking 18 = .ok (.iload_n 1, 1) := by decide +kernel
theorem dX4_isStriking_19 : decode cX4_isStriking 19 = .ok (.iconst 1, 1) := by decide +kernel
theorem dX4_isStriking_20 : decode cX4_isStriking 20 = .ok (.if_icmp .ne 25, 3) := by decide +kernel
theorem dX4_isStriking_23 : decode cX4_isStriking 23 = .ok (.aload_n 0, 1) := by decide +kernel
theorem dX4_isStriking_24 : decode cX4_isStriking 24 = .ok (.iload 4, 2) := by decide +kernel
theorem dX4_isStriking_26 : decode cX4_isStriking 26 = .ok (.invokevirtual 103, 3) := by decide +kernel
theorem dX4_isStriking_29 : decode cX4_isStriking 29 = .ok (.ifCond .eq 16, 3) := by decide +kernel
theorem dX4_isStriking_32 : decode cX4_isStriking 32 = .ok (.aload_n 0, 1) := by decide +kernel
theorem dX4_isStriking_33 : decode cX4_isStriking 33 = .ok (.iload 4, 2) := by decide +kernel
theorem dX4_isStriking_35 : decode cX4_isStriking 35 = .ok (.aload_n 2, 1) := by decide +kernel
theorem dX4_isStriking_36 : decode cX4_isStriking 36 = .ok (.aload_n 3, 1) := by decide +kernel
theorem dX4_isStriking_37 : decode cX4_isStriking 37 = .ok (.invokevirtual 106, 3) := by decide +kernel
theorem dX4_isStriking_40 : decode cX4_isStriking 40 = .ok (.ifCond .eq 5, 3) := by decide +kernel
theorem dX4_isStriking_43 : decode cX4_isStriking 43 = .ok (.iconst 0, 1) := by decide +kernel
theorem dX4_isStriking_44 : decode cX4_isStriking 44 = .ok (.ireturn, 1) := by decide +kernel
theorem dX4_isStriking_45 : decode cX4_isStriking 45 = .ok (.iload_n 1, 1) := by decide +kernel
theorem dX4_isStriking_46 : decode cX4_isStriking 46 = .ok (.iconst 2, 1) := by decide +kernel
theorem dX4_isStriking_47 : decode cX4_isStriking 47 = .ok (.if_icmp .ne 24, 3) := by decide +kernel
theorem dX4_isStriking_50 : decode cX4_isStriking 50 = .ok (.aload_n 0, 1) := by decide +kernel
theorem dX4_isStriking_51 : decode cX4_isStriking 51 = .ok (.iload 4, 2) := by decide +kernel
theorem dX4_isStriking_53 : decode cX4_isStriking 53 = .ok (.invokevirtual 113, 3) := by decide +kernel
theorem dX4_isStriking_56 : decode cX4_isStriking 56 = .ok (.ifCond .eq 15, 3) := by decide +kernel
theorem dX4_isStriking_59 : decode cX4_isStriking 59 = .ok (.aload_n 3, 1) := by decide +kernel
theorem dX4_isStriking_60 : decode cX4_isStriking 60 = .ok (.iload 4, 2) := by decide +kernel
theorem dX4_isStriking_62 : decode cX4_isStriking 62 = .ok (.iconst 3, 1) := by decide +kernel
theorem dX4_isStriking_63 : decode cX4_isStriking 63 = .ok (.invokevirtual 116, 3) := by decide +kernel
theorem dX4_isStriking_66 : decode cX4_isStriking 66 = .ok (.ifCond .eq 5, 3) := by decide +kernel
theorem dX4_isStriking_69 : decode cX4_isStriking 69 = .ok (.iconst 0, 1) := by decide +kernel
theorem dX4_isStriking_70 : decode cX4_isStriking 70 = .ok (.ireturn, 1) := by decide +kernel
theorem dX4_isStriking_71 : decode cX4_isStriking 71 = .ok (.iinc 4 1, 3) := by decide +kernel
theorem dX4_isStriking_74 : decode cX4_isStriking 74 = .ok (.goto (-65), 3) := by decide +kernel
theorem dX4_isStriking_77 : decode cX4_isStriking 77 = .ok (.iconst 1, 1) := by decide +kernel
theorem dX4_isStriking_78 : decode cX4_isStriking 78 = .ok (.ireturn, 1) := by decide +kernel
theorem dX4_freeOars_0 : decode cX4_freeOars 0 = .ok (.iconst 0, 1) := by decide +kernel
theorem dX4_freeOars_1 : decode cX4_freeOars 1 = .ok (.istore_n 2, 1) := by decide +kernel
theorem dX4_freeOars_2 : decode cX4_freeOars 2 = .ok (.iconst 0, 1) := by decide +kernel
theorem dX4_freeOars_3 : decode cX4_freeOars 3 = .ok (.istore_n 3, 1) := by decide +kernel
theorem dX4_freeOars_4 : decode cX4_freeOars 4 = .ok (.iload_n 3, 1) := by decide +kernel
theorem dX4_freeOars_5 : decode cX4_freeOars 5 = .ok (.aload_n 1, 1) := by decide +kernel
theorem dX4_freeOars_6 : decode cX4_freeOars 6 = .ok (.getfield 45, 3) := by decide +kernel
theorem dX4_freeOars_9 : decode cX4_freeOars 9 = .ok (.if_icmp .ge 25, 3) := by decide +kernel
theorem dX4_freeOars_12 : decode cX4_freeOars 12 = .ok (.aload_n 0, 1) := by decide +kernel
theorem dX4_freeOars_13 : decode cX4_freeOars 13 = .ok (.iload_n 3, 1) := by decide +kernel
theorem dX4_freeOars_14 : decode cX4_freeOars 14 = .ok (.invokevirtual 113, 3) := by decide +kernel
theorem dX4_freeOars_17 : decode cX4_freeOars 17 = .ok (.ifCond .eq 11, 3) := by decide +kernel
theorem dX4_freeOars_20 : decode cX4_freeOars 20 = .ok (.iload_n 2, 1) := by decide +kernel
theorem dX4_freeOars_21 : decode cX4_freeOars 21 = .ok (.aload_n 1, 1) := by decide +kernel
theorem dX4_freeOars_22 : decode cX4_freeOars 22 = .ok (.iload_n 3, 1) := by decide +kernel
theorem dX4_freeOars_23 : decode cX4_freeOars 23 = .ok (.invokevirtual 120, 3) := by decide +kernel
theorem dX4_freeOars_26 : decode cX4_freeOars 26 = .ok (.iadd, 1) := by decide +kernel
theorem dX4_freeOars_27 : decode cX4_freeOars 27 = .ok (.istore_n 2, 1) := by decide +kernel
theorem dX4_freeOars_28 : decode cX4_freeOars 28 = .ok (.iinc 3 1, 3) := by decide +kernel
theorem dX4_freeOars_31 : decode cX4_freeOars 31 = .ok (.goto (-27), 3) := by decide +kernel
theorem dX4_freeOars_34 : decode cX4_freeOars 34 = .ok (.iload_n 2, 1) := by decide +kernel
theorem dX4_freeOars_35 : decode cX4_freeOars 35 = .ok (.ireturn, 1) := by decide +kernel
theorem dX4_isFree_0 : decode cX4_isFree 0 = .ok (.aload_n 0, 1) := by decide +kernel
theorem dX4_isFree_1 : decode cX4_isFree 1 = .ok (.iload_n 1, 1) := by decide +kernel
theorem dX4_isFree_2 : decode cX4_isFree 2 = .ok (.invokevirtual 103, 3) := by decide +kernel
theorem dX4_isFree_5 : decode cX4_isFree 5 = .ok (.ifCond .eq 15, 3) := by decide +kernel
theorem dX4_isFree_8 : decode cX4_isFree 8 = .ok (.aload_n 0, 1) := by decide +kernel
theorem dX4_isFree_9 : decode cX4_isFree 9 = .ok (.iload_n 1, 1) := by decide +kernel
theorem dX4_isFree_10 : decode cX4_isFree 10 = .ok (.invokevirtual 71, 3) := by decide +kernel
theorem dX4_isFree_13 : decode cX4_isFree 13 = .ok (.ifCond .ne 7, 3) := by decide +kernel
theorem dX4_isFree_16 : decode cX4_isFree 16 = .ok (.iconst 1, 1) := by decide +kernel
theorem dX4_isFree_17 : decode cX4_isFree 17 = .ok (.goto 4, 3) := by decide +kernel
theorem dX4_isFree_20 : decode cX4_isFree 20 = .ok (.iconst 0, 1) := by decide +kernel
theorem dX4_isFree_21 : decode cX4_isFree 21 = .ok (.ireturn, 1) := by decide +kernel
theorem dX5_init_0 : decode cX5_init 0 = .ok (.aload_n 0, 1) := by decide +kernel
theorem dX5_init_1 : decode cX5_init 1 = .ok (.invokespecial 3, 3) := by decide +kernel
theorem dX5_init_4 : decode cX5_init 4 = .ok (.aload_n 0, 1) := by decide +kernel
theorem dX5_init_5 : decode cX5_init 5 = .ok (.new 9, 3) := by decide +kernel
theorem dX5_init_8 : decode cX5_init 8 = .ok (.dup, 1) := by decide +kernel
theorem dX5_init_9 : decode cX5_init 9 = .ok (.invokespecial 11, 3) := by decide +kernel
theorem dX5_init_12 : decode cX5_init 12 = .ok (.putfield 12, 3) := by decide +kernel
theorem dX5_init_15 : decode cX5_init 15 = .ok (.aload_n 0, 1) := by decide +kernel
theorem dX5_init_16 : decode cX5_init 16 = .ok (.new 16, 3) := by decide +kernel
theorem dX5_init_19 : decode cX5_init 19 = .ok (.dup, 1) := by decide +kernel
theorem dX5_init_20 : decode cX5_init 20 = .ok (.invokespecial 18, 3) := by decide +kernel
theorem dX5_init_23 : decode cX5_init 23 = .ok (.putfield 19, 3) := by decide +kernel
theorem dX5_init_26 : decode cX5_init 26 = .ok (.aload_n 0, 1) := by decide +kernel
theorem dX5_init_27 : decode cX5_init 27 = .ok (.new 23, 3) := by decide +kernel
theorem dX5_init_30 : decode cX5_init 30 = .ok (.dup, 1) := by decide +kernel
theorem dX5_init_31 : decode cX5_init 31 = .ok (.invokespecial 25, 3) := by decide +kernel
theorem dX5_init_34 : decode cX5_init 34 = .ok (.putfield 26, 3) := by decide +kernel
theorem dX5_init_37 : decode cX5_init 37 = .ok (.aload_n 0, 1) := by decide +kernel
theorem dX5_init_38 : decode cX5_init 38 = .ok (.new 30, 3) := by decide +kernel
theorem dX5_init_41 : decode cX5_init 41 = .ok (.dup, 1) := by decide +kernel
theorem dX5_init_42 : decode cX5_init 42 = .ok (.invokespecial 32, 3) := by decide +kernel
theorem dX5_init_45 : decode cX5_init 45 = .ok (.putfield 33, 3) := by decide +kernel
theorem dX5_init_48 : decode cX5_init 48 = .ok (.aload_n 0, 1) := by decide +kernel
theorem dX5_init_49 : decode cX5_init 49 = .ok (.new 37, 3) := by decide +kernel
theorem dX5_init_52 : decode cX5_init 52 = .ok (.dup, 1) := by decide +kernel
theorem dX5_init_53 : decode cX5_init 53 = .ok (.invokespecial 39, 3) := by decide +kernel
theorem dX5_init_56 : decode cX5_init 56 = .ok (.putfield 40, 3) := by decide +kernel
theorem dX5_init_59 : decode cX5_init 59 = .ok (.aload_n 0, 1) := by decide +kernel
theorem dX5_init_60 : decode cX5_init 60 = .ok (.new 30, 3) := by decide +kernel
theorem dX5_init_63 : decode cX5_init 63 = .ok (.dup, 1) := by decide +kernel
theorem dX5_init_64 : decode cX5_init 64 = .ok (.invokespecial 32, 3) := by decide +kernel
theorem dX5_init_67 : decode cX5_init 67 = .ok (.putfield 44, 3) := by decide +kernel
theorem dX5_init_70 : decode cX5_init 70 = .ok (.aload_n 0, 1) := by decide +kernel
theorem dX5_init_71 : decode cX5_init 71 = .ok (.new 37, 3) := by decide +kernel
theorem dX5_init_74 : decode cX5_init 74 = .ok (.dup, 1) := by decide +kernel
theorem dX5_init_75 : decode cX5_init 75 = .ok (.invokespecial 39, 3) := by decide +kernel
theorem dX5_init_78 : decode cX5_init 78 = .ok (.putfield 47, 3) := by decide +kernel
theorem dX5_init_81 : decode cX5_init 81 = .ok (.aload_n 0, 1) := by decide +kernel
theorem dX5_init_82 : decode cX5_init 82 = .ok (.new 30, 3) := by decide +kernel
theorem dX5_init_85 : decode cX5_init 85 = .ok (.dup, 1) := by decide +kernel
theorem dX5_init_86 : decode cX5_init 86 = .ok (.invokespecial 32, 3) := by decide +kernel
theorem dX5_init_89 : decode cX5_init 89 = .ok (.putfield 50, 3) := by decide +kernel
theorem dX5_init_92 : decode cX5_init 92 = .ok (.aload_n 0, 1) := by decide +kernel
theorem dX5_init_93 : decode cX5_init 93 = .ok (.new 16, 3) := by decide +kernel
theorem dX5_init_96 : decode cX5_init 96 = .ok (.dup, 1) := by decide +kernel
theorem dX5_init_97 : decode cX5_init 97 = .ok (.invokespecial 18, 3) := by decide +kernel
theorem dX5_init_100 : decode cX5_init 100 = .ok (.putfield 53, 3) := by decide +kernel
theorem dX5_init_103 : decode cX5_init 103 = .ok (.return_, 1) := by decide +kernel
theorem dX5_letter_0 : decode cX5_letter 0 = .ok (.iload_n 1, 1) := by decide +kernel
theorem dX5_letter_1 : decode cX5_letter 1 = .ok (.bipush 32, 2) := by decide +kernel
theorem dX5_letter_3 : decode cX5_letter 3 = .ok (.if_icmp .lt 9, 3) := by decide +kernel
theorem dX5_letter_6 : decode cX5_letter 6 = .ok (.iload_n 1, 1) := by decide +kernel
theorem dX5_letter_7 : decode cX5_letter 7 = .ok (.bipush 126, 2) := by decide +kernel
theorem dX5_letter_9 : decode cX5_letter 9 = .ok (.if_icmp .le 6, 3) := by decide +kernel
theorem dX5_letter_12 : decode cX5_letter 12 = .ok (.bipush (-102), 2) := by decide +kernel
theorem dX5_letter_14 : decode cX5_letter 14 = .ok (.ireturn, 1) := by decide +kernel
theorem dX5_letter_15 : decode cX5_letter 15 = .ok (.aload_n 0, 1) := by decide +kernel
theorem dX5_letter_16 : decode cX5_letter 16 = .ok (.getfield 12, 3) := by decide +kernel
theorem dX5_letter_19 : decode cX5_letter 19 = .ok (.getfield 56, 3) := by decide +kernel
theorem dX5_letter_22 : decode cX5_letter 22 = .ok (.bipush 30, 2) := by decide +kernel
theorem dX5_letter_24 : decode cX5_letter 24 = .ok (.if_icmp .lt 6, 3) := by decide +kernel
theorem dX5_letter_27 : decode cX5_letter 27 = .ok (.bipush (-104), 2) := by decide +kernel
theorem dX5_letter_29 : decode cX5_letter 29 = .ok (.ireturn, 1) := by decide +kernel
theorem dX5_letter_30 : decode cX5_letter 30 = .ok (.aload_n 0, 1) := by decide +kernel
theorem dX5_letter_31 : decode cX5_letter 31 = .ok (.getfield 12, 3) := by decide +kernel
theorem dX5_letter_34 : decode cX5_letter 34 = .ok (.iload_n 1, 1) := by decide +kernel
theorem dX5_letter_35 : decode cX5_letter 35 = .ok (.invokevirtual 60, 3) := by decide +kernel
theorem dX5_letter_38 : decode cX5_letter 38 = .ok (.aload_n 0, 1) := by decide +kernel
theorem dX5_letter_39 : decode cX5_letter 39 = .ok (.getfield 12, 3) := by decide +kernel
theorem dX5_letter_42 : decode cX5_letter 42 = .ok (.getfield 56, 3) := by decide +kernel
theorem dX5_letter_45 : decode cX5_letter 45 = .ok (.ireturn, 1) := by decide +kernel
theorem dX5_blank_0 : decode cX5_blank 0 = .ok (.aload_n 0, 1) := by decide +kernel
theorem dX5_blank_1 : decode cX5_blank 1 = .ok (.getfield 12, 3) := by decide +kernel
theorem dX5_blank_4 : decode cX5_blank 4 = .ok (.getfield 56, 3) := by decide +kernel
theorem dX5_blank_7 : decode cX5_blank 7 = .ok (.istore_n 1, 1) := by decide +kernel
theorem dX5_blank_8 : decode cX5_blank 8 = .ok (.aload_n 0, 1) := by decide +kernel
theorem dX5_blank_9 : decode cX5_blank 9 = .ok (.getfield 12, 3) := by decide +kernel
theorem dX5_blank_12 : decode cX5_blank 12 = .ok (.iconst 0, 1) := by decide +kernel
theorem dX5_blank_13 : decode cX5_blank 13 = .ok (.putfield 56, 3) := by decide +kernel
theorem dX5_blank_16 : decode cX5_blank 16 = .ok (.iload_n 1, 1) := by decide +kernel
theorem dX5_blank_17 : decode cX5_blank 17 = .ok (.ireturn, 1) := by decide +kernel
theorem dX5_fault_0 : decode cX5_fault 0 = .ok (.aload_n 0, 1) := by decide +kernel
theorem dX5_fault_1 : decode cX5_fault 1 = .ok (.getfield 12, 3) := by decide +kernel
theorem dX5_fault_4 : decode cX5_fault 4 = .ok (.invokevirtual 64, 3) := by decide +kernel
theorem dX5_fault_7 : decode cX5_fault 7 = .ok (.ireturn, 1) := by decide +kernel
theorem dX5_passage_0 : decode cX5_passage 0 = .ok (.aload_n 0, 1) := by decide +kernel
theorem dX5_passage_1 : decode cX5_passage 1 = .ok (.getfield 12, 3) := by decide +kernel
theorem dX5_passage_4 : decode cX5_passage 4 = .ok (.invokevirtual 68, 3) := by decide +kernel
theorem dX5_passage_7 : decode cX5_passage 7 = .ok (.ifCond .ne 6, 3) := by decide +kernel
theorem dX5_passage_10 : decode cX5_passage 10 = .ok (.bipush (-103), 2) := by decide +kernel
theorem dX5_passage_12 : decode cX5_passage 12 = .ok (.ireturn, 1) := by decide +kernel
theorem dX5_passage_13 : decode cX5_passage 13 = .ok (.aload_n 0, 1) := by decide +kernel
theorem dX5_passage_14 : decode cX5_passage 14 = .ok (.getfield 19, 3) := by decide +kernel
theorem dX5_passage_17 : decode cX5_passage 17 = .ok (.aload_n 0, 1) := by decide +kernel
theorem dX5_passage_18 : decode cX5_passage 18 = .ok (.getfield 12, 3) := by decide +kernel
theorem dX5_passage_21 : decode cX5_passage 21 = .ok (.invokevirtual 72, 3) := by decide +kernel
theorem dX5_passage_24 : decode cX5_passage 24 = .ok (.aload_n 0, 1) := by decide +kernel
theorem dX5_passage_25 : decode cX5_passage 25 = .ok (.getfield 12, 3) := by decide +kernel
theorem dX5_passage_28 : decode cX5_passage 28 = .ok (.iconst 0, 1) := by decide +kernel
theorem dX5_passage_29 : decode cX5_passage 29 = .ok (.putfield 56, 3) := by decide +kernel
theorem dX5_passage_32 : decode cX5_passage 32 = .ok (.aload_n 0, 1) := by decide +kernel
theorem dX5_passage_33 : decode cX5_passage 33 = .ok (.getfield 26, 3) := by decide +kernel
theorem dX5_passage_36 : decode cX5_passage 36 = .ok (.iconst 0, 1) := by decide +kernel
theorem dX5_passage_37 : decode cX5_passage 37 = .ok (.putfield 76, 3) := by decide +kernel
theorem dX5_passage_40 : decode cX5_passage 40 = .ok (.aload_n 0, 1) := by decide +kernel
theorem dX5_passage_41 : decode cX5_passage 41 = .ok (.getfield 40, 3) := by decide +kernel
theorem dX5_passage_44 : decode cX5_passage 44 = .ok (.iconst 0, 1) := by decide +kernel
theorem dX5_passage_45 : decode cX5_passage 45 = .ok (.putfield 77, 3) := by decide +kernel
theorem dX5_passage_48 : decode cX5_passage 48 = .ok (.aload_n 0, 1) := by decide +kernel
theorem dX5_passage_49 : decode cX5_passage 49 = .ok (.getfield 33, 3) := by decide +kernel
theorem dX5_passage_52 : decode cX5_passage 52 = .ok (.iconst 0, 1) := by decide +kernel
theorem dX5_passage_53 : decode cX5_passage 53 = .ok (.invokevirtual 78, 3) := by decide +kernel
theorem dX5_passage_56 : decode cX5_passage 56 = .ok (.aload_n 0, 1) := by decide +kernel
theorem dX5_passage_57 : decode cX5_passage 57 = .ok (.iconst 0, 1) := by decide +kernel
theorem dX5_passage_58 : decode cX5_passage 58 = .ok (.putfield 81, 3) := by decide +kernel
theorem dX5_passage_61 : decode cX5_passage 61 = .ok (.aload_n 0, 1) := by decide +kernel
theorem dX5_passage_62 : decode cX5_passage 62 = .ok (.dup, 1) := by decide +kernel
theorem dX5_passage_63 : decode cX5_passage 63 = .ok (.getfield 85, 3) := by decide +kernel
theorem dX5_passage_66 : decode cX5_passage 66 = .ok (.iconst 1, 1) := by decide +kernel
theorem dX5_passage_67 : decode cX5_passage 67 = .ok (.iadd, 1) := by decide +kernel
theorem dX5_passage_68 : decode cX5_passage 68 = .ok (.putfield 85, 3) := by decide +kernel
theorem dX5_passage_71 : decode cX5_passage 71 = .ok (.aload_n 0, 1) := by decide +kernel
theorem dX5_passage_72 : decode cX5_passage 72 = .ok (.getfield 19, 3) := by decide +kernel
theorem dX5_passage_75 : decode cX5_passage 75 = .ok (.getfield 88, 3) := by decide +kernel
theorem dX5_passage_78 : decode cX5_passage 78 = .ok (.ireturn, 1) := by decide +kernel
theorem dX5_place_0 : decode cX5_place 0 = .ok (.iload_n 1, 1) := by decide +kernel
theorem dX5_place_1 : decode cX5_place 1 = .ok (.ifCond .lt 14, 3) := by decide +kernel
theorem dX5_place_4 : decode cX5_place 4 = .ok (.iload_n 1, 1) := by decide +kernel
theorem dX5_place_5 : decode cX5_place 5 = .ok (.aload_n 0, 1) := by decide +kernel
theorem dX5_place_6 : decode cX5_place 6 = .ok (.getfield 19, 3) := by decide +kernel
theorem dX5_place_9 : decode cX5_place 9 = .ok (.getfield 88, 3) := by decide +kernel
theorem dX5_place_12 : decode cX5_place 12 = .ok (.if_icmp .lt 6, 3) := by decide +kernel
theorem dX5_place_15 : decode cX5_place 15 = .ok (.bipush (-101), 2) := by decide +kernel
theorem dX5_place_17 : decode cX5_place 17 = .ok (.ireturn, 1) := by decide +kernel
theorem dX5_place_18 : decode cX5_place 18 = .ok (.iload_n 2, 1) := by decide +kernel
theorem dX5_place_19 : decode cX5_place 19 = .ok (.ifCond .lt 8, 3) := by decide +kernel
theorem dX5_place_22 : decode cX5_place 22 = .ok (.iload_n 2, 1) := by decide +kernel
theorem dX5_place_23 : decode cX5_place 23 = .ok (.iconst 1, 1) := by decide +kernel
theorem dX5_place_24 : decode cX5_place 24 = .ok (.if_icmp .le 6, 3) := by decide +kernel
theorem dX5_place_27 : decode cX5_place 27 = .ok (.bipush (-102), 2) := by decide +kernel
theorem dX5_place_29 : decode cX5_place 29 = .ok (.ireturn, 1) := by decide +kernel
theorem dX5_place_30 : decode cX5_place 30 = .ok (.iload_n 2, 1) := by decide +kernel
theorem dX5_place_31 : decode cX5_place 31 = .ok (.ifCond .ne 14, 3) := by decide +kernel
theorem dX5_place_34 : decode cX5_place 34 = .ok (.aload_n 0, 1) := by decide +kernel
theorem dX5_place_35 : decode cX5_place 35 = .ok (.getfield 19, 3) := by decide +kernel
theorem dX5_place_38 : decode cX5_place 38 = .ok (.iload_n 1, 1) := by decide +kernel
theorem dX5_place_39 : decode cX5_place 39 = .ok (.invokevirtual 89, 3) := by decide +kernel
theorem dX5_place_42 : decode cX5_place 42 = .ok (.goto 11, 3) := by decide +kernel
theorem dX5_place_45 : decode cX5_place 45 = .ok (.aload_n 0, 1) := by decide +kernel
theorem dX5_place_46 : decode cX5_place 46 = .ok (.getfield 19, 3) := by decide +kernel
theorem dX5_place_49 : decode cX5_place 49 = .ok (.iload_n 1, 1) := by decide +kernel
theorem dX5_place_50 : decode cX5_place 50 = .ok (.invokevirtual 93, 3) := by decide +kernel
theorem dX5_place_53 : decode cX5_place 53 = .ok (.ireturn, 1) := by decide +kernel
theorem dX5_man_0 : decode cX5_man 0 = .ok (.iload_n 1, 1) := by decide +kernel
theorem dX5_man_1 : decode cX5_man 1 = .ok (.invokestatic 96, 3) := by decide +kernel
theorem dX5_man_4 : decode cX5_man 4 = .ok (.ifCond .eq 24, 3) := by decide +kernel
theorem dX5_man_7 : decode cX5_man 7 = .ok (.iload_n 2, 1) := by decide +kernel
theorem dX5_man_8 : decode cX5_man 8 = .ok (.iconst 1, 1) := by decide +kernel
theorem dX5_man_9 : decode cX5_man 9 = .ok (.if_icmp .lt 19, 3) := by decide +kernel
theorem dX5_man_12 : decode cX5_man 12 = .ok (.iload_n 2, 1) := by decide +kernel
theorem dX5_man_13 : decode cX5_man 13 = .ok (.bipush 9, 2) := by decide +kernel
theorem dX5_man_15 : decode cX5_man 15 = .ok (.if_icmp .gt 13, 3) := by decide +kernel
theorem dX5_man_18 : decode cX5_man 18 = .ok (.iload_n 3, 1) := by decide +kernel
theorem dX5_man_19 : decode cX5_man 19 = .ok (.ifCond .lt 9, 3) := by decide +kernel
theorem dX5_man_22 : decode cX5_man 22 = .ok (.iload_n 3, 1) := by decide +kernel
theorem dX5_man_23 : decode cX5_man 23 = .ok (.bipush 9, 2) := by decide +kernel
theorem dX5_man_25 : decode cX5_man 25 = .ok (.if_icmp .le 6, 3) := by decide +kernel
theorem dX5_man_28 : decode cX5_man 28 = .ok (.bipush (-102), 2) := by decide +kernel
theorem dX5_man_30 : decode cX5_man 30 = .ok (.ireturn, 1) := by decide +kernel
theorem dX5_man_31 : decode cX5_man 31 = .ok (.aload_n 0, 1) := by decide +kernel
theorem dX5_man_32 : decode cX5_man 32 = .ok (.invokevirtual 100, 3) := by decide +kernel
theorem dX5_man_35 : decode cX5_man 35 = .ok (.ifCond .eq 23, 3) := by decide +kernel
theorem dX5_man_38 : decode cX5_man 38 = .ok (.aload_n 0, 1) := by decide +kernel
theorem dX5_man_39 : decode cX5_man 39 = .ok (.getfield 33, 3) := by decide +kernel
theorem dX5_man_42 : decode cX5_man 42 = .ok (.getfield 103, 3) := by decide +kernel
theorem dX5_man_45 : decode cX5_man 45 = .ok (.ifCond .ne 13, 3) := by decide +kernel
theorem dX5_man_48 : decode cX5_man 48 = .ok (.aload_n 0, 1) := by decide +kernel
theorem dX5_man_49 : decode cX5_man 49 = .ok (.getfield 33, 3) := by decide +kernel
theorem dX5_man_52 : decode cX5_man 52 = .ok (.getfield 106, 3) := by decide +kernel
theorem dX5_man_55 : decode cX5_man 55 = .ok (.ifCond .eq 6, 3) := by decide +kernel
theorem dX5_man_58 : decode cX5_man 58 = .ok (.bipush (-103), 2) := by decide +kernel
theorem dX5_man_60 : decode cX5_man 60 = .ok (.ireturn, 1) := by decide +kernel
theorem dX5_man_61 : decode cX5_man 61 = .ok (.aload_n 0, 1) := by decide +kernel
theorem dX5_man_62 : decode cX5_man 62 = .ok (.getfield 26, 3) := by decide +kernel
theorem dX5_man_65 : decode cX5_man 65 = .ok (.getfield 76, 3) := by decide +kernel
theorem dX5_man_68 : decode cX5_man 68 = .ok (.iconst 5, 1) := by decide +kernel
theorem dX5_man_69 : decode cX5_man 69 = .ok (.if_icmp .lt 6, 3) := by decide +kernel
theorem dX5_man_72 : decode cX5_man 72 = .ok (.bipush (-104), 2) := by decide +kernel
theorem dX5_man_74 : decode cX5_man 74 = .ok (.ireturn, 1) := by decide +kernel
theorem dX5_man_75 : decode cX5_man 75 = .ok (.aload_n 0, 1) := by decide +kernel
theorem dX5_man_76 : decode cX5_man 76 = .ok (.getfield 26, 3) := by decide +kernel
theorem dX5_man_79 : decode cX5_man 79 = .ok (.getfield 76, 3) := by decide +kernel
theorem dX5_man_82 : decode cX5_man 82 = .ok (.istore 4, 2) := by decide +kernel
theorem dX5_man_84 : decode cX5_man 84 = .ok (.aload_n 0, 1) := by decide +kernel
theorem dX5_man_85 : decode cX5_man 85 = .ok (.getfield 26, 3) := by decide +kernel
theorem dX5_man_88 : decode cX5_man 88 = .ok (.iload_n 1, 1) := by decide +kernel
theorem dX5_man_89 : decode cX5_man 89 = .ok (.iload_n 2, 1) := by decide +kernel
theorem dX5_man_90 : decode cX5_man 90 = .ok (.iload_n 3, 1) := by decide +kernel
theorem dX5_man_91 : decode cX5_man 91 = .ok (.invokevirtual 109, 3) := by decide +kernel
theorem dX5_man_94 : decode cX5_man 94 = .ok (.aload_n 0, 1) := by decide +kernel
theorem dX5_man_95 : decode cX5_man 95 = .ok (.getfield 33, 3) := by decide +kernel
theorem dX5_man_98 : decode cX5_man 98 = .ok (.iload 4, 2) := by decide +kernel
theorem dX5_man_100 : decode cX5_man 100 = .ok (.invokevirtual 112, 3) := by decide +kernel
theorem dX5_man_103 : decode cX5_man 103 = .ok (.iload 4, 2) := by decide +kernel
theorem dX5_man_105 : decode cX5_man 105 = .ok (.ireturn, 1) := by decide +kernel
theorem dX5_about_0 : decode cX5_about 0 = .ok (.aload_n 0, 1) := by decide +kernel
theorem dX5_about_1 : decode cX5_about 1 = .ok (.iload_n 1, 1) := by decide +kernel
theorem dX5_about_2 : decode cX5_about 2 = .ok (.invokevirtual 115, 3) := by decide +kernel
theorem dX5_about_5 : decode cX5_about 5 = .ok (.ifCond .ne 6, 3) := by decide +kernel
theorem dX5_about_8 : decode cX5_about 8 = .ok (.bipush (-101), 2) := by decide +kernel
theorem dX5_about_10 : decode cX5_about 10 = .ok (.ireturn, 1) := by decide +kernel
theorem dX5_about_11 : decode cX5_about 11 = .ok (.iload_n 2, 1) := by decide +kernel
theorem dX5_about_12 : decode cX5_about 12 = .ok (.tableswitch 149 0 7 #[48, 57, 66, 75, 87, 96, 116, 136], 48) := by decide +kernel
theorem dX5_about_60 : decode cX5_about 60 = .ok (.aload_n 0, 1) := by decide +kernel
theorem dX5_about_61 : decode cX5_about 61 = .ok (.getfield 26, 3) := by decide +kernel
theorem dX5_about_64 : decode cX5_about 64 = .ok (.iload_n 1, 1) := by decide +kernel
theorem dX5_about_65 : decode cX5_about 65 = .ok (.invokevirtual 118, 3) := by decide +kernel
theorem dX5_about_68 : decode cX5_about 68 = .ok (.ireturn, 1) := by decide +kernel
theorem dX5_about_69 : decode cX5_about 69 = .ok (.aload_n 0, 1) := by decide +kernel
theorem dX5_about_70 : decode cX5_about 70 = .ok (.getfield 26, 3) := by decide +kernel
theorem dX5_about_73 : decode cX5_about 73 = .ok (.iload_n 1, 1) := by decide +kernel
theorem dX5_about_74 : decode cX5_about 74 = .ok (.invokevirtual 121, 3) := by decide +kernel
theorem dX5_about_77 : decode cX5_about 77 = .ok (.ireturn, 1) := by decide +kernel
theorem dX5_about_78 : decode cX5_about 78 = .ok (.aload_n 0, 1) := by decide +kernel
theorem dX5_about_79 : decode cX5_about 79 = .ok (.getfield 26, 3) := by decide +kernel
theorem dX5_about_82 : decode cX5_about 82 = .ok (.iload_n 1, 1) := by decide +kernel
theorem dX5_about_83 : decode cX5_about 83 = .ok (.invokevirtual 124, 3) := by decide +kernel
theorem dX5_about_86 : decode cX5_about 86 = .ok (.ireturn, 1) := by decide +kernel
theorem dX5_about_87 : decode cX5_about 87 = .ok (.aload_n 0, 1) := by decide +kernel
theorem dX5_about_88 : decode cX5_about 88 = .ok (.getfield 33, 3) := by decide +kernel
theorem dX5_about_91 : decode cX5_about 91 = .ok (.iload_n 1, 1) := by decide +kernel
theorem dX5_about_92 : decode cX5_about 92 = .ok (.invokevirtual 127, 3) := by decide +kernel
theorem dX5_about_95 : decode cX5_about 95 = .ok (.invokestatic 130, 3) := by decide +kernel
theorem dX5_about_98 : decode cX5_about 98 = .ok (.ireturn, 1) := by decide +kernel
theorem dX5_about_99 : decode cX5_about 99 = .ok (.aload_n 0, 1) := by decide +kernel
theorem dX5_about_100 : decode cX5_about 100 = .ok (.getfield 33, 3) := by decide +kernel
theorem dX5_about_103 : decode cX5_about 103 = .ok (.iload_n 1, 1) := by decide +kernel
theorem dX5_about_104 : decode cX5_about 104 = .ok (.invokevirtual 134, 3) := by decide +kernel
theorem dX5_about_107 : decode cX5_about 107 = .ok (.ireturn, 1) := by decide +kernel
theorem dX5_about_108 : decode cX5_about 108 = .ok (.aload_n 0, 1) := by decide +kernel
theorem dX5_about_109 : decode cX5_about 109 = .ok (.getfield 33, 3) := by decide +kernel
theorem dX5_about_112 : decode cX5_about 112 = .ok (.iload_n 1, 1) := by decide +kernel
theorem dX5_about_113 : decode cX5_about 113 = .ok (.invokevirtual 137, 3) := by decide +kernel
theorem dX5_about_116 : decode cX5_about 116 = .ok (.ifCond .ne 7, 3) := by decide +kernel
theorem dX5_about_119 : decode cX5_about 119 = .ok (.iconst 1, 1) := by decide +kernel
theorem dX5_about_120 : decode cX5_about 120 = .ok (.goto 4, 3) := by decide +kernel
theorem dX5_about_123 : decode cX5_about 123 = .ok (.iconst 0, 1) := by decide +kernel
theorem dX5_about_124 : decode cX5_about 124 = .ok (.invokestatic 130, 3) := by decide +kernel
theorem dX5_about_127 : decode cX5_about 127 = .ok (.ireturn, 1) := by decide +kernel
theorem dX5_about_128 : decode cX5_about 128 = .ok (.aload_n 0, 1) := by decide +kernel
theorem dX5_about_129 : decode cX5_about 129 = .ok (.getfield 33, 3) := by decide +kernel
theorem dX5_about_132 : decode cX5_about 132 = .ok (.iload_n 1, 1) := by decide +kernel
theorem dX5_about_133 : decode cX5_about 133 = .ok (.aload_n 0, 1) := by decide +kernel
theorem dX5_about_134 : decode cX5_about 134 = .ok (.getfield 19, 3) := by decide +kernel
theorem dX5_about_137 : decode cX5_about 137 = .ok (.aload_n 0, 1) := by decide +kernel
theorem dX5_about_138 : decode cX5_about 138 = .ok (.getfield 26, 3) := by decide +kernel
theorem dX5_about_141 : decode cX5_about 141 = .ok (.invokevirtual 140, 3) := by decide +kernel
theorem dX5_about_144 : decode cX5_about 144 = .ok (.invokestatic 130, 3) := by decide +kernel
theorem dX5_about_147 : decode cX5_about 147 = .ok (.ireturn, 1) := by decide +kernel
theorem dX5_about_148 : decode cX5_about 148 = .ok (.aload_n 0, 1) := by decide +kernel
theorem dX5_about_149 : decode cX5_about 149 = .ok (.getfield 33, 3) := by decide +kernel
theorem dX5_about_152 : decode cX5_about 152 = .ok (.iload_n 1, 1) := by decide +kernel
theorem dX5_about_153 : decode cX5_about 153 = .ok (.aload_n 0, 1) := by decide +kernel
theorem dX5_about_154 : decode cX5_about 154 = .ok (.getfield 26, 3) := by decide +kernel
theorem dX5_about_157 : decode cX5_about 157 = .ok (.invokevirtual 144, 3) := by decide +kernel
theorem dX5_about_160 : decode cX5_about 160 = .ok (.ireturn, 1) := by decide +kernel
theorem dX5_about_161 : decode cX5_about 161 = .ok (.bipush (-102), 2) := by decide +kernel
theorem dX5_about_163 : decode cX5_about 163 = .ok (.ireturn, 1) := by decide +kernel
theorem dX5_as_0 : decode cX5_as 0 = .ok (.aload_n 0, 1) := by decide +kernel
theorem dX5_as_1 : decode cX5_as 1 = .ok (.iload_n 1, 1) := by decide +kernel
theorem dX5_as_2 : decode cX5_as 2 = .ok (.invokevirtual 115, 3) := by decide +kernel
theorem dX5_as_5 : decode cX5_as 5 = .ok (.ifCond .ne 6, 3) := by decide +kernel
theorem dX5_as_8 : decode cX5_as 8 = .ok (.bipush (-101), 2) := by decide +kernel
theorem dX5_as_10 : decode cX5_as 10 = .ok (.ireturn, 1) := by decide +kernel
theorem dX5_as_11 : decode cX5_as 11 = .ok (.iload_n 2, 1) := by decide +kernel
theorem dX5_as_12 : decode cX5_as 12 = .ok (.invokestatic 96, 3) := by decide +kernel
theorem dX5_as_15 : decode cX5_as 15 = .ok (.ifCond .ne 6, 3) := by decide +kernel
theorem dX5_as_18 : decode cX5_as 18 = .ok (.bipush (-102), 2) := by decide +kernel
theorem dX5_as_20 : decode cX5_as 20 = .ok (.ireturn, 1) := by decide +kernel
theorem dX5_as_21 : decode cX5_as 21 = .ok (.aload_n 0, 1) := by decide +kernel
theorem dX5_as_22 : decode cX5_as 22 = .ok (.getfield 26, 3) := by decide +kernel
theorem dX5_as_25 : decode cX5_as 25 = .ok (.iload_n 1, 1) := by decide +kernel
theorem dX5_as_26 : decode cX5_as 26 = .ok (.iload_n 2, 1) := by decide +kernel
theorem dX5_as_27 : decode cX5_as 27 = .ok (.invokevirtual 148, 3) := by decide +kernel
theorem dX5_as_30 : decode cX5_as 30 = .ok (.ifCond .eq 7, 3) := by decide +kernel
theorem dX5_as_33 : decode cX5_as 33 = .ok (.iload_n 1, 1) := by decide +kernel
theorem dX5_as_34 : decode cX5_as 34 = .ok (.goto 4, 3) := by decide +kernel
theorem dX5_as_37 : decode cX5_as 37 = .ok (.iconst (-1), 1) := by decide +kernel
theorem dX5_as_38 : decode cX5_as 38 = .ok (.ireturn, 1) := by decide +kernel
theorem dX5_wax_0 : decode cX5_wax 0 = .ok (.aload_n 0, 1) := by decide +kernel
theorem dX5_wax_1 : decode cX5_wax 1 = .ok (.iload_n 1, 1) := by decide +kernel
theorem dX5_wax_2 : decode cX5_wax 2 = .ok (.invokevirtual 115, 3) := by decide +kernel
theorem dX5_wax_5 : decode cX5_wax 5 = .ok (.ifCond .ne 6, 3) := by decide +kernel
theorem dX5_wax_8 : decode cX5_wax 8 = .ok (.bipush (-101), 2) := by decide +kernel
theorem dX5_wax_10 : decode cX5_wax 10 = .ok (.ireturn, 1) := by decide +kernel
theorem dX5_wax_11 : decode cX5_wax 11 = .ok (.aload_n 0, 1) := by decide +kernel
theorem dX5_wax_12 : decode cX5_wax 12 = .ok (.getfield 33, 3) := by decide +kernel
theorem dX5_wax_15 : decode cX5_wax 15 = .ok (.iload_n 1, 1) := by decide +kernel
theorem dX5_wax_16 : decode cX5_wax 16 = .ok (.invokevirtual 137, 3) := by decide +kernel
theorem dX5_wax_19 : decode cX5_wax 19 = .ok (.ifCond .eq 13, 3) := by decide +kernel
theorem dX5_wax_22 : decode cX5_wax 22 = .ok (.aload_n 0, 1) := by decide +kernel
theorem dX5_wax_23 : decode cX5_wax 23 = .ok (.getfield 33, 3) := by decide +kernel
theorem dX5_wax_26 : decode cX5_wax 26 = .ok (.getfield 152, 3) := by decide +kernel
theorem dX5_wax_29 : decode cX5_wax 29 = .ok (.ifCond .eq 6, 3) := by decide +kernel
theorem dX5_wax_32 : decode cX5_wax 32 = .ok (.bipush (-103), 2) := by decide +kernel
theorem dX5_wax_34 : decode cX5_wax 34 = .ok (.ireturn, 1) := by decide +kernel
theorem dX5_wax_35 : decode cX5_wax 35 = .ok (.aload_n 0, 1) := by decide +kernel
theorem dX5_wax_36 : decode cX5_wax 36 = .ok (.getfield 33, 3) := by decide +kernel
theorem dX5_wax_39 : decode cX5_wax 39 = .ok (.iload_n 1, 1) := by decide +kernel
theorem dX5_wax_40 : decode cX5_wax 40 = .ok (.invokevirtual 127, 3) := by decide +kernel
theorem dX5_wax_43 : decode cX5_wax 43 = .ok (.invokestatic 130, 3) := by decide +kernel
theorem dX5_wax_46 : decode cX5_wax 46 = .ok (.istore_n 3, 1) := by decide +kernel
theorem dX5_wax_47 : decode cX5_wax 47 = .ok (.aload_n 0, 1) := by decide +kernel
theorem dX5_wax_48 : decode cX5_wax 48 = .ok (.getfield 33, 3) := by decide +kernel
theorem dX5_wax_51 : decode cX5_wax 51 = .ok (.iload_n 1, 1) := by decide +kernel
theorem dX5_wax_52 : decode cX5_wax 52 = .ok (.iload_n 2, 1) := by decide +kernel
theorem dX5_wax_53 : decode cX5_wax 53 = .ok (.invokevirtual 155, 3) := by decide +kernel
theorem dX5_wax_56 : decode cX5_wax 56 = .ok (.iload_n 3, 1) := by decide +kernel
theorem dX5_wax_57 : decode cX5_wax 57 = .ok (.ireturn, 1) := by decide +kernel
theorem dX5_bind_0 : decode cX5_bind 0 = .ok (.aload_n 0, 1) := by decide +kernel
theorem dX5_bind_1 : decode cX5_bind 1 = .ok (.iload_n 1, 1) := by decide +kernel
theorem dX5_bind_2 : decode cX5_bind 2 = .ok (.invokevirtual 115, 3) := by decide +kernel
theorem dX5_bind_5 : decode cX5_bind 5 = .ok (.ifCond .ne 6, 3) := by decide +kernel
theorem dX5_bind_8 : decode cX5_bind 8 = .ok (.bipush (-101), 2) := by decide +kernel
theorem dX5_bind_10 : decode cX5_bind 10 = .ok (.ireturn, 1) := by decide +kernel
theorem dX5_bind_11 : decode cX5_bind 11 = .ok (.iload_n 2, 1) := by decide +kernel
theorem dX5_bind_12 : decode cX5_bind 12 = .ok (.ifCond .lt 9, 3) := by decide +kernel
theorem dX5_bind_15 : decode cX5_bind 15 = .ok (.iload_n 2, 1) := by decide +kernel
theorem dX5_bind_16 : decode cX5_bind 16 = .ok (.bipush 9, 2) := by decide +kernel
theorem dX5_bind_18 : decode cX5_bind 18 = .ok (.if_icmp .le 6, 3) := by decide +kernel
theorem dX5_bind_21 : decode cX5_bind 21 = .ok (.bipush (-102), 2) := by decide +kernel
theorem dX5_bind_23 : decode cX5_bind 23 = .ok (.ireturn, 1) := by decide +kernel
theorem dX5_bind_24 : decode cX5_bind 24 = .ok (.aload_n 0, 1) := by decide +kernel
theorem dX5_bind_25 : decode cX5_bind 25 = .ok (.getfield 33, 3) := by decide +kernel
theorem dX5_bind_28 : decode cX5_bind 28 = .ok (.iload_n 1, 1) := by decide +kernel
theorem dX5_bind_29 : decode cX5_bind 29 = .ok (.invokevirtual 137, 3) := by decide +kernel
theorem dX5_bind_32 : decode cX5_bind 32 = .ok (.ifCond .eq 13, 3) := by decide +kernel
theorem dX5_bind_35 : decode cX5_bind 35 = .ok (.aload_n 0, 1) := by decide +kernel
theorem dX5_bind_36 : decode cX5_bind 36 = .ok (.getfield 33, 3) := by decide +kernel
theorem dX5_bind_39 : decode cX5_bind 39 = .ok (.getfield 152, 3) := by decide +kernel
theorem dX5_bind_42 : decode cX5_bind 42 = .ok (.ifCond .eq 6, 3) := by decide +kernel
theorem dX5_bind_45 : decode cX5_bind 45 = .ok (.bipush (-103), 2) := by decide +kernel
theorem dX5_bind_47 : decode cX5_bind 47 = .ok (.ireturn, 1) := by decide +kernel
theorem dX5_bind_48 : decode cX5_bind 48 = .ok (.aload_n 0, 1) := by decide +kernel
theorem dX5_bind_49 : decode cX5_bind 49 = .ok (.getfield 33, 3) := by decide +kernel
theorem dX5_bind_52 : decode cX5_bind 52 = .ok (.iload_n 1, 1) := by decide +kernel
theorem dX5_bind_53 : decode cX5_bind 53 = .ok (.invokevirtual 134, 3) := by decide +kernel
theorem dX5_bind_56 : decode cX5_bind 56 = .ok (.istore_n 3, 1) := by decide +kernel
theorem dX5_bind_57 : decode cX5_bind 57 = .ok (.aload_n 0, 1) := by decide +kernel
theorem dX5_bind_58 : decode cX5_bind 58 = .ok (.getfield 33, 3) := by decide +kernel
theorem dX5_bind_61 : decode cX5_bind 61 = .ok (.iload_n 1, 1) := by decide +kernel
theorem dX5_bind_62 : decode cX5_bind 62 = .ok (.iload_n 2, 1) := by decide +kernel
theorem dX5_bind_63 : decode cX5_bind 63 = .ok (.invokevirtual 159, 3) := by decide +kernel
theorem dX5_bind_66 : decode cX5_bind 66 = .ok (.iload_n 3, 1) := by decide +kernel
theorem dX5_bind_67 : decode cX5_bind 67 = .ok (.ireturn, 1) := by decide +kernel
theorem dX5_stroke_0 : decode cX5_stroke 0 = .ok (.aload_n 0, 1) := by decide +kernel
theorem dX5_stroke_1 : decode cX5_stroke 1 = .ok (.invokevirtual 163, 3) := by decide +kernel
theorem dX5_stroke_4 : decode cX5_stroke 4 = .ok (.ifCond .ne 6, 3) := by decide +kernel
theorem dX5_stroke_7 : decode cX5_stroke 7 = .ok (.bipush (-103), 2) := by decide +kernel
theorem dX5_stroke_9 : decode cX5_stroke 9 = .ok (.ireturn, 1) := by decide +kernel
theorem dX5_stroke_10 : decode cX5_stroke 10 = .ok (.aload_n 0, 1) := by decide +kernel
theorem dX5_stroke_11 : decode cX5_stroke 11 = .ok (.getfield 33, 3) := by decide +kernel
theorem dX5_stroke_14 : decode cX5_stroke 14 = .ok (.aload_n 0, 1) := by decide +kernel
theorem dX5_stroke_15 : decode cX5_stroke 15 = .ok (.getfield 19, 3) := by decide +kernel
theorem dX5_stroke_18 : decode cX5_stroke 18 = .ok (.aload_n 0, 1) := by decide +kernel
theorem dX5_stroke_19 : decode cX5_stroke 19 = .ok (.getfield 26, 3) := by decide +kernel
theorem dX5_stroke_22 : decode cX5_stroke 22 = .ok (.invokevirtual 166, 3) := by decide +kernel
theorem dX5_stroke_25 : decode cX5_stroke 25 = .ok (.pop, 1) := by decide +kernel
theorem dX5_stroke_26 : decode cX5_stroke 26 = .ok (.aload_n 0, 1) := by decide +kernel
theorem dX5_stroke_27 : decode cX5_stroke 27 = .ok (.getfield 33, 3) := by decide +kernel
theorem dX5_stroke_30 : decode cX5_stroke 30 = .ok (.getfield 152, 3) := by decide +kernel
theorem dX5_stroke_33 : decode cX5_stroke 33 = .ok (.ifCond .ne 13, 3) := by decide +kernel
theorem dX5_stroke_36 : decode cX5_stroke 36 = .ok (.aload_n 0, 1) := by decide +kernel
theorem dX5_stroke_37 : decode cX5_stroke 37 = .ok (.getfield 33, 3) := by decide +kernel
theorem dX5_stroke_40 : decode cX5_stroke 40 = .ok (.getfield 103, 3) := by decide +kernel
theorem dX5_stroke_43 : decode cX5_stroke 43 = .ok (.goto 4, 3) := by decide +kernel
theorem dX5_stroke_46 : decode cX5_stroke 46 = .ok (.iconst (-1), 1) := by decide +kernel
theorem dX5_stroke_47 : decode cX5_stroke 47 = .ok (.ireturn, 1) := by decide +kernel
theorem dX5_outcome_0 : decode cX5_outcome 0 = .ok (.iload_n 1, 1) := by decide +kernel
theorem dX5_outcome_1 : decode cX5_outcome 1 = .ok (.ifCond .lt 8, 3) := by decide +kernel
theorem dX5_outcome_4 : decode cX5_outcome 4 = .ok (.iload_n 1, 1) := by decide +kernel
theorem dX5_outcome_5 : decode cX5_outcome 5 = .ok (.iconst 3, 1) := by decide +kernel
theorem dX5_outcome_6 : decode cX5_outcome 6 = .ok (.if_icmp .lt 6, 3) := by decide +kernel
theorem dX5_outcome_9 : decode cX5_outcome 9 = .ok (.bipush (-102), 2) := by decide +kernel
theorem dX5_outcome_11 : decode cX5_outcome 11 = .ok (.ireturn, 1) := by decide +kernel
theorem dX5_outcome_12 : decode cX5_outcome 12 = .ok (.aload_n 0, 1) := by decide +kernel
theorem dX5_outcome_13 : decode cX5_outcome 13 = .ok (.invokevirtual 163, 3) := by decide +kernel
theorem dX5_outcome_16 : decode cX5_outcome 16 = .ok (.ifCond .ne 6, 3) := by decide +kernel
theorem dX5_outcome_19 : decode cX5_outcome 19 = .ok (.bipush (-103), 2) := by decide +kernel
theorem dX5_outcome_21 : decode cX5_outcome 21 = .ok (.ireturn, 1) := by decide +kernel
theorem dX5_outcome_22 : decode cX5_outcome 22 = .ok (.aload_n 0, 1) := by decide +kernel
theorem dX5_outcome_23 : decode cX5_outcome 23 = .ok (.getfield 50, 3) := by decide +kernel
theorem dX5_outcome_26 : decode cX5_outcome 26 = .ok (.aload_n 0, 1) := by decide +kernel
theorem dX5_outcome_27 : decode cX5_outcome 27 = .ok (.getfield 33, 3) := by decide +kernel
theorem dX5_outcome_30 : decode cX5_outcome 30 = .ok (.invokevirtual 170, 3) := by decide +kernel
theorem dX5_outcome_33 : decode cX5_outcome 33 = .ok (.aload_n 0, 1) := by decide +kernel
theorem dX5_outcome_34 : decode cX5_outcome 34 = .ok (.getfield 50, 3) := by decide +kernel
theorem dX5_outcome_37 : decode cX5_outcome 37 = .ok (.aload_n 0, 1) := by decide +kernel
theorem dX5_outcome_38 : decode cX5_outcome 38 = .ok (.getfield 19, 3) := by decide +kernel
theorem dX5_outcome_41 : decode cX5_outcome 41 = .ok (.aload_n 0, 1) := by decide +kernel
theorem dX5_outcome_42 : decode cX5_outcome 42 = .ok (.getfield 26, 3) := by decide +kernel
theorem dX5_outcome_45 : decode cX5_outcome 45 = .ok (.invokevirtual 174, 3) := by decide +kernel
theorem dX5_outcome_48 : decode cX5_outcome 48 = .ok (.istore_n 2, 1) := by decide +kernel
theorem dX5_outcome_49 : decode cX5_outcome 49 = .ok (.iload_n 1, 1) := by decide +kernel
theorem dX5_outcome_50 : decode cX5_outcome 50 = .ok (.ifCond .ne 15, 3) := by decide +kernel
theorem dX5_outcome_53 : decode cX5_outcome 53 = .ok (.aload_n 0, 1) := by decide +kernel
theorem dX5_outcome_54 : decode cX5_outcome 54 = .ok (.getfield 50, 3) := by decide +kernel
theorem dX5_outcome_57 : decode cX5_outcome 57 = .ok (.aload_n 0, 1) := by decide +kernel
theorem dX5_outcome_58 : decode cX5_outcome 58 = .ok (.getfield 26, 3) := by decide +kernel
theorem dX5_outcome_61 : decode cX5_outcome 61 = .ok (.invokevirtual 177, 3) := by decide +kernel
theorem dX5_outcome_64 : decode cX5_outcome 64 = .ok (.ireturn, 1) := by decide +kernel
theorem dX5_outcome_65 : decode cX5_outcome 65 = .ok (.iload_n 1, 1) := by decide +kernel
theorem dX5_outcome_66 : decode cX5_outcome 66 = .ok (.iconst 1, 1) := by decide +kernel
theorem dX5_outcome_67 : decode cX5_outcome 67 = .ok (.if_icmp .ne 7, 3) := by decide +kernel
theorem dX5_outcome_70 : decode cX5_outcome 70 = .ok (.iload_n 2, 1) := by decide +kernel
theorem dX5_outcome_71 : decode cX5_outcome 71 = .ok (.goto 10, 3) := by decide +kernel
theorem dX5_outcome_74 : decode cX5_outcome 74 = .ok (.aload_n 0, 1) := by decide +kernel
theorem dX5_outcome_75 : decode cX5_outcome 75 = .ok (.getfield 50, 3) := by decide +kernel
theorem dX5_outcome_78 : decode cX5_outcome 78 = .ok (.getfield 152, 3) := by decide +kernel
theorem dX5_outcome_81 : decode cX5_outcome 81 = .ok (.ireturn, 1) := by decide +kernel
theorem dX5_waxing_0 : decode cX5_waxing 0 = .ok (.iload_n 1, 1) := by decide +kernel
theorem dX5_waxing_1 : decode cX5_waxing 1 = .ok (.ifCond .lt 17, 3) := by decide +kernel
theorem dX5_waxing_4 : decode cX5_waxing 4 = .ok (.iload_n 1, 1) := by decide +kernel
theorem dX5_waxing_5 : decode cX5_waxing 5 = .ok (.iconst 5, 1) := by decide +kernel
theorem dX5_waxing_6 : decode cX5_waxing 6 = .ok (.if_icmp .gt 12, 3) := by decide +kernel
theorem dX5_waxing_9 : decode cX5_waxing 9 = .ok (.iload_n 2, 1) := by decide +kernel
theorem dX5_waxing_10 : decode cX5_waxing 10 = .ok (.ifCond .lt 8, 3) := by decide +kernel
theorem dX5_waxing_13 : decode cX5_waxing 13 = .ok (.iload_n 2, 1) := by decide +kernel
theorem dX5_waxing_14 : decode cX5_waxing 14 = .ok (.iconst 1, 1) := by decide +kernel
theorem dX5_waxing_15 : decode cX5_waxing 15 = .ok (.if_icmp .le 6, 3) := by decide +kernel
theorem dX5_waxing_18 : decode cX5_waxing 18 = .ok (.bipush (-102), 2) := by decide +kernel
theorem dX5_waxing_20 : decode cX5_waxing 20 = .ok (.ireturn, 1) := by decide +kernel
theorem dX5_waxing_21 : decode cX5_waxing 21 = .ok (.aload_n 0, 1) := by decide +kernel
theorem dX5_waxing_22 : decode cX5_waxing 22 = .ok (.invokevirtual 163, 3) := by decide +kernel
theorem dX5_waxing_25 : decode cX5_waxing 25 = .ok (.ifCond .ne 6, 3) := by decide +kernel
theorem dX5_waxing_28 : decode cX5_waxing 28 = .ok (.bipush (-103), 2) := by decide +kernel
theorem dX5_waxing_30 : decode cX5_waxing 30 = .ok (.ireturn, 1) := by decide +kernel
theorem dX5_waxing_31 : decode cX5_waxing 31 = .ok (.iconst 0, 1) := by decide +kernel
theorem dX5_waxing_32 : decode cX5_waxing 32 = .ok (.istore_n 3, 1) := by decide +kernel
theorem dX5_waxing_33 : decode cX5_waxing 33 = .ok (.aload_n 0, 1) := by decide +kernel
theorem dX5_waxing_34 : decode cX5_waxing 34 = .ok (.iconst 0, 1) := by decide +kernel
theorem dX5_waxing_35 : decode cX5_waxing 35 = .ok (.invokevirtual 181, 3) := by decide +kernel
theorem dX5_waxing_38 : decode cX5_waxing 38 = .ok (.istore 4, 2) := by decide +kernel
theorem dX5_waxing_40 : decode cX5_waxing 40 = .ok (.iconst 1, 1) := by decide +kernel
theorem dX5_waxing_41 : decode cX5_waxing 41 = .ok (.istore 5, 2) := by decide +kernel
theorem dX5_waxing_43 : decode cX5_waxing 43 = .ok (.iload 5, 2) := by decide +kernel
theorem dX5_waxing_45 : decode cX5_waxing 45 = .ok (.aload_n 0, 1) := by decide +kernel
theorem dX5_waxing_46 : decode cX5_waxing 46 = .ok (.getfield 26, 3) := by decide +kernel
theorem dX5_waxing_49 : decode cX5_waxing 49 = .ok (.invokevirtual 184, 3) := by decide +kernel
theorem dX5_waxing_52 : decode cX5_waxing 52 = .ok (.if_icmp .gt 74, 3) := by decide +kernel
theorem dX5_waxing_55 : decode cX5_waxing 55 = .ok (.iload 5, 2) := by decide +kernel
theorem dX5_waxing_57 : decode cX5_waxing 57 = .ok (.aload_n 0, 1) := by decide +kernel
theorem dX5_waxing_58 : decode cX5_waxing 58 = .ok (.getfield 33, 3) := by decide +kernel
theorem dX5_waxing_61 : decode cX5_waxing 61 = .ok (.getfield 187, 3) := by decide +kernel
theorem dX5_waxing_64 : decode cX5_waxing 64 = .ok (.iconst (-1), 1) := by decide +kernel
theorem dX5_waxing_65 : decode cX5_waxing 65 = .ok (.ixor, 1) := by decide +kernel
theorem dX5_waxing_66 : decode cX5_waxing 66 = .ok (.iand, 1) := by decide +kernel
theorem dX5_waxing_67 : decode cX5_waxing 67 = .ok (.ifCond .ne 53, 3) := by decide +kernel
theorem dX5_waxing_70 : decode cX5_waxing 70 = .ok (.iload 5, 2) := by decide +kernel
theorem dX5_waxing_72 : decode cX5_waxing 72 = .ok (.invokestatic 190, 3) := by decide +kernel
theorem dX5_waxing_75 : decode cX5_waxing 75 = .ok (.iload_n 1, 1) := by decide +kernel
theorem dX5_waxing_76 : decode cX5_waxing 76 = .ok (.if_icmp .gt 44, 3) := by decide +kernel
theorem dX5_waxing_79 : decode cX5_waxing 79 = .ok (.aload_n 0, 1) := by decide +kernel
theorem dX5_waxing_80 : decode cX5_waxing 80 = .ok (.iload 5, 2) := by decide +kernel
theorem dX5_waxing_82 : decode cX5_waxing 82 = .ok (.invokevirtual 181, 3) := by decide +kernel
theorem dX5_waxing_85 : decode cX5_waxing 85 = .ok (.istore 6, 2) := by decide +kernel
theorem dX5_waxing_87 : decode cX5_waxing 87 = .ok (.iload 6, 2) := by decide +kernel
theorem dX5_waxing_89 : decode cX5_waxing 89 = .ok (.iload 4, 2) := by decide +kernel
theorem dX5_waxing_91 : decode cX5_waxing 91 = .ok (.if_icmp .lt 22, 3) := by decide +kernel
theorem dX5_waxing_94 : decode cX5_waxing 94 = .ok (.iload 6, 2) := by decide +kernel
theorem dX5_waxing_96 : decode cX5_waxing 96 = .ok (.iload 4, 2) := by decide +kernel
theorem dX5_waxing_98 : decode cX5_waxing 98 = .ok (.if_icmp .ne 22, 3) := by decide +kernel
theorem dX5_waxing_101 : decode cX5_waxing 101 = .ok (.iload 5, 2) := by decide +kernel
theorem dX5_waxing_103 : decode cX5_waxing 103 = .ok (.invokestatic 190, 3) := by decide +kernel
theorem dX5_waxing_106 : decode cX5_waxing 106 = .ok (.iload_n 3, 1) := by decide +kernel
theorem dX5_waxing_107 : decode cX5_waxing 107 = .ok (.invokestatic 190, 3) := by decide +kernel
theorem dX5_waxing_110 : decode cX5_waxing 110 = .ok (.if_icmp .ge 10, 3) := by decide +kernel
theorem dX5_waxing_113 : decode cX5_waxing 113 = .ok (.iload 5, 2) := by decide +kernel
theorem dX5_waxing_115 : decode cX5_waxing 115 = .ok (.istore_n 3, 1) := by decide +kernel
theorem dX5_waxing_116 : decode cX5_waxing 116 = .ok (.iload 6, 2) := by decide +kernel
theorem dX5_waxing_118 : decode cX5_waxing 118 = .ok (.istore 4, 2) := by decide +kernel
theorem dX5_waxing_120 : decode cX5_waxing 120 = .ok (.iinc 5 1, 3) := by decide +kernel
theorem dX5_waxing_123 : decode cX5_waxing 123 = .ok (.goto (-80), 3) := by decide +kernel
theorem dX5_waxing_126 : decode cX5_waxing 126 = .ok (.iload_n 2, 1) := by decide +kernel
theorem dX5_waxing_127 : decode cX5_waxing 127 = .ok (.iconst 1, 1) := by decide +kernel
theorem dX5_waxing_128 : decode cX5_waxing 128 = .ok (.if_icmp .ne 7, 3) := by decide +kernel
theorem dX5_waxing_131 : decode cX5_waxing 131 = .ok (.iload_n 3, 1) := by decide +kernel
theorem dX5_waxing_132 : decode cX5_waxing 132 = .ok (.goto 8, 3) := by decide +kernel
theorem dX5_waxing_135 : decode cX5_waxing 135 = .ok (.iload 4, 2) := by decide +kernel
theorem dX5_waxing_137 : decode cX5_waxing 137 = .ok (.bipush 6, 2) := by decide +kernel
theorem dX5_waxing_139 : decode cX5_waxing 139 = .ok (.irem, 1) := by decide +kernel
theorem dX5_waxing_140 : decode cX5_waxing 140 = .ok (.ireturn, 1) := by decide +kernel
theorem dX5_hold_0 : decode cX5_hold 0 = .ok (.aload_n 0, 1) := by decide +kernel
theorem dX5_hold_1 : decode cX5_hold 1 = .ok (.iload_n 1, 1) := by decide +kernel
theorem dX5_hold_2 : decode cX5_hold 2 = .ok (.invokevirtual 115, 3) := by decide +kernel
theorem dX5_hold_5 : decode cX5_hold 5 = .ok (.ifCond .ne 6, 3) := by decide +kernel
theorem dX5_hold_8 : decode cX5_hold 8 = .ok (.bipush (-101), 2) := by decide +kernel
theorem dX5_hold_10 : decode cX5_hold 10 = .ok (.ireturn, 1) := by decide +kernel
theorem dX5_hold_11 : decode cX5_hold 11 = .ok (.aload_n 0, 1) := by decide +kernel
theorem dX5_hold_12 : decode cX5_hold 12 = .ok (.invokevirtual 163, 3) := by decide +kernel
theorem dX5_hold_15 : decode cX5_hold 15 = .ok (.ifCond .eq 14, 3) := by decide +kernel
theorem dX5_hold_18 : decode cX5_hold 18 = .ok (.aload_n 0, 1) := by decide +kernel
theorem dX5_hold_19 : decode cX5_hold 19 = .ok (.getfield 33, 3) := by decide +kernel
theorem dX5_hold_22 : decode cX5_hold 22 = .ok (.iload_n 1, 1) := by decide +kernel
theorem dX5_hold_23 : decode cX5_hold 23 = .ok (.invokevirtual 137, 3) := by decide +kernel
theorem dX5_hold_26 : decode cX5_hold 26 = .ok (.ifCond .ne 6, 3) := by decide +kernel
theorem dX5_hold_29 : decode cX5_hold 29 = .ok (.bipush (-103), 2) := by decide +kernel
theorem dX5_hold_31 : decode cX5_hold 31 = .ok (.ireturn, 1) := by decide +kernel
theorem dX5_hold_32 : decode cX5_hold 32 = .ok (.iconst 0, 1) := by decide +kernel
theorem dX5_hold_33 : decode cX5_hold 33 = .ok (.istore_n 2, 1) := by decide +kernel
theorem dX5_hold_34 : decode cX5_hold 34 = .ok (.iload_n 2, 1) := by decide +kernel
theorem dX5_hold_35 : decode cX5_hold 35 = .ok (.bipush 9, 2) := by decide +kernel
theorem dX5_hold_37 : decode cX5_hold 37 = .ok (.if_icmp .gt 58, 3) := by decide +kernel
theorem dX5_hold_40 : decode cX5_hold 40 = .ok (.aload_n 0, 1) := by decide +kernel
theorem dX5_hold_41 : decode cX5_hold 41 = .ok (.getfield 50, 3) := by decide +kernel
theorem dX5_hold_44 : decode cX5_hold 44 = .ok (.aload_n 0, 1) := by decide +kernel
theorem dX5_hold_45 : decode cX5_hold 45 = .ok (.getfield 33, 3) := by decide +kernel
theorem dX5_hold_48 : decode cX5_hold 48 = .ok (.invokevirtual 170, 3) := by decide +kernel
theorem dX5_hold_51 : decode cX5_hold 51 = .ok (.aload_n 0, 1) := by decide +kernel
theorem dX5_hold_52 : decode cX5_hold 52 = .ok (.getfield 50, 3) := by decide +kernel
theorem dX5_hold_55 : decode cX5_hold 55 = .ok (.iload_n 1, 1) := by decide +kernel
theorem dX5_hold_56 : decode cX5_hold 56 = .ok (.iload_n 2, 1) := by decide +kernel
theorem dX5_hold_57 : decode cX5_hold 57 = .ok (.invokevirtual 159, 3) := by decide +kernel
theorem dX5_hold_60 : decode cX5_hold 60 = .ok (.aload_n 0, 1) := by decide +kernel
theorem dX5_hold_61 : decode cX5_hold 61 = .ok (.getfield 50, 3) := by decide +kernel
theorem dX5_hold_64 : decode cX5_hold 64 = .ok (.aload_n 0, 1) := by decide +kernel
theorem dX5_hold_65 : decode cX5_hold 65 = .ok (.getfield 19, 3) := by decide +kernel
theorem dX5_hold_68 : decode cX5_hold 68 = .ok (.aload_n 0, 1) := by decide +kernel
theorem dX5_hold_69 : decode cX5_hold 69 = .ok (.getfield 26, 3) := by decide +kernel
theorem dX5_hold_72 : decode cX5_hold 72 = .ok (.invokevirtual 174, 3) := by decide +kernel
theorem dX5_hold_75 : decode cX5_hold 75 = .ok (.pop, 1) := by decide +kernel
theorem dX5_hold_76 : decode cX5_hold 76 = .ok (.aload_n 0, 1) := by decide +kernel
theorem dX5_hold_77 : decode cX5_hold 77 = .ok (.getfield 50, 3) := by decide +kernel
theorem dX5_hold_80 : decode cX5_hold 80 = .ok (.iload_n 1, 1) := by decide +kernel
theorem dX5_hold_81 : decode cX5_hold 81 = .ok (.invokevirtual 137, 3) := by decide +kernel
theorem dX5_hold_84 : decode cX5_hold 84 = .ok (.ifCond .eq 5, 3) := by decide +kernel
theorem dX5_hold_87 : decode cX5_hold 87 = .ok (.iload_n 2, 1) := by decide +kernel
theorem dX5_hold_88 : decode cX5_hold 88 = .ok (.ireturn, 1) := by decide +kernel
theorem dX5_hold_89 : decode cX5_hold 89 = .ok (.iinc 2 1, 3) := by decide +kernel
theorem dX5_hold_92 : decode cX5_hold 92 = .ok (.goto (-58), 3) := by decide +kernel
theorem dX5_hold_95 : decode cX5_hold 95 = .ok (.iconst (-1), 1) := by decide +kernel
theorem dX5_hold_96 : decode cX5_hold 96 = .ok (.ireturn, 1) := by decide +kernel
theorem dX5_listener_0 : decode cX5_listener 0 = .ok (.aload_n 0, 1) := by decide +kernel
theorem dX5_listener_1 : decode cX5_listener 1 = .ok (.invokevirtual 163, 3) := by decide +kernel
theorem dX5_listener_4 : decode cX5_listener 4 = .ok (.ifCond .ne 6, 3) := by decide +kernel
theorem dX5_listener_7 : decode cX5_listener 7 = .ok (.bipush (-103), 2) := by decide +kernel
theorem dX5_listener_9 : decode cX5_listener 9 = .ok (.ireturn, 1) := by decide +kernel
theorem dX5_listener_10 : decode cX5_listener 10 = .ok (.iconst (-1), 1) := by decide +kernel
theorem dX5_listener_11 : decode cX5_listener 11 = .ok (.istore_n 1, 1) := by decide +kernel
theorem dX5_listener_12 : decode cX5_listener 12 = .ok (.iconst 0, 1) := by decide +kernel
theorem dX5_listener_13 : decode cX5_listener 13 = .ok (.istore_n 2, 1) := by decide +kernel
theorem dX5_listener_14 : decode cX5_listener 14 = .ok (.iconst 0, 1) := by decide +kernel
theorem dX5_listener_15 : decode cX5_listener 15 = .ok (.istore_n 3, 1) := by decide +kernel
theorem dX5_listener_16 : decode cX5_listener 16 = .ok (.iload_n 3, 1) := by decide +kernel
theorem dX5_listener_17 : decode cX5_listener 17 = .ok (.aload_n 0, 1) := by decide +kernel
theorem dX5_listener_18 : decode cX5_listener 18 = .ok (.getfield 26, 3) := by decide +kernel
theorem dX5_listener_21 : decode cX5_listener 21 = .ok (.getfield 76, 3) := by decide +kernel
theorem dX5_listener_24 : decode cX5_listener 24 = .ok (.if_icmp .ge 43, 3) := by decide +kernel
theorem dX5_listener_27 : decode cX5_listener 27 = .ok (.aload_n 0, 1) := by decide +kernel
theorem dX5_listener_28 : decode cX5_listener 28 = .ok (.getfield 33, 3) := by decide +kernel
theorem dX5_listener_31 : decode cX5_listener 31 = .ok (.iload_n 3, 1) := by decide +kernel
theorem dX5_listener_32 : decode cX5_listener 32 = .ok (.invokevirtual 137, 3) := by decide +kernel
theorem dX5_listener_35 : decode cX5_listener 35 = .ok (.ifCond .eq 26, 3) := by decide +kernel
theorem dX5_listener_38 : decode cX5_listener 38 = .ok (.aload_n 0, 1) := by decide +kernel
theorem dX5_listener_39 : decode cX5_listener 39 = .ok (.iload_n 3, 1) := by decide +kernel
theorem dX5_listener_40 : decode cX5_listener 40 = .ok (.invokevirtual 195, 3) := by decide +kernel
theorem dX5_listener_43 : decode cX5_listener 43 = .ok (.istore 4, 2) := by decide +kernel
theorem dX5_listener_45 : decode cX5_listener 45 = .ok (.iload_n 1, 1) := by decide +kernel
theorem dX5_listener_46 : decode cX5_listener 46 = .ok (.iconst (-1), 1) := by decide +kernel
theorem dX5_listener_47 : decode cX5_listener 47 = .ok (.if_icmp .eq 9, 3) := by decide +kernel
theorem dX5_listener_50 : decode cX5_listener 50 = .ok (.iload 4, 2) := by decide +kernel
theorem dX5_listener_52 : decode cX5_listener 52 = .ok (.iload_n 2, 1) := by decide +kernel
theorem dX5_listener_53 : decode cX5_listener 53 = .ok (.if_icmp .ge 8, 3) := by decide +kernel
theorem dX5_listener_56 : decode cX5_listener 56 = .ok (.iload_n 3, 1) := by decide +kernel
theorem dX5_listener_57 : decode cX5_listener 57 = .ok (.istore_n 1, 1) := by decide +kernel
theorem dX5_listener_58 : decode cX5_listener 58 = .ok (.iload 4, 2) := by decide +kernel
theorem dX5_listener_60 : decode cX5_listener 60 = .ok (.istore_n 2, 1) := by decide +kernel
theorem dX5_listener_61 : decode cX5_listener 61 = .ok (.iinc 3 1, 3) := by decide +kernel
theorem dX5_listener_64 : decode cX5_listener 64 = .ok (.goto (-48), 3) := by decide +kernel
theorem dX5_listener_67 : decode cX5_listener 67 = .ok (.iload_n 1, 1) := by decide +kernel
theorem dX5_listener_68 : decode cX5_listener 68 = .ok (.ireturn, 1) := by decide +kernel
theorem dX5_sold_0 : decode cX5_sold 0 = .ok (.aload_n 0, 1) := by decide +kernel
theorem dX5_sold_1 : decode cX5_sold 1 = .ok (.invokevirtual 163, 3) := by decide +kernel
theorem dX5_sold_4 : decode cX5_sold 4 = .ok (.ifCond .ne 6, 3) := by decide +kernel
theorem dX5_sold_7 : decode cX5_sold 7 = .ok (.bipush (-103), 2) := by decide +kernel
theorem dX5_sold_9 : decode cX5_sold 9 = .ok (.ireturn, 1) := by decide +kernel
theorem dX5_sold_10 : decode cX5_sold 10 = .ok (.aload_n 0, 1) := by decide +kernel
theorem dX5_sold_11 : decode cX5_sold 11 = .ok (.getfield 33, 3) := by decide +kernel
theorem dX5_sold_14 : decode cX5_sold 14 = .ok (.aload_n 0, 1) := by decide +kernel
theorem dX5_sold_15 : decode cX5_sold 15 = .ok (.getfield 26, 3) := by decide +kernel
theorem dX5_sold_18 : decode cX5_sold 18 = .ok (.invokevirtual 177, 3) := by decide +kernel
theorem dX5_sold_21 : decode cX5_sold 21 = .ok (.istore_n 1, 1) := by decide +kernel
theorem dX5_sold_22 : decode cX5_sold 22 = .ok (.iconst 0, 1) := by decide +kernel
theorem dX5_sold_23 : decode cX5_sold 23 = .ok (.istore_n 2, 1) := by decide +kernel
theorem dX5_sold_24 : decode cX5_sold 24 = .ok (.iload_n 2, 1) := by decide +kernel
theorem dX5_sold_25 : decode cX5_sold 25 = .ok (.bipush 9, 2) := by decide +kernel
theorem dX5_sold_27 : decode cX5_sold 27 = .ok (.if_icmp .gt 65, 3) := by decide +kernel
theorem dX5_sold_30 : decode cX5_sold 30 = .ok (.aload_n 0, 1) := by decide +kernel
theorem dX5_sold_31 : decode cX5_sold 31 = .ok (.getfield 53, 3) := by decide +kernel
theorem dX5_sold_34 : decode cX5_sold 34 = .ok (.aload_n 0, 1) := by decide +kernel
theorem dX5_sold_35 : decode cX5_sold 35 = .ok (.getfield 19, 3) := by decide +kernel
theorem dX5_sold_38 : decode cX5_sold 38 = .ok (.iload_n 2, 1) := by decide +kernel
theorem dX5_sold_39 : decode cX5_sold 39 = .ok (.invokevirtual 198, 3) := by decide +kernel
theorem dX5_sold_42 : decode cX5_sold 42 = .ok (.aload_n 0, 1) := by decide +kernel
theorem dX5_sold_43 : decode cX5_sold 43 = .ok (.getfield 50, 3) := by decide +kernel
theorem dX5_sold_46 : decode cX5_sold 46 = .ok (.aload_n 0, 1) := by decide +kernel
theorem dX5_sold_47 : decode cX5_sold 47 = .ok (.getfield 33, 3) := by decide +kernel
theorem dX5_sold_50 : decode cX5_sold 50 = .ok (.invokevirtual 170, 3) := by decide +kernel
theorem dX5_sold_53 : decode cX5_sold 53 = .ok (.aload_n 0, 1) := by decide +kernel
theorem dX5_sold_54 : decode cX5_sold 54 = .ok (.getfield 50, 3) := by decide +kernel
theorem dX5_sold_57 : decode cX5_sold 57 = .ok (.aload_n 0, 1) := by decide +kernel
theorem dX5_sold_58 : decode cX5_sold 58 = .ok (.getfield 53, 3) := by decide +kernel
theorem dX5_sold_61 : decode cX5_sold 61 = .ok (.aload_n 0, 1) := by decide +kernel
theorem dX5_sold_62 : decode cX5_sold 62 = .ok (.getfield 26, 3) := by decide +kernel
theorem dX5_sold_65 : decode cX5_sold 65 = .ok (.invokevirtual 174, 3) := by decide +kernel
theorem dX5_sold_68 : decode cX5_sold 68 = .ok (.pop, 1) := by decide +kernel
theorem dX5_sold_69 : decode cX5_sold 69 = .ok (.aload_n 0, 1) := by decide +kernel
theorem dX5_sold_70 : decode cX5_sold 70 = .ok (.getfield 50, 3) := by decide +kernel
theorem dX5_sold_73 : decode cX5_sold 73 = .ok (.aload_n 0, 1) := by decide +kernel
theorem dX5_sold_74 : decode cX5_sold 74 = .ok (.getfield 26, 3) := by decide +kernel
theorem dX5_sold_77 : decode cX5_sold 77 = .ok (.invokevirtual 177, 3) := by decide +kernel
theorem dX5_sold_80 : decode cX5_sold 80 = .ok (.iload_n 1, 1) := by decide +kernel
theorem dX5_sold_81 : decode cX5_sold 81 = .ok (.if_icmp .ne 5, 3) := by decide +kernel
theorem dX5_sold_84 : decode cX5_sold 84 = .ok (.iload_n 2, 1) := by decide +kernel
theorem dX5_sold_85 : decode cX5_sold 85 = .ok (.ireturn, 1) := by decide +kernel
theorem dX5_sold_86 : decode cX5_sold 86 = .ok (.iinc 2 1, 3) := by decide +kernel
theorem dX5_sold_89 : decode cX5_sold 89 = .ok (.goto (-65), 3) := by decide +kernel
theorem dX5_sold_92 : decode cX5_sold 92 = .ok (.iconst (-1), 1) := by decide +kernel
theorem dX5_sold_93 : decode cX5_sold 93 = .ok (.ireturn, 1) := by decide +kernel
theorem dX5_log_0 : decode cX5_log 0 = .ok (.iload_n 1, 1) := by decide +kernel
theorem dX5_log_1 : decode cX5_log 1 = .ok (.ifCond .lt 14, 3) := by decide +kernel
theorem dX5_log_4 : decode cX5_log 4 = .ok (.iload_n 1, 1) := by decide +kernel
theorem dX5_log_5 : decode cX5_log 5 = .ok (.aload_n 0, 1) := by decide +kernel
theorem dX5_log_6 : decode cX5_log 6 = .ok (.getfield 26, 3) := by decide +kernel
theorem dX5_log_9 : decode cX5_log 9 = .ok (.invokevirtual 184, 3) := by decide +kernel
theorem dX5_log_12 : decode cX5_log 12 = .ok (.if_icmp .le 6, 3) := by decide +kernel
theorem dX5_log_15 : decode cX5_log 15 = .ok (.bipush (-102), 2) := by decide +kernel
theorem dX5_log_17 : decode cX5_log 17 = .ok (.ireturn, 1) := by decide +kernel
theorem dX5_log_18 : decode cX5_log 18 = .ok (.aload_n 0, 1) := by decide +kernel
theorem dX5_log_19 : decode cX5_log 19 = .ok (.getfield 40, 3) := by decide +kernel
theorem dX5_log_22 : decode cX5_log 22 = .ok (.getfield 77, 3) := by decide +kernel
theorem dX5_log_25 : decode cX5_log 25 = .ok (.bipush 8, 2) := by decide +kernel
theorem dX5_log_27 : decode cX5_log 27 = .ok (.if_icmp .lt 6, 3) := by decide +kernel
theorem dX5_log_30 : decode cX5_log 30 = .ok (.bipush (-104), 2) := by decide +kernel
theorem dX5_log_32 : decode cX5_log 32 = .ok (.ireturn, 1) := by decide +kernel
theorem dX5_log_33 : decode cX5_log 33 = .ok (.aload_n 0, 1) := by decide +kernel
theorem dX5_log_34 : decode cX5_log 34 = .ok (.getfield 40, 3) := by decide +kernel
theorem dX5_log_37 : decode cX5_log 37 = .ok (.iload_n 1, 1) := by decide +kernel
theorem dX5_log_38 : decode cX5_log 38 = .ok (.invokevirtual 202, 3) := by decide +kernel
theorem dX5_log_41 : decode cX5_log 41 = .ok (.aload_n 0, 1) := by decide +kernel
theorem dX5_log_42 : decode cX5_log 42 = .ok (.getfield 40, 3) := by decide +kernel
theorem dX5_log_45 : decode cX5_log 45 = .ok (.getfield 77, 3) := by decide +kernel
theorem dX5_log_48 : decode cX5_log 48 = .ok (.ireturn, 1) := by decide +kernel
theorem dX5_forget_0 : decode cX5_forget 0 = .ok (.aload_n 0, 1) := by decide +kernel
theorem dX5_forget_1 : decode cX5_forget 1 = .ok (.getfield 40, 3) := by decide +kernel
theorem dX5_forget_4 : decode cX5_forget 4 = .ok (.getfield 77, 3) := by decide +kernel
theorem dX5_forget_7 : decode cX5_forget 7 = .ok (.istore_n 1, 1) := by decide +kernel
theorem dX5_forget_8 : decode cX5_forget 8 = .ok (.aload_n 0, 1) := by decide +kernel
theorem dX5_forget_9 : decode cX5_forget 9 = .ok (.getfield 40, 3) := by decide +kernel
theorem dX5_forget_12 : decode cX5_forget 12 = .ok (.iconst 0, 1) := by decide +kernel
theorem dX5_forget_13 : decode cX5_forget 13 = .ok (.putfield 77, 3) := by decide +kernel
theorem dX5_forget_16 : decode cX5_forget 16 = .ok (.iload_n 1, 1) := by decide +kernel
theorem dX5_forget_17 : decode cX5_forget 17 = .ok (.ireturn, 1) := by decide +kernel
theorem dX5_fits_0 : decode cX5_fits 0 = .ok (.aload_n 0, 1) := by decide +kernel
theorem dX5_fits_1 : decode cX5_fits 1 = .ok (.invokevirtual 100, 3) := by decide +kernel
theorem dX5_fits_4 : decode cX5_fits 4 = .ok (.ifCond .eq 13, 3) := by decide +kernel
theorem dX5_fits_7 : decode cX5_fits 7 = .ok (.aload_n 0, 1) := by decide +kernel
theorem dX5_fits_8 : decode cX5_fits 8 = .ok (.getfield 26, 3) := by decide +kernel
theorem dX5_fits_11 : decode cX5_fits 11 = .ok (.getfield 76, 3) := by decide +kernel
theorem dX5_fits_14 : decode cX5_fits 14 = .ok (.ifCond .ne 6, 3) := by decide +kernel
theorem dX5_fits_17 : decode cX5_fits 17 = .ok (.bipush (-103), 2) := by decide +kernel
theorem dX5_fits_19 : decode cX5_fits 19 = .ok (.ireturn, 1) := by decide +kernel
theorem dX5_fits_20 : decode cX5_fits 20 = .ok (.aload_n 0, 1) := by decide +kernel
theorem dX5_fits_21 : decode cX5_fits 21 = .ok (.iconst 0, 1) := by decide +kernel
theorem dX5_fits_22 : decode cX5_fits 22 = .ok (.invokevirtual 203, 3) := by decide +kernel
theorem dX5_fits_25 : decode cX5_fits 25 = .ok (.ireturn, 1) := by decide +kernel
theorem dX5_sure_0 : decode cX5_sure 0 = .ok (.aload_n 0, 1) := by decide +kernel
theorem dX5_sure_1 : decode cX5_sure 1 = .ok (.iload_n 1, 1) := by decide +kernel
theorem dX5_sure_2 : decode cX5_sure 2 = .ok (.invokevirtual 115, 3) := by decide +kernel
theorem dX5_sure_5 : decode cX5_sure 5 = .ok (.ifCond .ne 6, 3) := by decide +kernel
theorem dX5_sure_8 : decode cX5_sure 8 = .ok (.bipush (-101), 2) := by decide +kernel
theorem dX5_sure_10 : decode cX5_sure 10 = .ok (.ireturn, 1) := by decide +kernel
theorem dX5_sure_11 : decode cX5_sure 11 = .ok (.aload_n 0, 1) := by decide +kernel
theorem dX5_sure_12 : decode cX5_sure 12 = .ok (.iconst 0, 1) := by decide +kernel
theorem dX5_sure_13 : decode cX5_sure 13 = .ok (.invokevirtual 203, 3) := by decide +kernel
theorem dX5_sure_16 : decode cX5_sure 16 = .ok (.istore_n 2, 1) := by decide +kernel
theorem dX5_sure_17 : decode cX5_sure 17 = .ok (.aload_n 0, 1) := by decide +kernel
theorem dX5_sure_18 : decode cX5_sure 18 = .ok (.iconst 1, 1) := by decide +kernel
theorem dX5_sure_19 : decode cX5_sure 19 = .ok (.iload_n 1, 1) := by decide +kernel
theorem dX5_sure_20 : decode cX5_sure 20 = .ok (.ishl, 1) := by decide +kernel
theorem dX5_sure_21 : decode cX5_sure 21 = .ok (.invokevirtual 203, 3) := by decide +kernel
theorem dX5_sure_24 : decode cX5_sure 24 = .ok (.istore_n 3, 1) := by decide +kernel
theorem dX5_sure_25 : decode cX5_sure 25 = .ok (.iload_n 2, 1) := by decide +kernel
theorem dX5_sure_26 : decode cX5_sure 26 = .ok (.ifCond .eq 12, 3) := by decide +kernel
theorem dX5_sure_29 : decode cX5_sure 29 = .ok (.iload_n 3, 1) := by decide +kernel
theorem dX5_sure_30 : decode cX5_sure 30 = .ok (.ifCond .eq 10, 3) := by decide +kernel
theorem dX5_sure_33 : decode cX5_sure 33 = .ok (.iload_n 3, 1) := by decide +kernel
theorem dX5_sure_34 : decode cX5_sure 34 = .ok (.iload_n 2, 1) := by decide +kernel
theorem dX5_sure_35 : decode cX5_sure 35 = .ok (.if_icmp .eq 5, 3) := by decide +kernel
theorem dX5_sure_38 : decode cX5_sure 38 = .ok (.iconst (-1), 1) := by decide +kernel
theorem dX5_sure_39 : decode cX5_sure 39 = .ok (.ireturn, 1) := by decide +kernel
theorem dX5_sure_40 : decode cX5_sure 40 = .ok (.iload_n 3, 1) := by decide +kernel
theorem dX5_sure_41 : decode cX5_sure 41 = .ok (.iload_n 2, 1) := by decide +kernel
theorem dX5_sure_42 : decode cX5_sure 42 = .ok (.if_icmp .ne 7, 3) := by decide +kernel
theorem dX5_sure_45 : decode cX5_sure 45 = .ok (.iconst 1, 1) := by decide +kernel
theorem dX5_sure_46 : decode cX5_sure 46 = .ok (.goto 4, 3) := by decide +kernel
theorem dX5_sure_49 : decode cX5_sure 49 = .ok (.iconst 0, 1) := by decide +kernel
theorem dX5_sure_50 : decode cX5_sure 50 = .ok (.invokestatic 130, 3) := by decide +kernel
theorem dX5_sure_53 : decode cX5_sure 53 = .ok (.ireturn, 1) := by decide +kernel
theorem dX5_voyages_0 : decode cX5_voyages 0 = .ok (.iload_n 1, 1) := by decide +kernel
theorem dX5_voyages_1 : decode cX5_voyages 1 = .ok (.iconst 1, 1) := by decide +kernel
theorem dX5_voyages_2 : decode cX5_voyages 2 = .ok (.if_icmp .lt 22, 3) := by decide +kernel
theorem dX5_voyages_5 : decode cX5_voyages 5 = .ok (.iload_n 1, 1) := by decide +kernel
theorem dX5_voyages_6 : decode cX5_voyages 6 = .ok (.bipush 20, 2) := by decide +kernel
theorem dX5_voyages_8 : decode cX5_voyages 8 = .ok (.if_icmp .gt 16, 3) := by decide +kernel
theorem dX5_voyages_11 : decode cX5_voyages 11 = .ok (.iload_n 2, 1) := by decide +kernel
theorem dX5_voyages_12 : decode cX5_voyages 12 = .ok (.ifCond .lt 12, 3) := by decide +kernel
theorem dX5_voyages_15 : decode cX5_voyages 15 = .ok (.iload_n 3, 1) := by decide +kernel
theorem dX5_voyages_16 : decode cX5_voyages 16 = .ok (.ifCond .lt 8, 3) := by decide +kernel
theorem dX5_voyages_19 : decode cX5_voyages 19 = .ok (.iload_n 3, 1) := by decide +kernel
theorem dX5_voyages_20 : decode cX5_voyages 20 = .ok (.iconst 2, 1) := by decide +kernel
theorem dX5_voyages_21 : decode cX5_voyages 21 = .ok (.if_icmp .le 6, 3) := by decide +kernel
theorem dX5_voyages_24 : decode cX5_voyages 24 = .ok (.bipush (-102), 2) := by decide +kernel
theorem dX5_voyages_26 : decode cX5_voyages 26 = .ok (.ireturn, 1) := by decide +kernel
theorem dX5_voyages_27 : decode cX5_voyages 27 = .ok (.aload_n 0, 1) := by decide +kernel
theorem dX5_voyages_28 : decode cX5_voyages 28 = .ok (.invokevirtual 100, 3) := by decide +kernel
theorem dX5_voyages_31 : decode cX5_voyages 31 = .ok (.ifCond .eq 13, 3) := by decide +kernel
theorem dX5_voyages_34 : decode cX5_voyages 34 = .ok (.aload_n 0, 1) := by decide +kernel
theorem dX5_voyages_35 : decode cX5_voyages 35 = .ok (.getfield 26, 3) := by decide +kernel
theorem dX5_voyages_38 : decode cX5_voyages 38 = .ok (.getfield 76, 3) := by decide +kernel
theorem dX5_voyages_41 : decode cX5_voyages 41 = .ok (.ifCond .ne 6, 3) := by decide +kernel
theorem dX5_voyages_44 : decode cX5_voyages 44 = .ok (.bipush (-103), 2) := by decide +kernel
theorem dX5_voyages_46 : decode cX5_voyages 46 = .ok (.ireturn, 1) := by decide +kernel
theorem dX5_voyages_47 : decode cX5_voyages 47 = .ok (.iconst 0, 1) := by decide +kernel
theorem dX5_voyages_48 : decode cX5_voyages 48 = .ok (.istore 4, 2) := by decide +kernel
theorem dX5_voyages_50 : decode cX5_voyages 50 = .ok (.iconst 0, 1) := by decide +kernel
theorem dX5_voyages_51 : decode cX5_voyages 51 = .ok (.istore 5, 2) := by decide +kernel
theorem dX5_voyages_53 : decode cX5_voyages 53 = .ok (.iload_n 2, 1) := by decide +kernel
theorem dX5_voyages_54 : decode cX5_voyages 54 = .ok (.istore 6, 2) := by decide +kernel
theorem dX5_voyages_56 : decode cX5_voyages 56 = .ok (.iconst 0, 1) := by decide +kernel
theorem dX5_voyages_57 : decode cX5_voyages 57 = .ok (.istore 7, 2) := by decide +kernel
theorem dX5_voyages_59 : decode cX5_voyages 59 = .ok (.iload 7, 2) := by decide +kernel
theorem dX5_voyages_61 : decode cX5_voyages 61 = .ok (.iload_n 1, 1) := by decide +kernel
theorem dX5_voyages_62 : decode cX5_voyages 62 = .ok (.if_icmp .ge 105, 3) := by decide +kernel
theorem dX5_voyages_65 : decode cX5_voyages 65 = .ok (.aload_n 0, 1) := by decide +kernel
theorem dX5_voyages_66 : decode cX5_voyages 66 = .ok (.getfield 53, 3) := by decide +kernel
theorem dX5_voyages_69 : decode cX5_voyages 69 = .ok (.aload_n 0, 1) := by decide +kernel
theorem dX5_voyages_70 : decode cX5_voyages 70 = .ok (.getfield 19, 3) := by decide +kernel
theorem dX5_voyages_73 : decode cX5_voyages 73 = .ok (.iload 6, 2) := by decide +kernel
theorem dX5_voyages_75 : decode cX5_voyages 75 = .ok (.invokevirtual 206, 3) := by decide +kernel
theorem dX5_voyages_78 : decode cX5_voyages 78 = .ok (.istore 6, 2) := by decide +kernel
theorem dX5_voyages_80 : decode cX5_voyages 80 = .ok (.aload_n 0, 1) := by decide +kernel
theorem dX5_voyages_81 : decode cX5_voyages 81 = .ok (.getfield 50, 3) := by decide +kernel
theorem dX5_voyages_84 : decode cX5_voyages 84 = .ok (.aload_n 0, 1) := by decide +kernel
theorem dX5_voyages_85 : decode cX5_voyages 85 = .ok (.getfield 33, 3) := by decide +kernel
theorem dX5_voyages_88 : decode cX5_voyages 88 = .ok (.invokevirtual 170, 3) := by decide +kernel
theorem dX5_voyages_91 : decode cX5_voyages 91 = .ok (.aload_n 0, 1) := by decide +kernel
theorem dX5_voyages_92 : decode cX5_voyages 92 = .ok (.getfield 50, 3) := by decide +kernel
theorem dX5_voyages_95 : decode cX5_voyages 95 = .ok (.aload_n 0, 1) := by decide +kernel
theorem dX5_voyages_96 : decode cX5_voyages 96 = .ok (.getfield 26, 3) := by decide +kernel
theorem dX5_voyages_99 : decode cX5_voyages 99 = .ok (.invokevirtual 184, 3) := by decide +kernel
theorem dX5_voyages_102 : decode cX5_voyages 102 = .ok (.invokevirtual 78, 3) := by decide +kernel
theorem dX5_voyages_105 : decode cX5_voyages 105 = .ok (.aload_n 0, 1) := by decide +kernel
theorem dX5_voyages_106 : decode cX5_voyages 106 = .ok (.getfield 50, 3) := by decide +kernel
theorem dX5_voyages_109 : decode cX5_voyages 109 = .ok (.aload_n 0, 1) := by decide +kernel
theorem dX5_voyages_110 : decode cX5_voyages 110 = .ok (.getfield 53, 3) := by decide +kernel
theorem dX5_voyages_113 : decode cX5_voyages 113 = .ok (.aload_n 0, 1) := by decide +kernel
theorem dX5_voyages_114 : decode cX5_voyages 114 = .ok (.getfield 26, 3) := by decide +kernel
theorem dX5_voyages_117 : decode cX5_voyages 117 = .ok (.invokevirtual 174, 3) := by decide +kernel
theorem dX5_voyages_120 : decode cX5_voyages 120 = .ok (.pop, 1) := by decide +kernel
theorem dX5_voyages_121 : decode cX5_voyages 121 = .ok (.iload 4, 2) := by decide +kernel
theorem dX5_voyages_123 : decode cX5_voyages 123 = .ok (.aload_n 0, 1) := by decide +kernel
theorem dX5_voyages_124 : decode cX5_voyages 124 = .ok (.getfield 50, 3) := by decide +kernel
theorem dX5_voyages_127 : decode cX5_voyages 127 = .ok (.getfield 152, 3) := by decide +kernel
theorem dX5_voyages_130 : decode cX5_voyages 130 = .ok (.iconst 1, 1) := by decide +kernel
theorem dX5_voyages_131 : decode cX5_voyages 131 = .ok (.if_icmp .ne 7, 3) := by decide +kernel
theorem dX5_voyages_134 : decode cX5_voyages 134 = .ok (.iconst 1, 1) := by decide +kernel
theorem dX5_voyages_135 : decode cX5_voyages 135 = .ok (.goto 4, 3) := by decide +kernel
theorem dX5_voyages_138 : decode cX5_voyages 138 = .ok (.iconst 0, 1) := by decide +kernel
theorem dX5_voyages_139 : decode cX5_voyages 139 = .ok (.invokestatic 130, 3) := by decide +kernel
theorem dX5_voyages_142 : decode cX5_voyages 142 = .ok (.iadd, 1) := by decide +kernel
theorem dX5_voyages_143 : decode cX5_voyages 143 = .ok (.istore 4, 2) := by decide +kernel
theorem dX5_voyages_145 : decode cX5_voyages 145 = .ok (.iload 5, 2) := by decide +kernel
theorem dX5_voyages_147 : decode cX5_voyages 147 = .ok (.aload_n 0, 1) := by decide +kernel
theorem dX5_voyages_148 : decode cX5_voyages 148 = .ok (.getfield 50, 3) := by decide +kernel
theorem dX5_voyages_151 : decode cX5_voyages 151 = .ok (.aload_n 0, 1) := by decide +kernel
theorem dX5_voyages_152 : decode cX5_voyages 152 = .ok (.getfield 26, 3) := by decide +kernel
theorem dX5_voyages_155 : decode cX5_voyages 155 = .ok (.invokevirtual 177, 3) := by decide +kernel
theorem dX5_voyages_158 : decode cX5_voyages 158 = .ok (.iadd, 1) := by decide +kernel
theorem dX5_voyages_159 : decode cX5_voyages 159 = .ok (.istore 5, 2) := by decide +kernel
theorem dX5_voyages_161 : decode cX5_voyages 161 = .ok (.iinc 7 1, 3) := by decide +kernel
theorem dX5_voyages_164 : decode cX5_voyages 164 = .ok (.goto (-105), 3) := by decide +kernel
theorem dX5_voyages_167 : decode cX5_voyages 167 = .ok (.iload_n 3, 1) := by decide +kernel
theorem dX5_voyages_168 : decode cX5_voyages 168 = .ok (.ifCond .ne 6, 3) := by decide +kernel
theorem dX5_voyages_171 : decode cX5_voyages 171 = .ok (.iload 4, 2) := by decide +kernel
theorem dX5_voyages_173 : decode cX5_voyages 173 = .ok (.ireturn, 1) := by decide +kernel
theorem dX5_voyages_174 : decode cX5_voyages 174 = .ok (.iload_n 3, 1) := by decide +kernel
theorem dX5_voyages_175 : decode cX5_voyages 175 = .ok (.iconst 1, 1) := by decide +kernel
theorem dX5_voyages_176 : decode cX5_voyages 176 = .ok (.if_icmp .ne 8, 3) := by decide +kernel
theorem dX5_voyages_179 : decode cX5_voyages 179 = .ok (.iload 5, 2) := by decide +kernel
theorem dX5_voyages_181 : decode cX5_voyages 181 = .ok (.goto 5, 3) := by decide +kernel
theorem dX5_voyages_184 : decode cX5_voyages 184 = .ok (.iload 6, 2) := by decide +kernel
theorem dX5_voyages_186 : decode cX5_voyages 186 = .ok (.ireturn, 1) := by decide +kernel
theorem dX5_image_0 : decode cX5_image 0 = .ok (.aload_n 0, 1) := by decide +kernel
theorem dX5_image_1 : decode cX5_image 1 = .ok (.invokevirtual 100, 3) := by decide +kernel
theorem dX5_image_4 : decode cX5_image 4 = .ok (.ifCond .ne 6, 3) := by decide +kernel
theorem dX5_image_7 : decode cX5_image 7 = .ok (.bipush (-103), 2) := by decide +kernel
theorem dX5_image_9 : decode cX5_image 9 = .ok (.ireturn, 1) := by decide +kernel
theorem dX5_image_10 : decode cX5_image 10 = .ok (.aload_n 0, 1) := by decide +kernel
theorem dX5_image_11 : decode cX5_image 11 = .ok (.getfield 44, 3) := by decide +kernel
theorem dX5_image_14 : decode cX5_image 14 = .ok (.aload_n 0, 1) := by decide +kernel
theorem dX5_image_15 : decode cX5_image 15 = .ok (.getfield 33, 3) := by decide +kernel
theorem dX5_image_18 : decode cX5_image 18 = .ok (.invokevirtual 170, 3) := by decide +kernel
theorem dX5_image_21 : decode cX5_image 21 = .ok (.aload_n 0, 1) := by decide +kernel
theorem dX5_image_22 : decode cX5_image 22 = .ok (.getfield 47, 3) := by decide +kernel
theorem dX5_image_25 : decode cX5_image 25 = .ok (.aload_n 0, 1) := by decide +kernel
theorem dX5_image_26 : decode cX5_image 26 = .ok (.getfield 40, 3) := by decide +kernel
theorem dX5_image_29 : decode cX5_image 29 = .ok (.invokevirtual 210, 3) := by decide +kernel
theorem dX5_image_32 : decode cX5_image 32 = .ok (.aload_n 0, 1) := by decide +kernel
theorem dX5_image_33 : decode cX5_image 33 = .ok (.aload_n 0, 1) := by decide +kernel
theorem dX5_image_34 : decode cX5_image 34 = .ok (.getfield 26, 3) := by decide +kernel
theorem dX5_image_37 : decode cX5_image 37 = .ok (.getfield 76, 3) := by decide +kernel
theorem dX5_image_40 : decode cX5_image 40 = .ok (.putfield 213, 3) := by decide +kernel
theorem dX5_image_43 : decode cX5_image 43 = .ok (.aload_n 0, 1) := by decide +kernel
theorem dX5_image_44 : decode cX5_image 44 = .ok (.iconst 1, 1) := by decide +kernel
theorem dX5_image_45 : decode cX5_image 45 = .ok (.putfield 81, 3) := by decide +kernel
theorem dX5_image_48 : decode cX5_image 48 = .ok (.aload_n 0, 1) := by decide +kernel
theorem dX5_image_49 : decode cX5_image 49 = .ok (.getfield 33, 3) := by decide +kernel
theorem dX5_image_52 : decode cX5_image 52 = .ok (.getfield 106, 3) := by decide +kernel
theorem dX5_image_55 : decode cX5_image 55 = .ok (.ireturn, 1) := by decide +kernel
theorem dX5_restore_0 : decode cX5_restore 0 = .ok (.aload_n 0, 1) := by decide +kernel
theorem dX5_restore_1 : decode cX5_restore 1 = .ok (.getfield 81, 3) := by decide +kernel
theorem dX5_restore_4 : decode cX5_restore 4 = .ok (.ifCond .ne 6, 3) := by decide +kernel
theorem dX5_restore_7 : decode cX5_restore 7 = .ok (.bipush (-103), 2) := by decide +kernel
theorem dX5_restore_9 : decode cX5_restore 9 = .ok (.ireturn, 1) := by decide +kernel
theorem dX5_restore_10 : decode cX5_restore 10 = .ok (.aload_n 0, 1) := by decide +kernel
theorem dX5_restore_11 : decode cX5_restore 11 = .ok (.getfield 33, 3) := by decide +kernel
theorem dX5_restore_14 : decode cX5_restore 14 = .ok (.aload_n 0, 1) := by decide +kernel
theorem dX5_restore_15 : decode cX5_restore 15 = .ok (.getfield 44, 3) := by decide +kernel
theorem dX5_restore_18 : decode cX5_restore 18 = .ok (.invokevirtual 170, 3) := by decide +kernel
theorem dX5_restore_21 : decode cX5_restore 21 = .ok (.aload_n 0, 1) := by decide +kernel
theorem dX5_restore_22 : decode cX5_restore 22 = .ok (.getfield 40, 3) := by decide +kernel
theorem dX5_restore_25 : decode cX5_restore 25 = .ok (.aload_n 0, 1) := by decide +kernel
theorem dX5_restore_26 : decode cX5_restore 26 = .ok (.getfield 47, 3) := by decide +kernel
theorem dX5_restore_29 : decode cX5_restore 29 = .ok (.invokevirtual 210, 3) := by decide +kernel
theorem dX5_restore_32 : decode cX5_restore 32 = .ok (.aload_n 0, 1) := by decide +kernel
theorem dX5_restore_33 : decode cX5_restore 33 = .ok (.getfield 26, 3) := by decide +kernel
theorem dX5_restore_36 : decode cX5_restore 36 = .ok (.aload_n 0, 1) := by decide +kernel
theorem dX5_restore_37 : decode cX5_restore 37 = .ok (.getfield 213, 3) := by decide +kernel
theorem dX5_restore_40 : decode cX5_restore 40 = .ok (.putfield 76, 3) := by decide +kernel
theorem dX5_restore_43 : decode cX5_restore 43 = .ok (.aload_n 0, 1) := by decide +kernel
theorem dX5_restore_44 : decode cX5_restore 44 = .ok (.getfield 33, 3) := by decide +kernel
theorem dX5_restore_47 : decode cX5_restore 47 = .ok (.getfield 106, 3) := by decide +kernel
theorem dX5_restore_50 : decode cX5_restore 50 = .ok (.ireturn, 1) := by decide +kernel
theorem dX5_count_0 : decode cX5_count 0 = .ok (.iload_n 1, 1) := by decide +kernel
theorem dX5_count_1 : decode cX5_count 1 = .ok (.tableswitch 148 0 10 #[59, 67, 75, 83, 91, 103, 111, 119, 127, 135, 143], 59) := by decide +kernel
theorem dX5_count_60 : decode cX5_count 60 = .ok (.aload_n 0, 1) := by decide +kernel
theorem dX5_count_61 : decode cX5_count 61 = .ok (.getfield 19, 3) := by decide +kernel
theorem dX5_count_64 : decode cX5_count 64 = .ok (.getfield 88, 3) := by decide +kernel
theorem dX5_count_67 : decode cX5_count 67 = .ok (.ireturn, 1) := by decide +kernel
theorem dX5_count_68 : decode cX5_count 68 = .ok (.aload_n 0, 1) := by decide +kernel
theorem dX5_count_69 : decode cX5_count 69 = .ok (.getfield 19, 3) := by decide +kernel
theorem dX5_count_72 : decode cX5_count 72 = .ok (.getfield 216, 3) := by decide +kernel
theorem dX5_count_75 : decode cX5_count 75 = .ok (.ireturn, 1) := by decide +kernel
theorem dX5_count_76 : decode cX5_count 76 = .ok (.aload_n 0, 1) := by decide +kernel
theorem dX5_count_77 : decode cX5_count 77 = .ok (.getfield 19, 3) := by decide +kernel
theorem dX5_count_80 : decode cX5_count 80 = .ok (.getfield 219, 3) := by decide +kernel
theorem dX5_count_83 : decode cX5_count 83 = .ok (.ireturn, 1) := by decide +kernel
theorem dX5_count_84 : decode cX5_count 84 = .ok (.aload_n 0, 1) := by decide +kernel
theorem dX5_count_85 : decode cX5_count 85 = .ok (.getfield 26, 3) := by decide +kernel
theorem dX5_count_88 : decode cX5_count 88 = .ok (.getfield 76, 3) := by decide +kernel
theorem dX5_count_91 : decode cX5_count 91 = .ok (.ireturn, 1) := by decide +kernel
theorem dX5_count_92 : decode cX5_count 92 = .ok (.aload_n 0, 1) := by decide +kernel
theorem dX5_count_93 : decode cX5_count 93 = .ok (.getfield 33, 3) := by decide +kernel
theorem dX5_count_96 : decode cX5_count 96 = .ok (.aload_n 0, 1) := by decide +kernel
theorem dX5_count_97 : decode cX5_count 97 = .ok (.getfield 26, 3) := by decide +kernel
theorem dX5_count_100 : decode cX5_count 100 = .ok (.invokevirtual 177, 3) := by decide +kernel
theorem dX5_count_103 : decode cX5_count 103 = .ok (.ireturn, 1) := by decide +kernel
theorem dX5_count_104 : decode cX5_count 104 = .ok (.aload_n 0, 1) := by decide +kernel
theorem dX5_count_105 : decode cX5_count 105 = .ok (.getfield 33, 3) := by decide +kernel
theorem dX5_count_108 : decode cX5_count 108 = .ok (.getfield 103, 3) := by decide +kernel
theorem dX5_count_111 : decode cX5_count 111 = .ok (.ireturn, 1) := by decide +kernel
theorem dX5_count_112 : decode cX5_count 112 = .ok (.aload_n 0, 1) := by decide +kernel
theorem dX5_count_113 : decode cX5_count 113 = .ok (.getfield 33, 3) := by decide +kernel
theorem dX5_count_116 : decode cX5_count 116 = .ok (.getfield 106, 3) := by decide +kernel
theorem dX5_count_119 : decode cX5_count 119 = .ok (.ireturn, 1) := by decide +kernel
theorem dX5_count_120 : decode cX5_count 120 = .ok (.aload_n 0, 1) := by decide +kernel
theorem dX5_count_121 : decode cX5_count 121 = .ok (.getfield 33, 3) := by decide +kernel
theorem dX5_count_124 : decode cX5_count 124 = .ok (.getfield 152, 3) := by decide +kernel
theorem dX5_count_127 : decode cX5_count 127 = .ok (.ireturn, 1) := by decide +kernel
theorem dX5_count_128 : decode cX5_count 128 = .ok (.aload_n 0, 1) := by decide +kernel
theorem dX5_count_129 : decode cX5_count 129 = .ok (.getfield 40, 3) := by decide +kernel
theorem dX5_count_132 : decode cX5_count 132 = .ok (.getfield 77, 3) := by decide +kernel
theorem dX5_count_135 : decode cX5_count 135 = .ok (.ireturn, 1) := by decide +kernel
theorem dX5_count_136 : decode cX5_count 136 = .ok (.aload_n 0, 1) := by decide +kernel
theorem dX5_count_137 : decode cX5_count 137 = .ok (.getfield 12, 3) := by decide +kernel
theorem dX5_count_140 : decode cX5_count 140 = .ok (.getfield 56, 3) := by decide +kernel
theorem dX5_count_143 : decode cX5_count 143 = .ok (.ireturn, 1) := by decide +kernel
theorem dX5_count_144 : decode cX5_count 144 = .ok (.aload_n 0, 1) := by decide +kernel
theorem dX5_count_145 : decode cX5_count 145 = .ok (.getfield 85, 3) := by decide +kernel
theorem dX5_count_148 : decode cX5_count 148 = .ok (.ireturn, 1) := by decide +kernel
theorem dX5_count_149 : decode cX5_count 149 = .ok (.bipush (-102), 2) := by decide +kernel
theorem dX5_count_151 : decode cX5_count 151 = .ok (.ireturn, 1) := by decide +kernel
theorem dX5_digest_0 : decode cX5_digest 0 = .ok (.ldc2_w 222, 3) := by decide +kernel
theorem dX5_digest_3 : decode cX5_digest 3 = .ok (.lstore_n 1, 1) := by decide +kernel
theorem dX5_digest_4 : decode cX5_digest 4 = .ok (.iconst 0, 1) := by decide +kernel
theorem dX5_digest_5 : decode cX5_digest 5 = .ok (.istore_n 3, 1) := by decide +kernel
theorem dX5_digest_6 : decode cX5_digest 6 = .ok (.iload_n 3, 1) := by decide +kernel
theorem dX5_digest_7 : decode cX5_digest 7 = .ok (.aload_n 0, 1) := by decide +kernel
theorem dX5_digest_8 : decode cX5_digest 8 = .ok (.getfield 19, 3) := by decide +kernel
theorem dX5_digest_11 : decode cX5_digest 11 = .ok (.getfield 88, 3) := by decide +kernel
theorem dX5_digest_14 : decode cX5_digest 14 = .ok (.if_icmp .ge 31, 3) := by decide +kernel
theorem dX5_digest_17 : decode cX5_digest 17 = .ok (.lload_n 1, 1) := by decide +kernel
theorem dX5_digest_18 : decode cX5_digest 18 = .ok (.aload_n 0, 1) := by decide +kernel
theorem dX5_digest_19 : decode cX5_digest 19 = .ok (.iload_n 3, 1) := by decide +kernel
theorem dX5_digest_20 : decode cX5_digest 20 = .ok (.iconst 0, 1) := by decide +kernel
theorem dX5_digest_21 : decode cX5_digest 21 = .ok (.invokevirtual 224, 3) := by decide +kernel
theorem dX5_digest_24 : decode cX5_digest 24 = .ok (.i2l, 1) := by decide +kernel
theorem dX5_digest_25 : decode cX5_digest 25 = .ok (.invokestatic 227, 3) := by decide +kernel
theorem dX5_digest_28 : decode cX5_digest 28 = .ok (.aload_n 0, 1) := by decide +kernel
theorem dX5_digest_29 : decode cX5_digest 29 = .ok (.iload_n 3, 1) := by decide +kernel
theorem dX5_digest_30 : decode cX5_digest 30 = .ok (.iconst 1, 1) := by decide +kernel
theorem dX5_digest_31 : decode cX5_digest 31 = .ok (.invokevirtual 224, 3) := by decide +kernel
theorem dX5_digest_34 : decode cX5_digest 34 = .ok (.i2l, 1) := by decide +kernel
theorem dX5_digest_35 : decode cX5_digest 35 = .ok (.invokestatic 227, 3) := by decide +kernel
theorem dX5_digest_38 : decode cX5_digest 38 = .ok (.lstore_n 1, 1) := by decide +kernel
theorem dX5_digest_39 : decode cX5_digest 39 = .ok (.iinc 3 1, 3) := by decide +kernel
theorem dX5_digest_42 : decode cX5_digest 42 = .ok (.goto (-36), 3) := by decide +kernel
theorem dX5_digest_45 : decode cX5_digest 45 = .ok (.iconst 0, 1) := by decide +kernel
theorem dX5_digest_46 : decode cX5_digest 46 = .ok (.istore_n 3, 1) := by decide +kernel
theorem dX5_digest_47 : decode cX5_digest 47 = .ok (.iload_n 3, 1) := by decide +kernel
theorem dX5_digest_48 : decode cX5_digest 48 = .ok (.aload_n 0, 1) := by decide +kernel
theorem dX5_digest_49 : decode cX5_digest 49 = .ok (.getfield 26, 3) := by decide +kernel
theorem dX5_digest_52 : decode cX5_digest 52 = .ok (.getfield 76, 3) := by decide +kernel
theorem dX5_digest_55 : decode cX5_digest 55 = .ok (.if_icmp .ge 38, 3) := by decide +kernel
theorem dX5_digest_58 : decode cX5_digest 58 = .ok (.iconst 0, 1) := by decide +kernel
theorem dX5_digest_59 : decode cX5_digest 59 = .ok (.istore 4, 2) := by decide +kernel
theorem dX5_digest_61 : decode cX5_digest 61 = .ok (.iload 4, 2) := by decide +kernel
theorem dX5_digest_63 : decode cX5_digest 63 = .ok (.bipush 8, 2) := by decide +kernel
theorem dX5_digest_65 : decode cX5_digest 65 = .ok (.if_icmp .ge 22, 3) := by decide +kernel
theorem dX5_digest_68 : decode cX5_digest 68 = .ok (.lload_n 1, 1) := by decide +kernel
theorem dX5_digest_69 : decode cX5_digest 69 = .ok (.aload_n 0, 1) := by decide +kernel
theorem dX5_digest_70 : decode cX5_digest 70 = .ok (.iload_n 3, 1) := by decide +kernel
theorem dX5_digest_71 : decode cX5_digest 71 = .ok (.iload 4, 2) := by decide +kernel
theorem dX5_digest_73 : decode cX5_digest 73 = .ok (.invokevirtual 231, 3) := by decide +kernel
theorem dX5_digest_76 : decode cX5_digest 76 = .ok (.i2l, 1) := by decide +kernel
theorem dX5_digest_77 : decode cX5_digest 77 = .ok (.invokestatic 227, 3) := by decide +kernel
theorem dX5_digest_80 : decode cX5_digest 80 = .ok (.lstore_n 1, 1) := by decide +kernel
theorem dX5_digest_81 : decode cX5_digest 81 = .ok (.iinc 4 1, 3) := by decide +kernel
theorem dX5_digest_84 : decode cX5_digest 84 = .ok (.goto (-23), 3) := by decide +kernel
theorem dX5_digest_87 : decode cX5_digest 87 = .ok (.iinc 3 1, 3) := by decide +kernel
theorem dX5_digest_90 : decode cX5_digest 90 = .ok (.goto (-43), 3) := by decide +kernel
theorem dX5_digest_93 : decode cX5_digest 93 = .ok (.aload_n 0, 1) := by decide +kernel
theorem dX5_digest_94 : decode cX5_digest 94 = .ok (.invokevirtual 163, 3) := by decide +kernel
theorem dX5_digest_97 : decode cX5_digest 97 = .ok (.ifCond .eq 67, 3) := by decide +kernel
theorem dX5_digest_100 : decode cX5_digest 100 = .ok (.iconst 0, 1) := by decide +kernel
theorem dX5_digest_101 : decode cX5_digest 101 = .ok (.istore_n 3, 1) := by decide +kernel
theorem dX5_digest_102 : decode cX5_digest 102 = .ok (.iload_n 3, 1) := by decide +kernel
theorem dX5_digest_103 : decode cX5_digest 103 = .ok (.iconst 3, 1) := by decide +kernel
theorem dX5_digest_104 : decode cX5_digest 104 = .ok (.if_icmp .ge 20, 3) := by decide +kernel
theorem dX5_digest_107 : decode cX5_digest 107 = .ok (.lload_n 1, 1) := by decide +kernel
theorem dX5_digest_108 : decode cX5_digest 108 = .ok (.aload_n 0, 1) := by decide +kernel
theorem dX5_digest_109 : decode cX5_digest 109 = .ok (.iload_n 3, 1) := by decide +kernel
theorem dX5_digest_110 : decode cX5_digest 110 = .ok (.invokevirtual 234, 3) := by decide +kernel
theorem dX5_digest_113 : decode cX5_digest 113 = .ok (.i2l, 1) := by decide +kernel
theorem dX5_digest_114 : decode cX5_digest 114 = .ok (.invokestatic 227, 3) := by decide +kernel
theorem dX5_digest_117 : decode cX5_digest 117 = .ok (.lstore_n 1, 1) := by decide +kernel
theorem dX5_digest_118 : decode cX5_digest 118 = .ok (.iinc 3 1, 3) := by decide +kernel
theorem dX5_digest_121 : decode cX5_digest 121 = .ok (.goto (-19), 3) := by decide +kernel
theorem dX5_digest_124 : decode cX5_digest 124 = .ok (.lload_n 1, 1) := by decide +kernel
theorem dX5_digest_125 : decode cX5_digest 125 = .ok (.aload_n 0, 1) := by decide +kernel
theorem dX5_digest_126 : decode cX5_digest 126 = .ok (.iconst 2, 1) := by decide +kernel
theorem dX5_digest_127 : decode cX5_digest 127 = .ok (.iconst 0, 1) := by decide +kernel
theorem dX5_digest_128 : decode cX5_digest 128 = .ok (.invokevirtual 237, 3) := by decide +kernel
theorem dX5_digest_131 : decode cX5_digest 131 = .ok (.i2l, 1) := by decide +kernel
theorem dX5_digest_132 : decode cX5_digest 132 = .ok (.invokestatic 227, 3) := by decide +kernel
theorem dX5_digest_135 : decode cX5_digest 135 = .ok (.aload_n 0, 1) := by decide +kernel
theorem dX5_digest_136 : decode cX5_digest 136 = .ok (.iconst 2, 1) := by decide +kernel
theorem dX5_digest_137 : decode cX5_digest 137 = .ok (.iconst 1, 1) := by decide +kernel
theorem dX5_digest_138 : decode cX5_digest 138 = .ok (.invokevirtual 237, 3) := by decide +kernel
theorem dX5_digest_141 : decode cX5_digest 141 = .ok (.i2l, 1) := by decide +kernel
theorem dX5_digest_142 : decode cX5_digest 142 = .ok (.invokestatic 227, 3) := by decide +kernel
theorem dX5_digest_145 : decode cX5_digest 145 = .ok (.lstore_n 1, 1) := by decide +kernel
theorem dX5_digest_146 : decode cX5_digest 146 = .ok (.lload_n 1, 1) := by decide +kernel
theorem dX5_digest_147 : decode cX5_digest 147 = .ok (.aload_n 0, 1) := by decide +kernel
theorem dX5_digest_148 : decode cX5_digest 148 = .ok (.invokevirtual 240, 3) := by decide +kernel
theorem dX5_digest_151 : decode cX5_digest 151 = .ok (.i2l, 1) := by decide +kernel
theorem dX5_digest_152 : decode cX5_digest 152 = .ok (.invokestatic 227, 3) := by decide +kernel
theorem dX5_digest_155 : decode cX5_digest 155 = .ok (.aload_n 0, 1) := by decide +kernel
theorem dX5_digest_156 : decode cX5_digest 156 = .ok (.invokevirtual 243, 3) := by decide +kernel
theorem dX5_digest_159 : decode cX5_digest 159 = .ok (.i2l, 1) := by decide +kernel
theorem dX5_digest_160 : decode cX5_digest 160 = .ok (.invokestatic 227, 3) := by decide +kernel
theorem dX5_digest_163 : decode cX5_digest 163 = .ok (.lstore_n 1, 1) := by decide +kernel
theorem dX5_digest_164 : decode cX5_digest 164 = .ok (.aload_n 0, 1) := by decide +kernel
theorem dX5_digest_165 : decode cX5_digest 165 = .ok (.invokevirtual 100, 3) := by decide +kernel
theorem dX5_digest_168 : decode cX5_digest 168 = .ok (.ifCond .eq 23, 3) := by decide +kernel
theorem dX5_digest_171 : decode cX5_digest 171 = .ok (.aload_n 0, 1) := by decide +kernel
theorem dX5_digest_172 : decode cX5_digest 172 = .ok (.getfield 26, 3) := by decide +kernel
theorem dX5_digest_175 : decode cX5_digest 175 = .ok (.getfield 76, 3) := by decide +kernel
theorem dX5_digest_178 : decode cX5_digest 178 = .ok (.ifCond .le 13, 3) := by decide +kernel
theorem dX5_digest_181 : decode cX5_digest 181 = .ok (.lload_n 1, 1) := by decide +kernel
theorem dX5_digest_182 : decode cX5_digest 182 = .ok (.aload_n 0, 1) := by decide +kernel
theorem dX5_digest_183 : decode cX5_digest 183 = .ok (.invokevirtual 246, 3) := by decide +kernel
theorem dX5_digest_186 : decode cX5_digest 186 = .ok (.i2l, 1) := by decide +kernel
theorem dX5_digest_187 : decode cX5_digest 187 = .ok (.invokestatic 227, 3) := by decide +kernel
theorem dX5_digest_190 : decode cX5_digest 190 = .ok (.lstore_n 1, 1) := by decide +kernel
theorem dX5_digest_191 : decode cX5_digest 191 = .ok (.iconst 0, 1) := by decide +kernel
theorem dX5_digest_192 : decode cX5_digest 192 = .ok (.istore_n 3, 1) := by decide +kernel
theorem dX5_digest_193 : decode cX5_digest 193 = .ok (.iload_n 3, 1) := by decide +kernel
theorem dX5_digest_194 : decode cX5_digest 194 = .ok (.aload_n 0, 1) := by decide +kernel
theorem dX5_digest_195 : decode cX5_digest 195 = .ok (.getfield 12, 3) := by decide +kernel
theorem dX5_digest_198 : decode cX5_digest 198 = .ok (.getfield 56, 3) := by decide +kernel
theorem dX5_digest_201 : decode cX5_digest 201 = .ok (.if_icmp .ge 23, 3) := by decide +kernel
theorem dX5_digest_204 : decode cX5_digest 204 = .ok (.lload_n 1, 1) := by decide +kernel
theorem dX5_digest_205 : decode cX5_digest 205 = .ok (.aload_n 0, 1) := by decide +kernel
theorem dX5_digest_206 : decode cX5_digest 206 = .ok (.getfield 12, 3) := by decide +kernel
theorem dX5_digest_209 : decode cX5_digest 209 = .ok (.iload_n 3, 1) := by decide +kernel
theorem dX5_digest_210 : decode cX5_digest 210 = .ok (.invokevirtual 249, 3) := by decide +kernel
theorem dX5_digest_213 : decode cX5_digest 213 = .ok (.i2l, 1) := by decide +kernel
theorem dX5_digest_214 : decode cX5_digest 214 = .ok (.invokestatic 227, 3) := by decide +kernel
theorem dX5_digest_217 : decode cX5_digest 217 = .ok (.lstore_n 1, 1) := by decide +kernel
theorem dX5_digest_218 : decode cX5_digest 218 = .ok (.iinc 3 1, 3) := by decide +kernel
theorem dX5_digest_221 : decode cX5_digest 221 = .ok (.goto (-28), 3) := by decide +kernel
theorem dX5_digest_224 : decode cX5_digest 224 = .ok (.iconst 0, 1) := by decide +kernel
theorem dX5_digest_225 : decode cX5_digest 225 = .ok (.istore_n 3, 1) := by decide +kernel
theorem dX5_digest_226 : decode cX5_digest 226 = .ok (.iload_n 3, 1) := by decide +kernel
theorem dX5_digest_227 : decode cX5_digest 227 = .ok (.bipush 11, 2) := by decide +kernel
theorem dX5_digest_229 : decode cX5_digest 229 = .ok (.if_icmp .ge 20, 3) := by decide +kernel
theorem dX5_digest_232 : decode cX5_digest 232 = .ok (.lload_n 1, 1) := by decide +kernel
theorem dX5_digest_233 : decode cX5_digest 233 = .ok (.aload_n 0, 1) := by decide +kernel
theorem dX5_digest_234 : decode cX5_digest 234 = .ok (.iload_n 3, 1) := by decide +kernel
theorem dX5_digest_235 : decode cX5_digest 235 = .ok (.invokevirtual 252, 3) := by decide +kernel
theorem dX5_digest_238 : decode cX5_digest 238 = .ok (.i2l, 1) := by decide +kernel
theorem dX5_digest_239 : decode cX5_digest 239 = .ok (.invokestatic 227, 3) := by decide +kernel
theorem dX5_digest_242 : decode cX5_digest 242 = .ok (.lstore_n 1, 1) := by decide +kernel
theorem dX5_digest_243 : decode cX5_digest 243 = .ok (.iinc 3 1, 3) := by decide +kernel
theorem dX5_digest_246 : decode cX5_digest 246 = .ok (.goto (-20), 3) := by decide +kernel
theorem dX5_digest_249 : decode cX5_digest 249 = .ok (.lload_n 1, 1) := by decide +kernel
theorem dX5_digest_250 : decode cX5_digest 250 = .ok (.lreturn, 1) := by decide +kernel
theorem dX5_mix_0 : decode cX5_mix 0 = .ok (.ldc2_w 255, 3) := by decide +kernel
theorem dX5_mix_3 : decode cX5_mix 3 = .ok (.lload_n 0, 1) := by decide +kernel
theorem dX5_mix_4 : decode cX5_mix 4 = .ok (.lmul, 1) := by decide +kernel
theorem dX5_mix_5 : decode cX5_mix 5 = .ok (.lload_n 2, 1) := by decide +kernel
theorem dX5_mix_6 : decode cX5_mix 6 = .ok (.ladd, 1) := by decide +kernel
theorem dX5_mix_7 : decode cX5_mix 7 = .ok (.lreturn, 1) := by decide +kernel
theorem dX5_hasPassage_0 : decode cX5_hasPassage 0 = .ok (.aload_n 0, 1) := by decide +kernel
theorem dX5_hasPassage_1 : decode cX5_hasPassage 1 = .ok (.getfield 19, 3) := by decide +kernel
theorem dX5_hasPassage_4 : decode cX5_hasPassage 4 = .ok (.getfield 88, 3) := by decide +kernel
theorem dX5_hasPassage_7 : decode cX5_hasPassage 7 = .ok (.ifCond .le 7, 3) := by decide +kernel
theorem dX5_hasPassage_10 : decode cX5_hasPassage 10 = .ok (.iconst 1, 1) := by decide +kernel
theorem dX5_hasPassage_11 : decode cX5_hasPassage 11 = .ok (.goto 4, 3) := by decide +kernel
theorem dX5_hasPassage_14 : decode cX5_hasPassage 14 = .ok (.iconst 0, 1) := by decide +kernel
theorem dX5_hasPassage_15 : decode cX5_hasPassage 15 = .ok (.ireturn, 1) := by decide +kernel
theorem dX5_isKnown_0 : decode cX5_isKnown 0 = .ok (.iload_n 1, 1) := by decide +kernel
theorem dX5_isKnown_1 : decode cX5_isKnown 1 = .ok (.ifCond .lt 18, 3) := by decide +kernel
theorem dX5_isKnown_4 : decode cX5_isKnown 4 = .ok (.iload_n 1, 1) := by decide +kernel
theorem dX5_isKnown_5 : decode cX5_isKnown 5 = .ok (.aload_n 0, 1) := by decide +kernel
theorem dX5_isKnown_6 : decode cX5_isKnown 6 = .ok (.getfield 26, 3) := by decide +kernel
theorem dX5_isKnown_9 : decode cX5_isKnown 9 = .ok (.getfield 76, 3) := by decide +kernel
theorem dX5_isKnown_12 : decode cX5_isKnown 12 = .ok (.if_icmp .ge 7, 3) := by decide +kernel
theorem dX5_isKnown_15 : decode cX5_isKnown 15 = .ok (.iconst 1, 1) := by decide +kernel
theorem dX5_isKnown_16 : decode cX5_isKnown 16 = .ok (.goto 4, 3) := by decide +kernel
theorem dX5_isKnown_19 : decode cX5_isKnown 19 = .ok (.iconst 0, 1) := by decide +kernel
theorem dX5_isKnown_20 : decode cX5_isKnown 20 = .ok (.ireturn, 1) := by decide +kernel
theorem dX5_canGoOn_0 : decode cX5_canGoOn 0 = .ok (.aload_n 0, 1) := by decide +kernel
theorem dX5_canGoOn_1 : decode cX5_canGoOn 1 = .ok (.invokevirtual 100, 3) := by decide +kernel
theorem dX5_canGoOn_4 : decode cX5_canGoOn 4 = .ok (.ifCond .eq 27, 3) := by decide +kernel
theorem dX5_canGoOn_7 : decode cX5_canGoOn 7 = .ok (.aload_n 0, 1) := by decide +kernel
theorem dX5_canGoOn_8 : decode cX5_canGoOn 8 = .ok (.getfield 26, 3) := by decide +kernel
theorem dX5_canGoOn_11 : decode cX5_canGoOn 11 = .ok (.getfield 76, 3) := by decide +kernel
theorem dX5_canGoOn_14 : decode cX5_canGoOn 14 = .ok (.ifCond .le 17, 3) := by decide +kernel
theorem dX5_canGoOn_17 : decode cX5_canGoOn 17 = .ok (.aload_n 0, 1) := by decide +kernel
theorem dX5_canGoOn_18 : decode cX5_canGoOn 18 = .ok (.getfield 33, 3) := by decide +kernel
theorem dX5_canGoOn_21 : decode cX5_canGoOn 21 = .ok (.getfield 152, 3) := by decide +kernel
theorem dX5_canGoOn_24 : decode cX5_canGoOn 24 = .ok (.ifCond .ne 7, 3) := by decide +kernel
theorem dX5_canGoOn_27 : decode cX5_canGoOn 27 = .ok (.iconst 1, 1) := by decide +kernel
theorem dX5_canGoOn_28 : decode cX5_canGoOn 28 = .ok (.goto 4, 3) := by decide +kernel
theorem dX5_canGoOn_31 : decode cX5_canGoOn 31 = .ok (.iconst 0, 1) := by decide +kernel
theorem dX5_canGoOn_32 : decode cX5_canGoOn 32 = .ok (.ireturn, 1) := by decide +kernel
theorem dX5_rankWithWax_0 : decode cX5_rankWithWax 0 = .ok (.aload_n 0, 1) := by decide +kernel
theorem dX5_rankWithWax_1 : decode cX5_rankWithWax 1 = .ok (.getfield 50, 3) := by decide +kernel
theorem dX5_rankWithWax_4 : decode cX5_rankWithWax 4 = .ok (.aload_n 0, 1) := by decide +kernel
theorem dX5_rankWithWax_5 : decode cX5_rankWithWax 5 = .ok (.getfield 33, 3) := by decide +kernel
theorem dX5_rankWithWax_8 : decode cX5_rankWithWax 8 = .ok (.invokevirtual 170, 3) := by decide +kernel
theorem dX5_rankWithWax_11 : decode cX5_rankWithWax 11 = .ok (.aload_n 0, 1) := by decide +kernel
theorem dX5_rankWithWax_12 : decode cX5_rankWithWax 12 = .ok (.getfield 50, 3) := by decide +kernel
theorem dX5_rankWithWax_15 : decode cX5_rankWithWax 15 = .ok (.iload_n 1, 1) := by decide +kernel
theorem dX5_rankWithWax_16 : decode cX5_rankWithWax 16 = .ok (.putfield 257, 3) := by decide +kernel
theorem dX5_rankWithWax_19 : decode cX5_rankWithWax 19 = .ok (.aload_n 0, 1) := by decide +kernel
theorem dX5_rankWithWax_20 : decode cX5_rankWithWax 20 = .ok (.getfield 50, 3) := by decide +kernel
theorem dX5_rankWithWax_23 : decode cX5_rankWithWax 23 = .ok (.aload_n 0, 1) := by decide +kernel
theorem dX5_rankWithWax_24 : decode cX5_rankWithWax 24 = .ok (.getfield 19, 3) := by decide +kernel
theorem dX5_rankWithWax_27 : decode cX5_rankWithWax 27 = .ok (.aload_n 0, 1) := by decide +kernel
theorem dX5_rankWithWax_28 : decode cX5_rankWithWax 28 = .ok (.getfield 26, 3) := by decide +kernel
theorem dX5_rankWithWax_31 : decode cX5_rankWithWax 31 = .ok (.invokevirtual 174, 3) := by decide +kernel
theorem dX5_rankWithWax_34 : decode cX5_rankWithWax 34 = .ok (.pop, 1) := by decide +kernel
theorem dX5_rankWithWax_35 : decode cX5_rankWithWax 35 = .ok (.aload_n 0, 1) := by decide +kernel
theorem dX5_rankWithWax_36 : decode cX5_rankWithWax 36 = .ok (.invokevirtual 260, 3) := by decide +kernel
theorem dX5_rankWithWax_39 : decode cX5_rankWithWax 39 = .ok (.ireturn, 1) := by decide +kernel
theorem dX5_rankWithListener_0 : decode cX5_rankWithListener 0 = .ok (.aload_n 0, 1) := by decide +kernel
theorem dX5_rankWithListener_1 : decode cX5_rankWithListener 1 = .ok (.getfield 50, 3) := by decide +kernel
theorem dX5_rankWithListener_4 : decode cX5_rankWithListener 4 = .ok (.aload_n 0, 1) := by decide +kernel
theorem dX5_rankWithListener_5 : decode cX5_rankWithListener 5 = .ok (.getfield 33, 3) := by decide +kernel
theorem dX5_rankWithListener_8 : decode cX5_rankWithListener 8 = .ok (.invokevirtual 170, 3) := by decide +kernel
theorem dX5_rankWithListener_11 : decode cX5_rankWithListener 11 = .ok (.aload_n 0, 1) := by decide +kernel
theorem dX5_rankWithListener_12 : decode cX5_rankWithListener 12 = .ok (.getfield 50, 3) := by decide +kernel
theorem dX5_rankWithListener_15 : decode cX5_rankWithListener 15 = .ok (.aload_n 0, 1) := by decide +kernel
theorem dX5_rankWithListener_16 : decode cX5_rankWithListener 16 = .ok (.getfield 33, 3) := by decide +kernel
theorem dX5_rankWithListener_19 : decode cX5_rankWithListener 19 = .ok (.getfield 187, 3) := by decide +kernel
theorem dX5_rankWithListener_22 : decode cX5_rankWithListener 22 = .ok (.iconst 1, 1) := by decide +kernel
theorem dX5_rankWithListener_23 : decode cX5_rankWithListener 23 = .ok (.iload_n 1, 1) := by decide +kernel
theorem dX5_rankWithListener_24 : decode cX5_rankWithListener 24 = .ok (.ishl, 1) := by decide +kernel
theorem dX5_rankWithListener_25 : decode cX5_rankWithListener 25 = .ok (.iconst (-1), 1) := by decide +kernel
theorem dX5_rankWithListener_26 : decode cX5_rankWithListener 26 = .ok (.ixor, 1) := by decide +kernel
theorem dX5_rankWithListener_27 : decode cX5_rankWithListener 27 = .ok (.iand, 1) := by decide +kernel
theorem dX5_rankWithListener_28 : decode cX5_rankWithListener 28 = .ok (.putfield 257, 3) := by decide +kernel
theorem dX5_rankWithListener_31 : decode cX5_rankWithListener 31 = .ok (.iconst 0, 1) := by decide +kernel
theorem dX5_rankWithListener_32 : decode cX5_rankWithListener 32 = .ok (.istore_n 2, 1) := by decide +kernel
theorem dX5_rankWithListener_33 : decode cX5_rankWithListener 33 = .ok (.iload_n 2, 1) := by decide +kernel
theorem dX5_rankWithListener_34 : decode cX5_rankWithListener 34 = .ok (.aload_n 0, 1) := by decide +kernel
theorem dX5_rankWithListener_35 : decode cX5_rankWithListener 35 = .ok (.getfield 26, 3) := by decide +kernel
theorem dX5_rankWithListener_38 : decode cX5_rankWithListener 38 = .ok (.getfield 76, 3) := by decide +kernel
theorem dX5_rankWithListener_41 : decode cX5_rankWithListener 41 = .ok (.if_icmp .ge 28, 3) := by decide +kernel
theorem dX5_rankWithListener_44 : decode cX5_rankWithListener 44 = .ok (.aload_n 0, 1) := by decide +kernel
theorem dX5_rankWithListener_45 : decode cX5_rankWithListener 45 = .ok (.getfield 50, 3) := by decide +kernel
theorem dX5_rankWithListener_48 : decode cX5_rankWithListener 48 = .ok (.iload_n 2, 1) := by decide +kernel
theorem dX5_rankWithListener_49 : decode cX5_rankWithListener 49 = .ok (.iload_n 2, 1) := by decide +kernel
theorem dX5_rankWithListener_50 : decode cX5_rankWithListener 50 = .ok (.iload_n 1, 1) := by decide +kernel
theorem dX5_rankWithListener_51 : decode cX5_rankWithListener 51 = .ok (.if_icmp .ne 8, 3) := by decide +kernel
theorem dX5_rankWithListener_54 : decode cX5_rankWithListener 54 = .ok (.bipush 9, 2) := by decide +kernel
theorem dX5_rankWithListener_56 : decode cX5_rankWithListener 56 = .ok (.goto 4, 3) := by decide +kernel
theorem dX5_rankWithListener_59 : decode cX5_rankWithListener 59 = .ok (.iconst 0, 1) := by decide +kernel
theorem dX5_rankWithListener_60 : decode cX5_rankWithListener 60 = .ok (.invokevirtual 159, 3) := by decide +kernel
theorem dX5_rankWithListener_63 : decode cX5_rankWithListener 63 = .ok (.iinc 2 1, 3) := by decide +kernel
theorem dX5_rankWithListener_66 : decode cX5_rankWithListener 66 = .ok (.goto (-33), 3) := by decide +kernel
theorem dX5_rankWithListener_69 : decode cX5_rankWithListener 69 = .ok (.aload_n 0, 1) := by decide +kernel
theorem dX5_rankWithListener_70 : decode cX5_rankWithListener 70 = .ok (.getfield 50, 3) := by decide +kernel
theorem dX5_rankWithListener_73 : decode cX5_rankWithListener 73 = .ok (.aload_n 0, 1) := by decide +kernel
theorem dX5_rankWithListener_74 : decode cX5_rankWithListener 74 = .ok (.getfield 19, 3) := by decide +kernel
theorem dX5_rankWithListener_77 : decode cX5_rankWithListener 77 = .ok (.aload_n 0, 1) := by decide +kernel
theorem dX5_rankWithListener_78 : decode cX5_rankWithListener 78 = .ok (.getfield 26, 3) := by decide +kernel
theorem dX5_rankWithListener_81 : decode cX5_rankWithListener 81 = .ok (.invokevirtual 174, 3) := by decide +kernel
theorem dX5_rankWithListener_84 : decode cX5_rankWithListener 84 = .ok (.pop, 1) := by decide +kernel
theorem dX5_rankWithListener_85 : decode cX5_rankWithListener 85 = .ok (.aload_n 0, 1) := by decide +kernel
theorem dX5_rankWithListener_86 : decode cX5_rankWithListener 86 = .ok (.invokevirtual 260, 3) := by decide +kernel
theorem dX5_rankWithListener_89 : decode cX5_rankWithListener 89 = .ok (.ireturn, 1) := by decide +kernel
theorem dX5_rankOfTrial_0 : decode cX5_rankOfTrial 0 = .ok (.aload_n 0, 1) := by decide +kernel
theorem dX5_rankOfTrial_1 : decode cX5_rankOfTrial 1 = .ok (.getfield 50, 3) := by decide +kernel
theorem dX5_rankOfTrial_4 : decode cX5_rankOfTrial 4 = .ok (.aload_n 0, 1) := by decide +kernel
theorem dX5_rankOfTrial_5 : decode cX5_rankOfTrial 5 = .ok (.getfield 26, 3) := by decide +kernel
theorem dX5_rankOfTrial_8 : decode cX5_rankOfTrial 8 = .ok (.invokevirtual 177, 3) := by decide +kernel
theorem dX5_rankOfTrial_11 : decode cX5_rankOfTrial 11 = .ok (.istore_n 1, 1) := by decide +kernel
theorem dX5_rankOfTrial_12 : decode cX5_rankOfTrial 12 = .ok (.aload_n 0, 1) := by decide +kernel
theorem dX5_rankOfTrial_13 : decode cX5_rankOfTrial 13 = .ok (.getfield 50, 3) := by decide +kernel
theorem dX5_rankOfTrial_16 : decode cX5_rankOfTrial 16 = .ok (.getfield 152, 3) := by decide +kernel
theorem dX5_rankOfTrial_19 : decode cX5_rankOfTrial 19 = .ok (.iconst 1, 1) := by decide +kernel
theorem dX5_rankOfTrial_20 : decode cX5_rankOfTrial 20 = .ok (.if_icmp .ne 7, 3) := by decide +kernel
theorem dX5_rankOfTrial_23 : decode cX5_rankOfTrial 23 = .ok (.iload_n 1, 1) := by decide +kernel
theorem dX5_rankOfTrial_24 : decode cX5_rankOfTrial 24 = .ok (.goto 7, 3) := by decide +kernel
theorem dX5_rankOfTrial_27 : decode cX5_rankOfTrial 27 = .ok (.iload_n 1, 1) := by decide +kernel
theorem dX5_rankOfTrial_28 : decode cX5_rankOfTrial 28 = .ok (.bipush 6, 2) := by decide +kernel
theorem dX5_rankOfTrial_30 : decode cX5_rankOfTrial 30 = .ok (.iadd, 1) := by decide +kernel
theorem dX5_rankOfTrial_31 : decode cX5_rankOfTrial 31 = .ok (.ireturn, 1) := by decide +kernel
theorem dX5_fittingSetsWith_0 : decode cX5_fittingSetsWith 0 = .ok (.iconst 0, 1) := by decide +kernel
theorem dX5_fittingSetsWith_1 : decode cX5_fittingSetsWith 1 = .ok (.istore_n 2, 1) := by decide +kernel
theorem dX5_fittingSetsWith_2 : decode cX5_fittingSetsWith 2 = .ok (.iconst 0, 1) := by decide +kernel
theorem dX5_fittingSetsWith_3 : decode cX5_fittingSetsWith 3 = .ok (.istore_n 3, 1) := by decide +kernel
theorem dX5_fittingSetsWith_4 : decode cX5_fittingSetsWith 4 = .ok (.iload_n 3, 1) := by decide +kernel
theorem dX5_fittingSetsWith_5 : decode cX5_fittingSetsWith 5 = .ok (.aload_n 0, 1) := by decide +kernel
theorem dX5_fittingSetsWith_6 : decode cX5_fittingSetsWith 6 = .ok (.getfield 26, 3) := by decide +kernel
theorem dX5_fittingSetsWith_9 : decode cX5_fittingSetsWith 9 = .ok (.invokevirtual 184, 3) := by decide +kernel
theorem dX5_fittingSetsWith_12 : decode cX5_fittingSetsWith 12 = .ok (.if_icmp .gt 27, 3) := by decide +kernel
theorem dX5_fittingSetsWith_15 : decode cX5_fittingSetsWith 15 = .ok (.iload_n 3, 1) := by decide +kernel
theorem dX5_fittingSetsWith_16 : decode cX5_fittingSetsWith 16 = .ok (.iload_n 1, 1) := by decide +kernel
theorem dX5_fittingSetsWith_17 : decode cX5_fittingSetsWith 17 = .ok (.iand, 1) := by decide +kernel
theorem dX5_fittingSetsWith_18 : decode cX5_fittingSetsWith 18 = .ok (.iload_n 1, 1) := by decide +kernel
theorem dX5_fittingSetsWith_19 : decode cX5_fittingSetsWith 19 = .ok (.if_icmp .ne 14, 3) := by decide +kernel
theorem dX5_fittingSetsWith_22 : decode cX5_fittingSetsWith 22 = .ok (.aload_n 0, 1) := by decide +kernel
theorem dX5_fittingSetsWith_23 : decode cX5_fittingSetsWith 23 = .ok (.iload_n 3, 1) := by decide +kernel
theorem dX5_fittingSetsWith_24 : decode cX5_fittingSetsWith 24 = .ok (.invokevirtual 263, 3) := by decide +kernel
theorem dX5_fittingSetsWith_27 : decode cX5_fittingSetsWith 27 = .ok (.ifCond .eq 6, 3) := by decide +kernel
theorem dX5_fittingSetsWith_30 : decode cX5_fittingSetsWith 30 = .ok (.iinc 2 1, 3) := by decide +kernel
theorem dX5_fittingSetsWith_33 : decode cX5_fittingSetsWith 33 = .ok (.iinc 3 1, 3) := by decide +kernel
theorem dX5_fittingSetsWith_36 : decode cX5_fittingSetsWith 36 = .ok (.goto (-32), 3) := by decide +kernel
theorem dX5_fittingSetsWith_39 : decode cX5_fittingSetsWith 39 = .ok (.iload_n 2, 1) := by decide +kernel
theorem dX5_fittingSetsWith_40 : decode cX5_fittingSetsWith 40 = .ok (.ireturn, 1) := by decide +kernel
theorem dX5_isFitting_0 : decode cX5_isFitting 0 = .ok (.aload_n 0, 1) := by decide +kernel
theorem dX5_isFitting_1 : decode cX5_isFitting 1 = .ok (.getfield 50, 3) := by decide +kernel
theorem dX5_isFitting_4 : decode cX5_isFitting 4 = .ok (.aload_n 0, 1) := by decide +kernel
theorem dX5_isFitting_5 : decode cX5_isFitting 5 = .ok (.getfield 33, 3) := by decide +kernel
theorem dX5_isFitting_8 : decode cX5_isFitting 8 = .ok (.invokevirtual 170, 3) := by decide +kernel
theorem dX5_isFitting_11 : decode cX5_isFitting 11 = .ok (.aload_n 0, 1) := by decide +kernel
theorem dX5_isFitting_12 : decode cX5_isFitting 12 = .ok (.getfield 50, 3) := by decide +kernel
theorem dX5_isFitting_15 : decode cX5_isFitting 15 = .ok (.aload_n 0, 1) := by decide +kernel
theorem dX5_isFitting_16 : decode cX5_isFitting 16 = .ok (.getfield 26, 3) := by decide +kernel
theorem dX5_isFitting_19 : decode cX5_isFitting 19 = .ok (.invokevirtual 184, 3) := by decide +kernel
theorem dX5_isFitting_22 : decode cX5_isFitting 22 = .ok (.invokevirtual 78, 3) := by decide +kernel
theorem dX5_isFitting_25 : decode cX5_isFitting 25 = .ok (.aload_n 0, 1) := by decide +kernel
theorem dX5_isFitting_26 : decode cX5_isFitting 26 = .ok (.getfield 50, 3) := by decide +kernel
theorem dX5_isFitting_29 : decode cX5_isFitting 29 = .ok (.iload_n 1, 1) := by decide +kernel
theorem dX5_isFitting_30 : decode cX5_isFitting 30 = .ok (.putfield 257, 3) := by decide +kernel
theorem dX5_isFitting_33 : decode cX5_isFitting 33 = .ok (.iconst 0, 1) := by decide +kernel
theorem dX5_isFitting_34 : decode cX5_isFitting 34 = .ok (.istore_n 2, 1) := by decide +kernel
theorem dX5_isFitting_35 : decode cX5_isFitting 35 = .ok (.iload_n 2, 1) := by decide +kernel
theorem dX5_isFitting_36 : decode cX5_isFitting 36 = .ok (.aload_n 0, 1) := by decide +kernel
theorem dX5_isFitting_37 : decode cX5_isFitting 37 = .ok (.getfield 40, 3) := by decide +kernel
theorem dX5_isFitting_40 : decode cX5_isFitting 40 = .ok (.getfield 77, 3) := by decide +kernel
theorem dX5_isFitting_43 : decode cX5_isFitting 43 = .ok (.if_icmp .ge 53, 3) := by decide +kernel
theorem dX5_isFitting_46 : decode cX5_isFitting 46 = .ok (.aload_n 0, 1) := by decide +kernel
theorem dX5_isFitting_47 : decode cX5_isFitting 47 = .ok (.getfield 50, 3) := by decide +kernel
theorem dX5_isFitting_50 : decode cX5_isFitting 50 = .ok (.getfield 152, 3) := by decide +kernel
theorem dX5_isFitting_53 : decode cX5_isFitting 53 = .ok (.ifCond .ne 21, 3) := by decide +kernel
theorem dX5_isFitting_56 : decode cX5_isFitting 56 = .ok (.aload_n 0, 1) := by decide +kernel
theorem dX5_isFitting_57 : decode cX5_isFitting 57 = .ok (.getfield 50, 3) := by decide +kernel
theorem dX5_isFitting_60 : decode cX5_isFitting 60 = .ok (.aload_n 0, 1) := by decide +kernel
theorem dX5_isFitting_61 : decode cX5_isFitting 61 = .ok (.getfield 19, 3) := by decide +kernel
theorem dX5_isFitting_64 : decode cX5_isFitting 64 = .ok (.aload_n 0, 1) := by decide +kernel
theorem dX5_isFitting_65 : decode cX5_isFitting 65 = .ok (.getfield 26, 3) := by decide +kernel
theorem dX5_isFitting_68 : decode cX5_isFitting 68 = .ok (.invokevirtual 166, 3) := by decide +kernel
theorem dX5_isFitting_71 : decode cX5_isFitting 71 = .ok (.goto 4, 3) := by decide +kernel
theorem dX5_isFitting_74 : decode cX5_isFitting 74 = .ok (.iconst 0, 1) := by decide +kernel
theorem dX5_isFitting_75 : decode cX5_isFitting 75 = .ok (.istore_n 3, 1) := by decide +kernel
theorem dX5_isFitting_76 : decode cX5_isFitting 76 = .ok (.iload_n 3, 1) := by decide +kernel
theorem dX5_isFitting_77 : decode cX5_isFitting 77 = .ok (.aload_n 0, 1) := by decide +kernel
theorem dX5_isFitting_78 : decode cX5_isFitting 78 = .ok (.getfield 40, 3) := by decide +kernel
theorem dX5_isFitting_81 : decode cX5_isFitting 81 = .ok (.iload_n 2, 1) := by decide +kernel
theorem dX5_isFitting_82 : decode cX5_isFitting 82 = .ok (.invokevirtual 266, 3) := by decide +kernel
theorem dX5_isFitting_85 : decode cX5_isFitting 85 = .ok (.if_icmp .eq 5, 3) := by decide +kernel
theorem dX5_isFitting_88 : decode cX5_isFitting 88 = .ok (.iconst 0, 1) := by decide +kernel
theorem dX5_isFitting_89 : decode cX5_isFitting 89 = .ok (.ireturn, 1) := by decide +kernel
theorem dX5_isFitting_90 : decode cX5_isFitting 90 = .ok (.iinc 2 1, 3) := by decide +kernel
theorem dX5_isFitting_93 : decode cX5_isFitting 93 = .ok (.goto (-58), 3) := by decide +kernel
theorem dX5_isFitting_96 : decode cX5_isFitting 96 = .ok (.iconst 1, 1) := by decide +kernel
theorem dX5_isFitting_97 : decode cX5_isFitting 97 = .ok (.ireturn, 1) := by decide +kernel
theorem dX5_isKind_0 : decode cX5_isKind 0 = .ok (.iload_n 0, 1) := by decide +kernel
theorem dX5_isKind_1 : decode cX5_isKind 1 = .ok (.ifCond .lt 12, 3) := by decide +kernel
theorem dX5_isKind_4 : decode cX5_isKind 4 = .ok (.iload_n 0, 1) := by decide +kernel
theorem dX5_isKind_5 : decode cX5_isKind 5 = .ok (.iconst 4, 1) := by decide +kernel
theorem dX5_isKind_6 : decode cX5_isKind 6 = .ok (.if_icmp .gt 7, 3) := by decide +kernel
theorem dX5_isKind_9 : decode cX5_isKind 9 = .ok (.iconst 1, 1) := by decide +kernel
theorem dX5_isKind_10 : decode cX5_isKind 10 = .ok (.goto 4, 3) := by decide +kernel
theorem dX5_isKind_13 : decode cX5_isKind 13 = .ok (.iconst 0, 1) := by decide +kernel
theorem dX5_isKind_14 : decode cX5_isKind 14 = .ok (.ireturn, 1) := by decide +kernel
theorem dX5_asInt_0 : decode cX5_asInt 0 = .ok (.iload_n 0, 1) := by decide +kernel
theorem dX5_asInt_1 : decode cX5_asInt 1 = .ok (.ifCond .eq 7, 3) := by decide +kernel
theorem dX5_asInt_4 : decode cX5_asInt 4 = .ok (.iconst 1, 1) := by decide +kernel
theorem dX5_asInt_5 : decode cX5_asInt 5 = .ok (.goto 4, 3) := by decide +kernel
theorem dX5_asInt_8 : decode cX5_asInt 8 = .ok (.iconst 0, 1) := by decide +kernel
theorem dX5_asInt_9 : decode cX5_asInt 9 = .ok (.ireturn, 1) := by decide +kernel
theorem dX6_init_0 : decode cX6_init 0 = .ok (.aload_n 0, 1) := by decide +kernel
theorem dX6_init_1 : decode cX6_init 1 = .ok (.invokespecial 1, 3) := by decide +kernel
theorem dX6_init_4 : decode cX6_init 4 = .ok (.aload_n 0, 1) := by decide +kernel
theorem dX6_init_5 : decode cX6_init 5 = .ok (.bipush 12, 2) := by decide +kernel
theorem dX6_init_7 : decode cX6_init 7 = .ok (.newarray .int, 2) := by decide +kernel
theorem dX6_init_9 : decode cX6_init 9 = .ok (.putfield 7, 3) := by decide +kernel
theorem dX6_init_12 : decode cX6_init 12 = .ok (.aload_n 0, 1) := by decide +kernel
theorem dX6_init_13 : decode cX6_init 13 = .ok (.bipush 12, 2) := by decide +kernel
theorem dX6_init_15 : decode cX6_init 15 = .ok (.newarray .int, 2) := by decide +kernel
theorem dX6_init_17 : decode cX6_init 17 = .ok (.putfield 13, 3) := by decide +kernel
theorem dX6_init_20 : decode cX6_init 20 = .ok (.aload_n 0, 1) := by decide +kernel
theorem dX6_init_21 : decode cX6_init 21 = .ok (.iconst 5, 1) := by decide +kernel
theorem dX6_init_22 : decode cX6_init 22 = .ok (.newarray .int, 2) := by decide +kernel
theorem dX6_init_24 : decode cX6_init 24 = .ok (.putfield 16, 3) := by decide +kernel
theorem dX6_init_27 : decode cX6_init 27 = .ok (.aload_n 0, 1) := by decide +kernel
theorem dX6_init_28 : decode cX6_init 28 = .ok (.iconst 5, 1) := by decide +kernel
theorem dX6_init_29 : decode cX6_init 29 = .ok (.newarray .int, 2) := by decide +kernel
theorem dX6_init_31 : decode cX6_init 31 = .ok (.putfield 19, 3) := by decide +kernel
theorem dX6_init_34 : decode cX6_init 34 = .ok (.aload_n 0, 1) := by decide +kernel
theorem dX6_init_35 : decode cX6_init 35 = .ok (.iconst 5, 1) := by decide +kernel
theorem dX6_init_36 : decode cX6_init 36 = .ok (.newarray .int, 2) := by decide +kernel
theorem dX6_init_38 : decode cX6_init 38 = .ok (.putfield 22, 3) := by decide +kernel
theorem dX6_init_41 : decode cX6_init 41 = .ok (.aload_n 0, 1) := by decide +kernel
theorem dX6_init_42 : decode cX6_init 42 = .ok (.iconst 5, 1) := by decide +kernel
theorem dX6_init_43 : decode cX6_init 43 = .ok (.newarray .int, 2) := by decide +kernel
theorem dX6_init_45 : decode cX6_init 45 = .ok (.putfield 25, 3) := by decide +kernel
theorem dX6_init_48 : decode cX6_init 48 = .ok (.aload_n 0, 1) := by decide +kernel
theorem dX6_init_49 : decode cX6_init 49 = .ok (.bipush 8, 2) := by decide +kernel
theorem dX6_init_51 : decode cX6_init 51 = .ok (.newarray .int, 2) := by decide +kernel
theorem dX6_init_53 : decode cX6_init 53 = .ok (.putfield 28, 3) := by decide +kernel
theorem dX6_init_56 : decode cX6_init 56 = .ok (.aload_n 0, 1) := by decide +kernel
theorem dX6_init_57 : decode cX6_init 57 = .ok (.bipush 30, 2) := by decide +kernel
theorem dX6_init_59 : decode cX6_init 59 = .ok (.newarray .byte, 2) := by decide +kernel
theorem dX6_init_61 : decode cX6_init 61 = .ok (.putfield 31, 3) := by decide +kernel
theorem dX6_init_64 : decode cX6_init 64 = .ok (.aload_n 0, 1) := by decide +kernel
theorem dX6_init_65 : decode cX6_init 65 = .ok (.bipush 12, 2) := by decide +kernel
theorem dX6_init_67 : decode cX6_init 67 = .ok (.newarray .int, 2) := by decide +kernel
theorem dX6_init_69 : decode cX6_init 69 = .ok (.putfield 35, 3) := by decide +kernel
theorem dX6_init_72 : decode cX6_init 72 = .ok (.aload_n 0, 1) := by decide +kernel
theorem dX6_init_73 : decode cX6_init 73 = .ok (.bipush 12, 2) := by decide +kernel
theorem dX6_init_75 : decode cX6_init 75 = .ok (.newarray .int, 2) := by decide +kernel
theorem dX6_init_77 : decode cX6_init 77 = .ok (.putfield 38, 3) := by decide +kernel
theorem dX6_init_80 : decode cX6_init 80 = .ok (.aload_n 0, 1) := by decide +kernel
theorem dX6_init_81 : decode cX6_init 81 = .ok (.iconst 5, 1) := by decide +kernel
theorem dX6_init_82 : decode cX6_init 82 = .ok (.newarray .int, 2) := by decide +kernel
theorem dX6_init_84 : decode cX6_init 84 = .ok (.putfield 41, 3) := by decide +kernel
theorem dX6_init_87 : decode cX6_init 87 = .ok (.aload_n 0, 1) := by decide +kernel
theorem dX6_init_88 : decode cX6_init 88 = .ok (.bipush 12, 2) := by decide +kernel
theorem dX6_init_90 : decode cX6_init 90 = .ok (.newarray .int, 2) := by decide +kernel
theorem dX6_init_92 : decode cX6_init 92 = .ok (.putfield 44, 3) := by decide +kernel
theorem dX6_init_95 : decode cX6_init 95 = .ok (.aload_n 0, 1) := by decide +kernel
theorem dX6_init_96 : decode cX6_init 96 = .ok (.iconst 5, 1) := by decide +kernel
theorem dX6_init_97 : decode cX6_init 97 = .ok (.newarray .int, 2) := by decide +kernel
theorem dX6_init_99 : decode cX6_init 99 = .ok (.putfield 47, 3) := by decide +kernel
theorem dX6_init_102 : decode cX6_init 102 = .ok (.aload_n 0, 1) := by decide +kernel
theorem dX6_init_103 : decode cX6_init 103 = .ok (.iconst 5, 1) := by decide +kernel
theorem dX6_init_104 : decode cX6_init 104 = .ok (.newarray .int, 2) := by decide +kernel
theorem dX6_init_106 : decode cX6_init 106 = .ok (.putfield 50, 3) := by decide +kernel
theorem dX6_init_109 : decode cX6_init 109 = .ok (.aload_n 0, 1) := by decide +kernel
theorem dX6_init_110 : decode cX6_init 110 = .ok (.bipush 8, 2) := by decide +kernel
theorem dX6_init_112 : decode cX6_init 112 = .ok (.newarray .int, 2) := by decide +kernel
theorem dX6_init_114 : decode cX6_init 114 = .ok (.putfield 53, 3) := by decide +kernel
theorem dX6_init_117 : decode cX6_init 117 = .ok (.return_, 1) := by decide +kernel
theorem dX6_within_0 : decode cX6_within 0 = .ok (.iload_n 0, 1) := by decide +kernel
theorem dX6_within_1 : decode cX6_within 1 = .ok (.iload_n 1, 1) := by decide +kernel
theorem dX6_within_2 : decode cX6_within 2 = .ok (.if_icmp .lt 12, 3) := by decide +kernel
theorem dX6_within_5 : decode cX6_within 5 = .ok (.iload_n 0, 1) := by decide +kernel
theorem dX6_within_6 : decode cX6_within 6 = .ok (.iload_n 2, 1) := by decide +kernel
theorem dX6_within_7 : decode cX6_within 7 = .ok (.if_icmp .gt 7, 3) := by decide +kernel
theorem dX6_within_10 : decode cX6_within 10 = .ok (.iconst 1, 1) := by decide +kernel
theorem dX6_within_11 : decode cX6_within 11 = .ok (.goto 4, 3) := by decide +kernel
theorem dX6_within_14 : decode cX6_within 14 = .ok (.iconst 0, 1) := by decide +kernel
theorem dX6_within_15 : decode cX6_within 15 = .ok (.ireturn, 1) := by decide +kernel
theorem dX6_has_0 : decode cX6_has 0 = .ok (.iload_n 0, 1) := by decide +kernel
theorem dX6_has_1 : decode cX6_has 1 = .ok (.iload_n 1, 1) := by decide +kernel
theorem dX6_has_2 : decode cX6_has 2 = .ok (.ishr, 1) := by decide +kernel
theorem dX6_has_3 : decode cX6_has 3 = .ok (.iconst 1, 1) := by decide +kernel
theorem dX6_has_4 : decode cX6_has 4 = .ok (.iand, 1) := by decide +kernel
theorem dX6_has_5 : decode cX6_has 5 = .ok (.iconst 1, 1) := by decide +kernel
theorem dX6_has_6 : decode cX6_has 6 = .ok (.if_icmp .ne 7, 3) := by decide +kernel
theorem dX6_has_9 : decode cX6_has 9 = .ok (.iconst 1, 1) := by decide +kernel
theorem dX6_has_10 : decode cX6_has 10 = .ok (.goto 4, 3) := by decide +kernel
theorem dX6_has_13 : decode cX6_has 13 = .ok (.iconst 0, 1) := by decide +kernel
theorem dX6_has_14 : decode cX6_has 14 = .ok (.ireturn, 1) := by decide +kernel
theorem dX6_size_0 : decode cX6_size 0 = .ok (.iconst 0, 1) := by decide +kernel
theorem dX6_size_1 : decode cX6_size 1 = .ok (.istore_n 1, 1) := by decide +kernel
theorem dX6_size_2 : decode cX6_size 2 = .ok (.iconst 0, 1) := by decide +kernel
theorem dX6_size_3 : decode cX6_size 3 = .ok (.istore_n 2, 1) := by decide +kernel
theorem dX6_size_4 : decode cX6_size 4 = .ok (.iload_n 2, 1) := by decide +kernel
theorem dX6_size_5 : decode cX6_size 5 = .ok (.iconst 5, 1) := by decide +kernel
theorem dX6_size_6 : decode cX6_size 6 = .ok (.if_icmp .ge 17, 3) := by decide +kernel
theorem dX6_size_9 : decode cX6_size 9 = .ok (.iload_n 1, 1) := by decide +kernel
theorem dX6_size_10 : decode cX6_size 10 = .ok (.iload_n 0, 1) := by decide +kernel
theorem dX6_size_11 : decode cX6_size 11 = .ok (.iload_n 2, 1) := by decide +kernel
theorem dX6_size_12 : decode cX6_size 12 = .ok (.ishr, 1) := by decide +kernel
theorem dX6_size_13 : decode cX6_size 13 = .ok (.iconst 1, 1) := by decide +kernel
theorem dX6_size_14 : decode cX6_size 14 = .ok (.iand, 1) := by decide +kernel
theorem dX6_size_15 : decode cX6_size 15 = .ok (.iadd, 1) := by decide +kernel
theorem dX6_size_16 : decode cX6_size 16 = .ok (.istore_n 1, 1) := by decide +kernel
theorem dX6_size_17 : decode cX6_size 17 = .ok (.iinc 2 1, 3) := by decide +kernel
theorem dX6_size_20 : decode cX6_size 20 = .ok (.goto (-16), 3) := by decide +kernel
theorem dX6_size_23 : decode cX6_size 23 = .ok (.iload_n 1, 1) := by decide +kernel
theorem dX6_size_24 : decode cX6_size 24 = .ok (.ireturn, 1) := by decide +kernel
theorem dX6_letter_0 : decode cX6_letter 0 = .ok (.iload_n 1, 1) := by decide +kernel
theorem dX6_letter_1 : decode cX6_letter 1 = .ok (.bipush 32, 2) := by decide +kernel
theorem dX6_letter_3 : decode cX6_letter 3 = .ok (.bipush 126, 2) := by decide +kernel
theorem dX6_letter_5 : decode cX6_letter 5 = .ok (.invokestatic 56, 3) := by decide +kernel
theorem dX6_letter_8 : decode cX6_letter 8 = .ok (.ifCond .ne 6, 3) := by decide +kernel
theorem dX6_letter_11 : decode cX6_letter 11 = .ok (.bipush (-102), 2) := by decide +kernel
theorem dX6_letter_13 : decode cX6_letter 13 = .ok (.ireturn, 1) := by decide +kernel
theorem dX6_letter_14 : decode cX6_letter 14 = .ok (.aload_n 0, 1) := by decide +kernel
theorem dX6_letter_15 : decode cX6_letter 15 = .ok (.getfield 60, 3) := by decide +kernel
theorem dX6_letter_18 : decode cX6_letter 18 = .ok (.bipush 30, 2) := by decide +kernel
theorem dX6_letter_20 : decode cX6_letter 20 = .ok (.if_icmp .ne 6, 3) := by decide +kernel
theorem dX6_letter_23 : decode cX6_letter 23 = .ok (.bipush (-104), 2) := by decide +kernel
theorem dX6_letter_25 : decode cX6_letter 25 = .ok (.ireturn, 1) := by decide +kernel
theorem dX6_letter_26 : decode cX6_letter 26 = .ok (.aload_n 0, 1) := by decide +kernel
theorem dX6_letter_27 : decode cX6_letter 27 = .ok (.getfield 31, 3) := by decide +kernel
theorem dX6_letter_30 : decode cX6_letter 30 = .ok (.aload_n 0, 1) := by decide +kernel
theorem dX6_letter_31 : decode cX6_letter 31 = .ok (.getfield 60, 3) := by decide +kernel
theorem dX6_letter_34 : decode cX6_letter 34 = .ok (.iload_n 1, 1) := by decide +kernel
theorem dX6_letter_35 : decode cX6_letter 35 = .ok (.i2b, 1) := by decide +kernel
theorem dX6_letter_36 : decode cX6_letter 36 = .ok (.bastore, 1) := by decide +kernel
theorem dX6_letter_37 : decode cX6_letter 37 = .ok (.aload_n 0, 1) := by decide +kernel
theorem dX6_letter_38 : decode cX6_letter 38 = .ok (.dup, 1) := by decide +kernel
theorem dX6_letter_39 : decode cX6_letter 39 = .ok (.getfield 60, 3) := by decide +kernel
theorem dX6_letter_42 : decode cX6_letter 42 = .ok (.iconst 1, 1) := by decide +kernel
theorem dX6_letter_43 : decode cX6_letter 43 = .ok (.iadd, 1) := by decide +kernel
theorem dX6_letter_44 : decode cX6_letter 44 = .ok (.putfield 60, 3) := by decide +kernel
theorem dX6_letter_47 : decode cX6_letter 47 = .ok (.aload_n 0, 1) := by decide +kernel
theorem dX6_letter_48 : decode cX6_letter 48 = .ok (.getfield 60, 3) := by decide +kernel
theorem dX6_letter_51 : decode cX6_letter 51 = .ok (.ireturn, 1) := by decide +kernel
theorem dX6_blank_0 : decode cX6_blank 0 = .ok (.aload_n 0, 1) := by decide +kernel
theorem dX6_blank_1 : decode cX6_blank 1 = .ok (.getfield 60, 3) := by decide +kernel
theorem dX6_blank_4 : decode cX6_blank 4 = .ok (.istore_n 1, 1) := by decide +kernel
theorem dX6_blank_5 : decode cX6_blank 5 = .ok (.aload_n 0, 1) := by decide +kernel
theorem dX6_blank_6 : decode cX6_blank 6 = .ok (.iconst 0, 1) := by decide +kernel
theorem dX6_blank_7 : decode cX6_blank 7 = .ok (.putfield 60, 3) := by decide +kernel
theorem dX6_blank_10 : decode cX6_blank 10 = .ok (.iload_n 1, 1) := by decide +kernel
theorem dX6_blank_11 : decode cX6_blank 11 = .ok (.ireturn, 1) := by decide +kernel
theorem dX6_nextState_0 : decode cX6_nextState 0 = .ok (.iload_n 2, 1) := by decide +kernel
theorem dX6_nextState_1 : decode cX6_nextState 1 = .ok (.bipush 48, 2) := by decide +kernel
theorem dX6_nextState_3 : decode cX6_nextState 3 = .ok (.isub, 1) := by decide +kernel
theorem dX6_nextState_4 : decode cX6_nextState 4 = .ok (.istore_n 3, 1) := by decide +kernel
theorem dX6_nextState_5 : decode cX6_nextState 5 = .ok (.iload_n 1, 1) := by decide +kernel
theorem dX6_nextState_6 : decode cX6_nextState 6 = .ok (.tableswitch 161 0 6 #[42, 65, 100, 121, 161, 161, 133], 42) := by decide +kernel
theorem dX6_nextState_48 : decode cX6_nextState 48 = .ok (.aload_n 0, 1) := by decide +kernel
theorem dX6_nextState_49 : decode cX6_nextState 49 = .ok (.bipush 10, 2) := by decide +kernel
theorem dX6_nextState_51 : decode cX6_nextState 51 = .ok (.iload_n 3, 1) := by decide +kernel
theorem dX6_nextState_52 : decode cX6_nextState 52 = .ok (.imul, 1) := by decide +kernel
theorem dX6_nextState_53 : decode cX6_nextState 53 = .ok (.putfield 64, 3) := by decide +kernel
theorem dX6_nextState_56 : decode cX6_nextState 56 = .ok (.iload_n 3, 1) := by decide +kernel
theorem dX6_nextState_57 : decode cX6_nextState 57 = .ok (.iconst 0, 1) := by decide +kernel
theorem dX6_nextState_58 : decode cX6_nextState 58 = .ok (.iconst 4, 1) := by decide +kernel
theorem dX6_nextState_59 : decode cX6_nextState 59 = .ok (.invokestatic 56, 3) := by decide +kernel
theorem dX6_nextState_62 : decode cX6_nextState 62 = .ok (.ifCond .eq 7, 3) := by decide +kernel
theorem dX6_nextState_65 : decode cX6_nextState 65 = .ok (.iconst 1, 1) := by decide +kernel
theorem dX6_nextState_66 : decode cX6_nextState 66 = .ok (.goto 4, 3) := by decide +kernel
theorem dX6_nextState_69 : decode cX6_nextState 69 = .ok (.iconst (-1), 1) := by decide +kernel
theorem dX6_nextState_70 : decode cX6_nextState 70 = .ok (.ireturn, 1) := by decide +kernel
theorem dX6_nextState_71 : decode cX6_nextState 71 = .ok (.aload_n 0, 1) := by decide +kernel
theorem dX6_nextState_72 : decode cX6_nextState 72 = .ok (.dup, 1) := by decide +kernel
theorem dX6_nextState_73 : decode cX6_nextState 73 = .ok (.getfield 64, 3) := by decide +kernel
theorem dX6_nextState_76 : decode cX6_nextState 76 = .ok (.iload_n 3, 1) := by decide +kernel
theorem dX6_nextState_77 : decode cX6_nextState 77 = .ok (.iadd, 1) := by decide +kernel
theorem dX6_nextState_78 : decode cX6_nextState 78 = .ok (.putfield 64, 3) := by decide +kernel
theorem dX6_nextState_81 : decode cX6_nextState 81 = .ok (.iload_n 3, 1) := by decide +kernel
theorem dX6_nextState_82 : decode cX6_nextState 82 = .ok (.iconst 0, 1) := by decide +kernel
theorem dX6_nextState_83 : decode cX6_nextState 83 = .ok (.bipush 9, 2) := by decide +kernel
theorem dX6_nextState_85 : decode cX6_nextState 85 = .ok (.invokestatic 56, 3) := by decide +kernel
theorem dX6_nextState_88 : decode cX6_nextState 88 = .ok (.ifCond .eq 16, 3) := by decide +kernel
theorem dX6_nextState_91 : decode cX6_nextState 91 = .ok (.aload_n 0, 1) := by decide +kernel
theorem dX6_nextState_92 : decode cX6_nextState 92 = .ok (.getfield 64, 3) := by decide +kernel
theorem dX6_nextState_95 : decode cX6_nextState 95 = .ok (.bipush 45, 2) := by decide +kernel
theorem dX6_nextState_97 : decode cX6_nextState 97 = .ok (.if_icmp .gt 7, 3) := by decide +kernel
theorem dX6_nextState_100 : decode cX6_nextState 100 = .ok (.iconst 2, 1) := by decide +kernel
theorem dX6_nextState_101 : decode cX6_nextState 101 = .ok (.goto 4, 3) := by decide +kernel
theorem dX6_nextState_104 : decode cX6_nextState 104 = .ok (.iconst (-1), 1) := by decide +kernel
theorem dX6_nextState_105 : decode cX6_nextState 105 = .ok (.ireturn, 1) := by decide +kernel
theorem dX6_nextState_106 : decode cX6_nextState 106 = .ok (.aload_n 0, 1) := by decide +kernel
theorem dX6_nextState_107 : decode cX6_nextState 107 = .ok (.iload_n 3, 1) := by decide +kernel
theorem dX6_nextState_108 : decode cX6_nextState 108 = .ok (.putfield 67, 3) := by decide +kernel
theorem dX6_nextState_111 : decode cX6_nextState 111 = .ok (.iload_n 3, 1) := by decide +kernel
theorem dX6_nextState_112 : decode cX6_nextState 112 = .ok (.iconst 1, 1) := by decide +kernel
theorem dX6_nextState_113 : decode cX6_nextState 113 = .ok (.bipush 9, 2) := by decide +kernel
theorem dX6_nextState_115 : decode cX6_nextState 115 = .ok (.invokestatic 56, 3) := by decide +kernel
theorem dX6_nextState_118 : decode cX6_nextState 118 = .ok (.ifCond .eq 7, 3) := by decide +kernel
theorem dX6_nextState_121 : decode cX6_nextState 121 = .ok (.iconst 3, 1) := by decide +kernel
theorem dX6_nextState_122 : decode cX6_nextState 122 = .ok (.goto 4, 3) := by decide +kernel
theorem dX6_nextState_125 : decode cX6_nextState 125 = .ok (.iconst (-1), 1) := by decide +kernel
theorem dX6_nextState_126 : decode cX6_nextState 126 = .ok (.ireturn, 1) := by decide +kernel
theorem dX6_nextState_127 : decode cX6_nextState 127 = .ok (.iload_n 2, 1) := by decide +kernel
theorem dX6_nextState_128 : decode cX6_nextState 128 = .ok (.bipush 58, 2) := by decide +kernel
theorem dX6_nextState_130 : decode cX6_nextState 130 = .ok (.if_icmp .ne 7, 3) := by decide +kernel
theorem dX6_nextState_133 : decode cX6_nextState 133 = .ok (.iconst 4, 1) := by decide +kernel
theorem dX6_nextState_134 : decode cX6_nextState 134 = .ok (.goto 4, 3) := by decide +kernel
theorem dX6_nextState_137 : decode cX6_nextState 137 = .ok (.iconst (-1), 1) := by decide +kernel
theorem dX6_nextState_138 : decode cX6_nextState 138 = .ok (.ireturn, 1) := by decide +kernel
theorem dX6_nextState_139 : decode cX6_nextState 139 = .ok (.aload_n 0, 1) := by decide +kernel
theorem dX6_nextState_140 : decode cX6_nextState 140 = .ok (.getfield 35, 3) := by decide +kernel
theorem dX6_nextState_143 : decode cX6_nextState 143 = .ok (.aload_n 0, 1) := by decide +kernel
theorem dX6_nextState_144 : decode cX6_nextState 144 = .ok (.getfield 70, 3) := by decide +kernel
theorem dX6_nextState_147 : decode cX6_nextState 147 = .ok (.iconst 1, 1) := by decide +kernel
theorem dX6_nextState_148 : decode cX6_nextState 148 = .ok (.isub, 1) := by decide +kernel
theorem dX6_nextState_149 : decode cX6_nextState 149 = .ok (.iload_n 3, 1) := by decide +kernel
theorem dX6_nextState_150 : decode cX6_nextState 150 = .ok (.iastore, 1) := by decide +kernel
theorem dX6_nextState_151 : decode cX6_nextState 151 = .ok (.iload_n 3, 1) := by decide +kernel
theorem dX6_nextState_152 : decode cX6_nextState 152 = .ok (.iconst 1, 1) := by decide +kernel
theorem dX6_nextState_153 : decode cX6_nextState 153 = .ok (.bipush 9, 2) := by decide +kernel
theorem dX6_nextState_155 : decode cX6_nextState 155 = .ok (.invokestatic 56, 3) := by decide +kernel
theorem dX6_nextState_158 : decode cX6_nextState 158 = .ok (.ifCond .eq 7, 3) := by decide +kernel
theorem dX6_nextState_161 : decode cX6_nextState 161 = .ok (.iconst 5, 1) := by decide +kernel
theorem dX6_nextState_162 : decode cX6_nextState 162 = .ok (.goto 4, 3) := by decide +kernel
theorem dX6_nextState_165 : decode cX6_nextState 165 = .ok (.iconst (-1), 1) := by decide +kernel
theorem dX6_nextState_166 : decode cX6_nextState 166 = .ok (.ireturn, 1) := by decide +kernel
theorem dX6_nextState_167 : decode cX6_nextState 167 = .ok (.aload_n 0, 1) := by decide +kernel
theorem dX6_nextState_168 : decode cX6_nextState 168 = .ok (.getfield 70, 3) := by decide +kernel
theorem dX6_nextState_171 : decode cX6_nextState 171 = .ok (.bipush 12, 2) := by decide +kernel
theorem dX6_nextState_173 : decode cX6_nextState 173 = .ok (.if_icmp .ge 11, 3) := by decide +kernel
theorem dX6_nextState_176 : decode cX6_nextState 176 = .ok (.aload_n 0, 1) := by decide +kernel
theorem dX6_nextState_177 : decode cX6_nextState 177 = .ok (.iload_n 2, 1) := by decide +kernel
theorem dX6_nextState_178 : decode cX6_nextState 178 = .ok (.invokevirtual 73, 3) := by decide +kernel
theorem dX6_nextState_181 : decode cX6_nextState 181 = .ok (.goto 4, 3) := by decide +kernel
theorem dX6_nextState_184 : decode cX6_nextState 184 = .ok (.iconst (-1), 1) := by decide +kernel
theorem dX6_nextState_185 : decode cX6_nextState 185 = .ok (.ireturn, 1) := by decide +kernel
theorem dX6_placeState_0 : decode cX6_placeState 0 = .ok (.iload_n 1, 1) := by decide +kernel
theorem dX6_placeState_1 : decode cX6_placeState 1 = .ok (.bipush 115, 2) := by decide +kernel
theorem dX6_placeState_3 : decode cX6_placeState 3 = .ok (.if_icmp .eq 9, 3) := by decide +kernel
theorem dX6_placeState_6 : decode cX6_placeState 6 = .ok (.iload_n 1, 1) := by decide +kernel
theorem dX6_placeState_7 : decode cX6_placeState 7 = .ok (.bipush 98, 2) := by decide +kernel
theorem dX6_placeState_9 : decode cX6_placeState 9 = .ok (.if_icmp .ne 7, 3) := by decide +kernel
theorem dX6_placeState_12 : decode cX6_placeState 12 = .ok (.iconst 1, 1) := by decide +kernel
theorem dX6_placeState_13 : decode cX6_placeState 13 = .ok (.goto 4, 3) := by decide +kernel
theorem dX6_placeState_16 : decode cX6_placeState 16 = .ok (.iconst 0, 1) := by decide +kernel
theorem dX6_placeState_17 : decode cX6_placeState 17 = .ok (.istore_n 2, 1) := by decide +kernel
theorem dX6_placeState_18 : decode cX6_placeState 18 = .ok (.iload_n 2, 1) := by decide +kernel
theorem dX6_placeState_19 : decode cX6_placeState 19 = .ok (.ifCond .ne 23, 3) := by decide +kernel
theorem dX6_placeState_22 : decode cX6_placeState 22 = .ok (.iload_n 1, 1) := by decide +kernel
theorem dX6_placeState_23 : decode cX6_placeState 23 = .ok (.bipush 46, 2) := by decide +kernel
theorem dX6_placeState_25 : decode cX6_placeState 25 = .ok (.if_icmp .eq 17, 3) := by decide +kernel
theorem dX6_placeState_28 : decode cX6_placeState 28 = .ok (.iload_n 1, 1) := by decide +kernel
theorem dX6_placeState_29 : decode cX6_placeState 29 = .ok (.bipush 114, 2) := by decide +kernel
theorem dX6_placeState_31 : decode cX6_placeState 31 = .ok (.if_icmp .eq 11, 3) := by decide +kernel
theorem dX6_placeState_34 : decode cX6_placeState 34 = .ok (.iload_n 1, 1) := by decide +kernel
theorem dX6_placeState_35 : decode cX6_placeState 35 = .ok (.bipush 101, 2) := by decide +kernel
theorem dX6_placeState_37 : decode cX6_placeState 37 = .ok (.if_icmp .eq 5, 3) := by decide +kernel
theorem dX6_placeState_40 : decode cX6_placeState 40 = .ok (.iconst (-1), 1) := by decide +kernel
theorem dX6_placeState_41 : decode cX6_placeState 41 = .ok (.ireturn, 1) := by decide +kernel
theorem dX6_placeState_42 : decode cX6_placeState 42 = .ok (.aload_n 0, 1) := by decide +kernel
theorem dX6_placeState_43 : decode cX6_placeState 43 = .ok (.getfield 35, 3) := by decide +kernel
theorem dX6_placeState_46 : decode cX6_placeState 46 = .ok (.aload_n 0, 1) := by decide +kernel
theorem dX6_placeState_47 : decode cX6_placeState 47 = .ok (.getfield 70, 3) := by decide +kernel
theorem dX6_placeState_50 : decode cX6_placeState 50 = .ok (.iconst 0, 1) := by decide +kernel
theorem dX6_placeState_51 : decode cX6_placeState 51 = .ok (.iastore, 1) := by decide +kernel
theorem dX6_placeState_52 : decode cX6_placeState 52 = .ok (.aload_n 0, 1) := by decide +kernel
theorem dX6_placeState_53 : decode cX6_placeState 53 = .ok (.getfield 38, 3) := by decide +kernel
theorem dX6_placeState_56 : decode cX6_placeState 56 = .ok (.aload_n 0, 1) := by decide +kernel
theorem dX6_placeState_57 : decode cX6_placeState 57 = .ok (.getfield 70, 3) := by decide +kernel
theorem dX6_placeState_60 : decode cX6_placeState 60 = .ok (.iload_n 1, 1) := by decide +kernel
theorem dX6_placeState_61 : decode cX6_placeState 61 = .ok (.bipush 114, 2) := by decide +kernel
theorem dX6_placeState_63 : decode cX6_placeState 63 = .ok (.if_icmp .eq 9, 3) := by decide +kernel
theorem dX6_placeState_66 : decode cX6_placeState 66 = .ok (.iload_n 1, 1) := by decide +kernel
theorem dX6_placeState_67 : decode cX6_placeState 67 = .ok (.bipush 98, 2) := by decide +kernel
theorem dX6_placeState_69 : decode cX6_placeState 69 = .ok (.if_icmp .ne 7, 3) := by decide +kernel
theorem dX6_placeState_72 : decode cX6_placeState 72 = .ok (.iconst 1, 1) := by decide +kernel
theorem dX6_placeState_73 : decode cX6_placeState 73 = .ok (.goto 14, 3) := by decide +kernel
theorem dX6_placeState_76 : decode cX6_placeState 76 = .ok (.iload_n 1, 1) := by decide +kernel
theorem dX6_placeState_77 : decode cX6_placeState 77 = .ok (.bipush 101, 2) := by decide +kernel
theorem dX6_placeState_79 : decode cX6_placeState 79 = .ok (.if_icmp .ne 7, 3) := by decide +kernel
theorem dX6_placeState_82 : decode cX6_placeState 82 = .ok (.iconst 2, 1) := by decide +kernel
theorem dX6_placeState_83 : decode cX6_placeState 83 = .ok (.goto 4, 3) := by decide +kernel
theorem dX6_placeState_86 : decode cX6_placeState 86 = .ok (.iconst 0, 1) := by decide +kernel
theorem dX6_placeState_87 : decode cX6_placeState 87 = .ok (.iastore, 1) := by decide +kernel
theorem dX6_placeState_88 : decode cX6_placeState 88 = .ok (.aload_n 0, 1) := by decide +kernel
theorem dX6_placeState_89 : decode cX6_placeState 89 = .ok (.dup, 1) := by decide +kernel
theorem dX6_placeState_90 : decode cX6_placeState 90 = .ok (.getfield 70, 3) := by decide +kernel
theorem dX6_placeState_93 : decode cX6_placeState 93 = .ok (.iconst 1, 1) := by decide +kernel
theorem dX6_placeState_94 : decode cX6_placeState 94 = .ok (.iadd, 1) := by decide +kernel
theorem dX6_placeState_95 : decode cX6_placeState 95 = .ok (.putfield 70, 3) := by decide +kernel
theorem dX6_placeState_98 : decode cX6_placeState 98 = .ok (.iload_n 2, 1) := by decide +kernel
theorem dX6_placeState_99 : decode cX6_placeState 99 = .ok (.ifCond .eq 8, 3) := by decide +kernel
theorem dX6_placeState_102 : decode cX6_placeState 102 = .ok (.bipush 6, 2) := by decide +kernel
theorem dX6_placeState_104 : decode cX6_placeState 104 = .ok (.goto 4, 3) := by decide +kernel
theorem dX6_placeState_107 : decode cX6_placeState 107 = .ok (.iconst 5, 1) := by decide +kernel
theorem dX6_placeState_108 : decode cX6_placeState 108 = .ok (.ireturn, 1) := by decide +kernel
theorem dX6_readPassage_0 : decode cX6_readPassage 0 = .ok (.aload_n 0, 1) := by decide +kernel
theorem dX6_readPassage_1 : decode cX6_readPassage 1 = .ok (.iconst 0, 1) := by decide +kernel
theorem dX6_readPassage_2 : decode cX6_readPassage 2 = .ok (.putfield 70, 3) := by decide +kernel
theorem dX6_readPassage_5 : decode cX6_readPassage 5 = .ok (.iconst 0, 1) := by decide +kernel
theorem dX6_readPassage_6 : decode cX6_readPassage 6 = .ok (.istore_n 1, 1) := by decide +kernel
theorem dX6_readPassage_7 : decode cX6_readPassage 7 = .ok (.iconst 0, 1) := by decide +kernel
theorem dX6_readPassage_8 : decode cX6_readPassage 8 = .ok (.istore_n 2, 1) := by decide +kernel
theorem dX6_readPassage_9 : decode cX6_readPassage 9 = .ok (.iconst 1, 1) := by decide +kernel
theorem dX6_readPassage_10 : decode cX6_readPassage 10 = .ok (.istore_n 3, 1) := by decide +kernel
theorem dX6_readPassage_11 : decode cX6_readPassage 11 = .ok (.iload_n 2, 1) := by decide +kernel
theorem dX6_readPassage_12 : decode cX6_readPassage 12 = .ok (.aload_n 0, 1) := by decide +kernel
theorem dX6_readPassage_13 : decode cX6_readPassage 13 = .ok (.getfield 60, 3) := by decide +kernel
theorem dX6_readPassage_16 : decode cX6_readPassage 16 = .ok (.if_icmp .ge 58, 3) := by decide +kernel
theorem dX6_readPassage_19 : decode cX6_readPassage 19 = .ok (.iload_n 3, 1) := by decide +kernel
theorem dX6_readPassage_20 : decode cX6_readPassage 20 = .ok (.ifCond .eq 54, 3) := by decide +kernel
theorem dX6_readPassage_23 : decode cX6_readPassage 23 = .ok (.aload_n 0, 1) := by decide +kernel
theorem dX6_readPassage_24 : decode cX6_readPassage 24 = .ok (.iload_n 1, 1) := by decide +kernel
theorem dX6_readPassage_25 : decode cX6_readPassage 25 = .ok (.aload_n 0, 1) := by decide +kernel
theorem dX6_readPassage_26 : decode cX6_readPassage 26 = .ok (.getfield 31, 3) := by decide +kernel
theorem dX6_readPassage_29 : decode cX6_readPassage 29 = .ok (.iload_n 2, 1) := by decide +kernel
theorem dX6_readPassage_30 : decode cX6_readPassage 30 = .ok (.baload, 1) := by decide +kernel
theorem dX6_readPassage_31 : decode cX6_readPassage 31 = .ok (.invokevirtual 77, 3) := by decide +kernel
theorem dX6_readPassage_34 : decode cX6_readPassage 34 = .ok (.istore 4, 2) := by decide +kernel
theorem dX6_readPassage_36 : decode cX6_readPassage 36 = .ok (.iload 4, 2) := by decide +kernel
theorem dX6_readPassage_38 : decode cX6_readPassage 38 = .ok (.iconst (-1), 1) := by decide +kernel
theorem dX6_readPassage_39 : decode cX6_readPassage 39 = .ok (.if_icmp .eq 7, 3) := by decide +kernel
theorem dX6_readPassage_42 : decode cX6_readPassage 42 = .ok (.iconst 1, 1) := by decide +kernel
theorem dX6_readPassage_43 : decode cX6_readPassage 43 = .ok (.goto 4, 3) := by decide +kernel
theorem dX6_readPassage_46 : decode cX6_readPassage 46 = .ok (.iconst 0, 1) := by decide +kernel
theorem dX6_readPassage_47 : decode cX6_readPassage 47 = .ok (.istore_n 3, 1) := by decide +kernel
theorem dX6_readPassage_48 : decode cX6_readPassage 48 = .ok (.iload_n 3, 1) := by decide +kernel
theorem dX6_readPassage_49 : decode cX6_readPassage 49 = .ok (.ifCond .eq 8, 3) := by decide +kernel
theorem dX6_readPassage_52 : decode cX6_readPassage 52 = .ok (.iload 4, 2) := by decide +kernel
theorem dX6_readPassage_54 : decode cX6_readPassage 54 = .ok (.goto 4, 3) := by decide +kernel
theorem dX6_readPassage_57 : decode cX6_readPassage 57 = .ok (.iload_n 1, 1) := by decide +kernel
theorem dX6_readPassage_58 : decode cX6_readPassage 58 = .ok (.istore_n 1, 1) := by decide +kernel
theorem dX6_readPassage_59 : decode cX6_readPassage 59 = .ok (.iload_n 2, 1) := by decide +kernel
theorem dX6_readPassage_60 : decode cX6_readPassage 60 = .ok (.iload_n 3, 1) := by decide +kernel
theorem dX6_readPassage_61 : decode cX6_readPassage 61 = .ok (.ifCond .eq 7, 3) := by decide +kernel
theorem dX6_readPassage_64 : decode cX6_readPassage 64 = .ok (.iconst 1, 1) := by decide +kernel
theorem dX6_readPassage_65 : decode cX6_readPassage 65 = .ok (.goto 4, 3) := by decide +kernel
theorem dX6_readPassage_68 : decode cX6_readPassage 68 = .ok (.iconst 0, 1) := by decide +kernel
theorem dX6_readPassage_69 : decode cX6_readPassage 69 = .ok (.iadd, 1) := by decide +kernel
theorem dX6_readPassage_70 : decode cX6_readPassage 70 = .ok (.istore_n 2, 1) := by decide +kernel
theorem dX6_readPassage_71 : decode cX6_readPassage 71 = .ok (.goto (-60), 3) := by decide +kernel
theorem dX6_readPassage_74 : decode cX6_readPassage 74 = .ok (.aload_n 0, 1) := by decide +kernel
theorem dX6_readPassage_75 : decode cX6_readPassage 75 = .ok (.iload_n 2, 1) := by decide +kernel
theorem dX6_readPassage_76 : decode cX6_readPassage 76 = .ok (.putfield 81, 3) := by decide +kernel
theorem dX6_readPassage_79 : decode cX6_readPassage 79 = .ok (.aload_n 0, 1) := by decide +kernel
theorem dX6_readPassage_80 : decode cX6_readPassage 80 = .ok (.iload_n 2, 1) := by decide +kernel
theorem dX6_readPassage_81 : decode cX6_readPassage 81 = .ok (.aload_n 0, 1) := by decide +kernel
theorem dX6_readPassage_82 : decode cX6_readPassage 82 = .ok (.getfield 60, 3) := by decide +kernel
theorem dX6_readPassage_85 : decode cX6_readPassage 85 = .ok (.if_icmp .ne 12, 3) := by decide +kernel
theorem dX6_readPassage_88 : decode cX6_readPassage 88 = .ok (.iload_n 1, 1) := by decide +kernel
theorem dX6_readPassage_89 : decode cX6_readPassage 89 = .ok (.iconst 5, 1) := by decide +kernel
theorem dX6_readPassage_90 : decode cX6_readPassage 90 = .ok (.if_icmp .ne 7, 3) := by decide +kernel
theorem dX6_readPassage_93 : decode cX6_readPassage 93 = .ok (.iconst 1, 1) := by decide +kernel
theorem dX6_readPassage_94 : decode cX6_readPassage 94 = .ok (.goto 4, 3) := by decide +kernel
theorem dX6_readPassage_97 : decode cX6_readPassage 97 = .ok (.iconst 0, 1) := by decide +kernel
theorem dX6_readPassage_98 : decode cX6_readPassage 98 = .ok (.putfield 84, 3) := by decide +kernel
theorem dX6_readPassage_101 : decode cX6_readPassage 101 = .ok (.return_, 1) := by decide +kernel
theorem dX6_fault_0 : decode cX6_fault 0 = .ok (.aload_n 0, 1) := by decide +kernel
theorem dX6_fault_1 : decode cX6_fault 1 = .ok (.invokevirtual 88, 3) := by decide +kernel
theorem dX6_fault_4 : decode cX6_fault 4 = .ok (.aload_n 0, 1) := by decide +kernel
theorem dX6_fault_5 : decode cX6_fault 5 = .ok (.getfield 81, 3) := by decide +kernel
theorem dX6_fault_8 : decode cX6_fault 8 = .ok (.ireturn, 1) := by decide +kernel
theorem dX6_passage_0 : decode cX6_passage 0 = .ok (.aload_n 0, 1) := by decide +kernel
theorem dX6_passage_1 : decode cX6_passage 1 = .ok (.invokevirtual 88, 3) := by decide +kernel
theorem dX6_passage_4 : decode cX6_passage 4 = .ok (.aload_n 0, 1) := by decide +kernel
theorem dX6_passage_5 : decode cX6_passage 5 = .ok (.getfield 84, 3) := by decide +kernel
theorem dX6_passage_8 : decode cX6_passage 8 = .ok (.ifCond .ne 6, 3) := by decide +kernel
theorem dX6_passage_11 : decode cX6_passage 11 = .ok (.bipush (-103), 2) := by decide +kernel
theorem dX6_passage_13 : decode cX6_passage 13 = .ok (.ireturn, 1) := by decide +kernel
theorem dX6_passage_14 : decode cX6_passage 14 = .ok (.aload_n 0, 1) := by decide +kernel
theorem dX6_passage_15 : decode cX6_passage 15 = .ok (.aload_n 0, 1) := by decide +kernel
theorem dX6_passage_16 : decode cX6_passage 16 = .ok (.getfield 64, 3) := by decide +kernel
theorem dX6_passage_19 : decode cX6_passage 19 = .ok (.putfield 91, 3) := by decide +kernel
theorem dX6_passage_22 : decode cX6_passage 22 = .ok (.aload_n 0, 1) := by decide +kernel
theorem dX6_passage_23 : decode cX6_passage 23 = .ok (.aload_n 0, 1) := by decide +kernel
theorem dX6_passage_24 : decode cX6_passage 24 = .ok (.getfield 67, 3) := by decide +kernel
theorem dX6_passage_27 : decode cX6_passage 27 = .ok (.putfield 94, 3) := by decide +kernel
theorem dX6_passage_30 : decode cX6_passage 30 = .ok (.aload_n 0, 1) := by decide +kernel
theorem dX6_passage_31 : decode cX6_passage 31 = .ok (.aload_n 0, 1) := by decide +kernel
theorem dX6_passage_32 : decode cX6_passage 32 = .ok (.getfield 70, 3) := by decide +kernel
theorem dX6_passage_35 : decode cX6_passage 35 = .ok (.putfield 97, 3) := by decide +kernel
theorem dX6_passage_38 : decode cX6_passage 38 = .ok (.iconst 0, 1) := by decide +kernel
theorem dX6_passage_39 : decode cX6_passage 39 = .ok (.istore_n 1, 1) := by decide +kernel
theorem dX6_passage_40 : decode cX6_passage 40 = .ok (.iload_n 1, 1) := by decide +kernel
theorem dX6_passage_41 : decode cX6_passage 41 = .ok (.bipush 12, 2) := by decide +kernel
theorem dX6_passage_43 : decode cX6_passage 43 = .ok (.if_icmp .ge 33, 3) := by decide +kernel
theorem dX6_passage_46 : decode cX6_passage 46 = .ok (.aload_n 0, 1) := by decide +kernel
theorem dX6_passage_47 : decode cX6_passage 47 = .ok (.getfield 7, 3) := by decide +kernel
theorem dX6_passage_50 : decode cX6_passage 50 = .ok (.iload_n 1, 1) := by decide +kernel
theorem dX6_passage_51 : decode cX6_passage 51 = .ok (.aload_n 0, 1) := by decide +kernel
theorem dX6_passage_52 : decode cX6_passage 52 = .ok (.getfield 35, 3) := by decide +kernel
theorem dX6_passage_55 : decode cX6_passage 55 = .ok (.iload_n 1, 1) := by decide +kernel
theorem dX6_passage_56 : decode cX6_passage 56 = .ok (.iaload, 1) := by decide +kernel
theorem dX6_passage_57 : decode cX6_passage 57 = .ok (.iastore, 1) := by decide +kernel
theorem dX6_passage_58 : decode cX6_passage 58 = .ok (.aload_n 0, 1) := by decide +kernel
theorem dX6_passage_59 : decode cX6_passage 59 = .ok (.getfield 13, 3) := by decide +kernel
theorem dX6_passage_62 : decode cX6_passage 62 = .ok (.iload_n 1, 1) := by decide +kernel
theorem dX6_passage_63 : decode cX6_passage 63 = .ok (.aload_n 0, 1) := by decide +kernel
theorem dX6_passage_64 : decode cX6_passage 64 = .ok (.getfield 38, 3) := by decide +kernel
theorem dX6_passage_67 : decode cX6_passage 67 = .ok (.iload_n 1, 1) := by decide +kernel
theorem dX6_passage_68 : decode cX6_passage 68 = .ok (.iaload, 1) := by decide +kernel
theorem dX6_passage_69 : decode cX6_passage 69 = .ok (.iastore, 1) := by decide +kernel
theorem dX6_passage_70 : decode cX6_passage 70 = .ok (.iinc 1 1, 3) := by decide +kernel
theorem dX6_passage_73 : decode cX6_passage 73 = .ok (.goto (-33), 3) := by decide +kernel
theorem dX6_passage_76 : decode cX6_passage 76 = .ok (.aload_n 0, 1) := by decide +kernel
theorem dX6_passage_77 : decode cX6_passage 77 = .ok (.iconst 1, 1) := by decide +kernel
theorem dX6_passage_78 : decode cX6_passage 78 = .ok (.putfield 100, 3) := by decide +kernel
theorem dX6_passage_81 : decode cX6_passage 81 = .ok (.aload_n 0, 1) := by decide +kernel
theorem dX6_passage_82 : decode cX6_passage 82 = .ok (.dup, 1) := by decide +kernel
theorem dX6_passage_83 : decode cX6_passage 83 = .ok (.getfield 103, 3) := by decide +kernel
theorem dX6_passage_86 : decode cX6_passage 86 = .ok (.iconst 1, 1) := by decide +kernel
theorem dX6_passage_87 : decode cX6_passage 87 = .ok (.iadd, 1) := by decide +kernel
theorem dX6_passage_88 : decode cX6_passage 88 = .ok (.putfield 103, 3) := by decide +kernel
theorem dX6_passage_91 : decode cX6_passage 91 = .ok (.aload_n 0, 1) := by decide +kernel
theorem dX6_passage_92 : decode cX6_passage 92 = .ok (.iconst 0, 1) := by decide +kernel
theorem dX6_passage_93 : decode cX6_passage 93 = .ok (.putfield 106, 3) := by decide +kernel
theorem dX6_passage_96 : decode cX6_passage 96 = .ok (.aload_n 0, 1) := by decide +kernel
theorem dX6_passage_97 : decode cX6_passage 97 = .ok (.iconst 0, 1) := by decide +kernel
theorem dX6_passage_98 : decode cX6_passage 98 = .ok (.putfield 109, 3) := by decide +kernel
theorem dX6_passage_101 : decode cX6_passage 101 = .ok (.aload_n 0, 1) := by decide +kernel
theorem dX6_passage_102 : decode cX6_passage 102 = .ok (.iconst 0, 1) := by decide +kernel
theorem dX6_passage_103 : decode cX6_passage 103 = .ok (.putfield 112, 3) := by decide +kernel
theorem dX6_passage_106 : decode cX6_passage 106 = .ok (.aload_n 0, 1) := by decide +kernel
theorem dX6_passage_107 : decode cX6_passage 107 = .ok (.invokevirtual 115, 3) := by decide +kernel
theorem dX6_passage_110 : decode cX6_passage 110 = .ok (.aload_n 0, 1) := by decide +kernel
theorem dX6_passage_111 : decode cX6_passage 111 = .ok (.iconst 0, 1) := by decide +kernel
theorem dX6_passage_112 : decode cX6_passage 112 = .ok (.putfield 60, 3) := by decide +kernel
theorem dX6_passage_115 : decode cX6_passage 115 = .ok (.aload_n 0, 1) := by decide +kernel
theorem dX6_passage_116 : decode cX6_passage 116 = .ok (.getfield 97, 3) := by decide +kernel
theorem dX6_passage_119 : decode cX6_passage 119 = .ok (.ireturn, 1) := by decide +kernel
theorem dX6_begin_0 : decode cX6_begin 0 = .ok (.aload_n 0, 1) := by decide +kernel
theorem dX6_begin_1 : decode cX6_begin 1 = .ok (.iconst 0, 1) := by decide +kernel
theorem dX6_begin_2 : decode cX6_begin 2 = .ok (.putfield 118, 3) := by decide +kernel
theorem dX6_begin_5 : decode cX6_begin 5 = .ok (.aload_n 0, 1) := by decide +kernel
theorem dX6_begin_6 : decode cX6_begin 6 = .ok (.iconst 0, 1) := by decide +kernel
theorem dX6_begin_7 : decode cX6_begin 7 = .ok (.putfield 121, 3) := by decide +kernel
theorem dX6_begin_10 : decode cX6_begin 10 = .ok (.aload_n 0, 1) := by decide +kernel
theorem dX6_begin_11 : decode cX6_begin 11 = .ok (.iconst 0, 1) := by decide +kernel
theorem dX6_begin_12 : decode cX6_begin 12 = .ok (.putfield 124, 3) := by decide +kernel
theorem dX6_begin_15 : decode cX6_begin 15 = .ok (.aload_n 0, 1) := by decide +kernel
theorem dX6_begin_16 : decode cX6_begin 16 = .ok (.iconst 0, 1) := by decide +kernel
theorem dX6_begin_17 : decode cX6_begin 17 = .ok (.putfield 127, 3) := by decide +kernel
theorem dX6_begin_20 : decode cX6_begin 20 = .ok (.return_, 1) := by decide +kernel
theorem dX6_place_0 : decode cX6_place 0 = .ok (.iload_n 1, 1) := by decide +kernel
theorem dX6_place_1 : decode cX6_place 1 = .ok (.iconst 0, 1) := by decide +kernel
theorem dX6_place_2 : decode cX6_place 2 = .ok (.aload_n 0, 1) := by decide +kernel
theorem dX6_place_3 : decode cX6_place 3 = .ok (.getfield 97, 3) := by decide +kernel
theorem dX6_place_6 : decode cX6_place 6 = .ok (.iconst 1, 1) := by decide +kernel
theorem dX6_place_7 : decode cX6_place 7 = .ok (.isub, 1) := by decide +kernel
theorem dX6_place_8 : decode cX6_place 8 = .ok (.invokestatic 56, 3) := by decide +kernel
theorem dX6_place_11 : decode cX6_place 11 = .ok (.ifCond .ne 6, 3) := by decide +kernel
theorem dX6_place_14 : decode cX6_place 14 = .ok (.bipush (-101), 2) := by decide +kernel
theorem dX6_place_16 : decode cX6_place 16 = .ok (.ireturn, 1) := by decide +kernel
theorem dX6_place_17 : decode cX6_place 17 = .ok (.iload_n 2, 1) := by decide +kernel
theorem dX6_place_18 : decode cX6_place 18 = .ok (.iconst 0, 1) := by decide +kernel
theorem dX6_place_19 : decode cX6_place 19 = .ok (.iconst 1, 1) := by decide +kernel
theorem dX6_place_20 : decode cX6_place 20 = .ok (.invokestatic 56, 3) := by decide +kernel
theorem dX6_place_23 : decode cX6_place 23 = .ok (.ifCond .ne 8, 3) := by decide +kernel
theorem dX6_place_26 : decode cX6_place 26 = .ok (.bipush (-102), 2) := by decide +kernel
theorem dX6_place_28 : decode cX6_place 28 = .ok (.goto 22, 3) := by decide +kernel
theorem dX6_place_31 : decode cX6_place 31 = .ok (.iload_n 2, 1) := by decide +kernel
theorem dX6_place_32 : decode cX6_place 32 = .ok (.ifCond .ne 12, 3) := by decide +kernel
theorem dX6_place_35 : decode cX6_place 35 = .ok (.aload_n 0, 1) := by decide +kernel
theorem dX6_place_36 : decode cX6_place 36 = .ok (.getfield 7, 3) := by decide +kernel
theorem dX6_place_39 : decode cX6_place 39 = .ok (.iload_n 1, 1) := by decide +kernel
theorem dX6_place_40 : decode cX6_place 40 = .ok (.iaload, 1) := by decide +kernel
theorem dX6_place_41 : decode cX6_place 41 = .ok (.goto 9, 3) := by decide +kernel
theorem dX6_place_44 : decode cX6_place 44 = .ok (.aload_n 0, 1) := by decide +kernel
theorem dX6_place_45 : decode cX6_place 45 = .ok (.getfield 13, 3) := by decide +kernel
theorem dX6_place_48 : decode cX6_place 48 = .ok (.iload_n 1, 1) := by decide +kernel
theorem dX6_place_49 : decode cX6_place 49 = .ok (.iaload, 1) := by decide +kernel
theorem dX6_place_50 : decode cX6_place 50 = .ok (.ireturn, 1) := by decide +kernel
theorem dX6_isMan_0 : decode cX6_isMan 0 = .ok (.iload_n 1, 1) := by decide +kernel
theorem dX6_isMan_1 : decode cX6_isMan 1 = .ok (.iconst 0, 1) := by decide +kernel
theorem dX6_isMan_2 : decode cX6_isMan 2 = .ok (.aload_n 0, 1) := by decide +kernel
theorem dX6_isMan_3 : decode cX6_isMan 3 = .ok (.getfield 106, 3) := by decide +kernel
theorem dX6_isMan_6 : decode cX6_isMan 6 = .ok (.iconst 1, 1) := by decide +kernel
theorem dX6_isMan_7 : decode cX6_isMan 7 = .ok (.isub, 1) := by decide +kernel
theorem dX6_isMan_8 : decode cX6_isMan 8 = .ok (.invokestatic 56, 3) := by decide +kernel
theorem dX6_isMan_11 : decode cX6_isMan 11 = .ok (.ireturn, 1) := by decide +kernel
theorem dX6_man_0 : decode cX6_man 0 = .ok (.iload_n 1, 1) := by decide +kernel
theorem dX6_man_1 : decode cX6_man 1 = .ok (.iconst 0, 1) := by decide +kernel
theorem dX6_man_2 : decode cX6_man 2 = .ok (.iconst 4, 1) := by decide +kernel
theorem dX6_man_3 : decode cX6_man 3 = .ok (.invokestatic 56, 3) := by decide +kernel
theorem dX6_man_6 : decode cX6_man 6 = .ok (.ifCond .eq 23, 3) := by decide +kernel
theorem dX6_man_9 : decode cX6_man 9 = .ok (.iload_n 2, 1) := by decide +kernel
theorem dX6_man_10 : decode cX6_man 10 = .ok (.iconst 1, 1) := by decide +kernel
theorem dX6_man_11 : decode cX6_man 11 = .ok (.bipush 9, 2) := by decide +kernel
theorem dX6_man_13 : decode cX6_man 13 = .ok (.invokestatic 56, 3) := by decide +kernel
theorem dX6_man_16 : decode cX6_man 16 = .ok (.ifCond .eq 13, 3) := by decide +kernel
theorem dX6_man_19 : decode cX6_man 19 = .ok (.iload_n 3, 1) := by decide +kernel
theorem dX6_man_20 : decode cX6_man 20 = .ok (.iconst 0, 1) := by decide +kernel
theorem dX6_man_21 : decode cX6_man 21 = .ok (.bipush 9, 2) := by decide +kernel
theorem dX6_man_23 : decode cX6_man 23 = .ok (.invokestatic 56, 3) := by decide +kernel
theorem dX6_man_26 : decode cX6_man 26 = .ok (.ifCond .ne 6, 3) := by decide +kernel
theorem dX6_man_29 : decode cX6_man 29 = .ok (.bipush (-102), 2) := by decide +kernel
theorem dX6_man_31 : decode cX6_man 31 = .ok (.ireturn, 1) := by decide +kernel
theorem dX6_man_32 : decode cX6_man 32 = .ok (.aload_n 0, 1) := by decide +kernel
theorem dX6_man_33 : decode cX6_man 33 = .ok (.getfield 100, 3) := by decide +kernel
theorem dX6_man_36 : decode cX6_man 36 = .ok (.ifCond .eq 17, 3) := by decide +kernel
theorem dX6_man_39 : decode cX6_man 39 = .ok (.aload_n 0, 1) := by decide +kernel
theorem dX6_man_40 : decode cX6_man 40 = .ok (.getfield 121, 3) := by decide +kernel
theorem dX6_man_43 : decode cX6_man 43 = .ok (.ifCond .ne 10, 3) := by decide +kernel
theorem dX6_man_46 : decode cX6_man 46 = .ok (.aload_n 0, 1) := by decide +kernel
theorem dX6_man_47 : decode cX6_man 47 = .ok (.getfield 124, 3) := by decide +kernel
theorem dX6_man_50 : decode cX6_man 50 = .ok (.ifCond .eq 6, 3) := by decide +kernel
theorem dX6_man_53 : decode cX6_man 53 = .ok (.bipush (-103), 2) := by decide +kernel
theorem dX6_man_55 : decode cX6_man 55 = .ok (.ireturn, 1) := by decide +kernel
theorem dX6_man_56 : decode cX6_man 56 = .ok (.aload_n 0, 1) := by decide +kernel
theorem dX6_man_57 : decode cX6_man 57 = .ok (.getfield 106, 3) := by decide +kernel
theorem dX6_man_60 : decode cX6_man 60 = .ok (.iconst 5, 1) := by decide +kernel
theorem dX6_man_61 : decode cX6_man 61 = .ok (.if_icmp .ne 6, 3) := by decide +kernel
theorem dX6_man_64 : decode cX6_man 64 = .ok (.bipush (-104), 2) := by decide +kernel
theorem dX6_man_66 : decode cX6_man 66 = .ok (.ireturn, 1) := by decide +kernel
theorem dX6_man_67 : decode cX6_man 67 = .ok (.aload_n 0, 1) := by decide +kernel
theorem dX6_man_68 : decode cX6_man 68 = .ok (.getfield 16, 3) := by decide +kernel
theorem dX6_man_71 : decode cX6_man 71 = .ok (.aload_n 0, 1) := by decide +kernel
theorem dX6_man_72 : decode cX6_man 72 = .ok (.getfield 106, 3) := by decide +kernel
theorem dX6_man_75 : decode cX6_man 75 = .ok (.iload_n 1, 1) := by decide +kernel
theorem dX6_man_76 : decode cX6_man 76 = .ok (.iastore, 1) := by decide +kernel
theorem dX6_man_77 : decode cX6_man 77 = .ok (.aload_n 0, 1) := by decide +kernel
theorem dX6_man_78 : decode cX6_man 78 = .ok (.getfield 19, 3) := by decide +kernel
theorem dX6_man_81 : decode cX6_man 81 = .ok (.aload_n 0, 1) := by decide +kernel
theorem dX6_man_82 : decode cX6_man 82 = .ok (.getfield 106, 3) := by decide +kernel
theorem dX6_man_85 : decode cX6_man 85 = .ok (.iload_n 2, 1) := by decide +kernel
theorem dX6_man_86 : decode cX6_man 86 = .ok (.iastore, 1) := by decide +kernel
theorem dX6_man_87 : decode cX6_man 87 = .ok (.aload_n 0, 1) := by decide +kernel
theorem dX6_man_88 : decode cX6_man 88 = .ok (.getfield 22, 3) := by decide +kernel
theorem dX6_man_91 : decode cX6_man 91 = .ok (.aload_n 0, 1) := by decide +kernel
theorem dX6_man_92 : decode cX6_man 92 = .ok (.getfield 106, 3) := by decide +kernel
theorem dX6_man_95 : decode cX6_man 95 = .ok (.iload_n 3, 1) := by decide +kernel
theorem dX6_man_96 : decode cX6_man 96 = .ok (.iastore, 1) := by decide +kernel
theorem dX6_man_97 : decode cX6_man 97 = .ok (.aload_n 0, 1) := by decide +kernel
theorem dX6_man_98 : decode cX6_man 98 = .ok (.getfield 25, 3) := by decide +kernel
theorem dX6_man_101 : decode cX6_man 101 = .ok (.aload_n 0, 1) := by decide +kernel
theorem dX6_man_102 : decode cX6_man 102 = .ok (.getfield 106, 3) := by decide +kernel
theorem dX6_man_105 : decode cX6_man 105 = .ok (.iconst 0, 1) := by decide +kernel
theorem dX6_man_106 : decode cX6_man 106 = .ok (.iastore, 1) := by decide +kernel
theorem dX6_man_107 : decode cX6_man 107 = .ok (.aload_n 0, 1) := by decide +kernel
theorem dX6_man_108 : decode cX6_man 108 = .ok (.dup, 1) := by decide +kernel
theorem dX6_man_109 : decode cX6_man 109 = .ok (.getfield 112, 3) := by decide +kernel
theorem dX6_man_112 : decode cX6_man 112 = .ok (.iconst 1, 1) := by decide +kernel
theorem dX6_man_113 : decode cX6_man 113 = .ok (.aload_n 0, 1) := by decide +kernel
theorem dX6_man_114 : decode cX6_man 114 = .ok (.getfield 106, 3) := by decide +kernel
theorem dX6_man_117 : decode cX6_man 117 = .ok (.ishl, 1) := by decide +kernel
theorem dX6_man_118 : decode cX6_man 118 = .ok (.iconst (-1), 1) := by decide +kernel
theorem dX6_man_119 : decode cX6_man 119 = .ok (.ixor, 1) := by decide +kernel
theorem dX6_man_120 : decode cX6_man 120 = .ok (.iand, 1) := by decide +kernel
theorem dX6_man_121 : decode cX6_man 121 = .ok (.putfield 112, 3) := by decide +kernel
theorem dX6_man_124 : decode cX6_man 124 = .ok (.aload_n 0, 1) := by decide +kernel
theorem dX6_man_125 : decode cX6_man 125 = .ok (.dup, 1) := by decide +kernel
theorem dX6_man_126 : decode cX6_man 126 = .ok (.getfield 106, 3) := by decide +kernel
theorem dX6_man_129 : decode cX6_man 129 = .ok (.iconst 1, 1) := by decide +kernel
theorem dX6_man_130 : decode cX6_man 130 = .ok (.iadd, 1) := by decide +kernel
theorem dX6_man_131 : decode cX6_man 131 = .ok (.putfield 106, 3) := by decide +kernel
theorem dX6_man_134 : decode cX6_man 134 = .ok (.aload_n 0, 1) := by decide +kernel
theorem dX6_man_135 : decode cX6_man 135 = .ok (.getfield 106, 3) := by decide +kernel
theorem dX6_man_138 : decode cX6_man 138 = .ok (.iconst 1, 1) := by decide +kernel
theorem dX6_man_139 : decode cX6_man 139 = .ok (.isub, 1) := by decide +kernel
theorem dX6_man_140 : decode cX6_man 140 = .ok (.ireturn, 1) := by decide +kernel
theorem dX6_hears_0 : decode cX6_hears 0 = .ok (.aload_n 0, 1) := by decide +kernel
theorem dX6_hears_1 : decode cX6_hears 1 = .ok (.getfield 16, 3) := by decide +kernel
theorem dX6_hears_4 : decode cX6_hears 4 = .ok (.iload_n 1, 1) := by decide +kernel
theorem dX6_hears_5 : decode cX6_hears 5 = .ok (.iaload, 1) := by decide +kernel
theorem dX6_hears_6 : decode cX6_hears 6 = .ok (.iconst 1, 1) := by decide +kernel
theorem dX6_hears_7 : decode cX6_hears 7 = .ok (.if_icmp .eq 29, 3) := by decide +kernel
theorem dX6_hears_10 : decode cX6_hears 10 = .ok (.aload_n 0, 1) := by decide +kernel
theorem dX6_hears_11 : decode cX6_hears 11 = .ok (.getfield 112, 3) := by decide +kernel
theorem dX6_hears_14 : decode cX6_hears 14 = .ok (.iload_n 1, 1) := by decide +kernel
theorem dX6_hears_15 : decode cX6_hears 15 = .ok (.invokestatic 130, 3) := by decide +kernel
theorem dX6_hears_18 : decode cX6_hears 18 = .ok (.ifCond .eq 14, 3) := by decide +kernel
theorem dX6_hears_21 : decode cX6_hears 21 = .ok (.aload_n 0, 1) := by decide +kernel
theorem dX6_hears_22 : decode cX6_hears 22 = .ok (.getfield 124, 3) := by decide +kernel
theorem dX6_hears_25 : decode cX6_hears 25 = .ok (.aload_n 0, 1) := by decide +kernel
theorem dX6_hears_26 : decode cX6_hears 26 = .ok (.getfield 94, 3) := by decide +kernel
theorem dX6_hears_29 : decode cX6_hears 29 = .ok (.if_icmp .lt 7, 3) := by decide +kernel
theorem dX6_hears_32 : decode cX6_hears 32 = .ok (.iconst 1, 1) := by decide +kernel
theorem dX6_hears_33 : decode cX6_hears 33 = .ok (.goto 4, 3) := by decide +kernel
theorem dX6_hears_36 : decode cX6_hears 36 = .ok (.iconst 0, 1) := by decide +kernel
theorem dX6_hears_37 : decode cX6_hears 37 = .ok (.ireturn, 1) := by decide +kernel
theorem dX6_holds_0 : decode cX6_holds 0 = .ok (.aload_n 0, 1) := by decide +kernel
theorem dX6_holds_1 : decode cX6_holds 1 = .ok (.getfield 22, 3) := by decide +kernel
theorem dX6_holds_4 : decode cX6_holds 4 = .ok (.iload_n 1, 1) := by decide +kernel
theorem dX6_holds_5 : decode cX6_holds 5 = .ok (.iaload, 1) := by decide +kernel
theorem dX6_holds_6 : decode cX6_holds 6 = .ok (.aload_n 0, 1) := by decide +kernel
theorem dX6_holds_7 : decode cX6_holds 7 = .ok (.getfield 25, 3) := by decide +kernel
theorem dX6_holds_10 : decode cX6_holds 10 = .ok (.iload_n 1, 1) := by decide +kernel
theorem dX6_holds_11 : decode cX6_holds 11 = .ok (.iaload, 1) := by decide +kernel
theorem dX6_holds_12 : decode cX6_holds 12 = .ok (.aload_n 0, 1) := by decide +kernel
theorem dX6_holds_13 : decode cX6_holds 13 = .ok (.getfield 16, 3) := by decide +kernel
theorem dX6_holds_16 : decode cX6_holds 16 = .ok (.iload_n 1, 1) := by decide +kernel
theorem dX6_holds_17 : decode cX6_holds 17 = .ok (.iaload, 1) := by decide +kernel
theorem dX6_holds_18 : decode cX6_holds 18 = .ok (.iconst 4, 1) := by decide +kernel
theorem dX6_holds_19 : decode cX6_holds 19 = .ok (.if_icmp .ne 7, 3) := by decide +kernel
theorem dX6_holds_22 : decode cX6_holds 22 = .ok (.iconst 3, 1) := by decide +kernel
theorem dX6_holds_23 : decode cX6_holds 23 = .ok (.goto 4, 3) := by decide +kernel
theorem dX6_holds_26 : decode cX6_holds 26 = .ok (.iconst 2, 1) := by decide +kernel
theorem dX6_holds_27 : decode cX6_holds 27 = .ok (.imul, 1) := by decide +kernel
theorem dX6_holds_28 : decode cX6_holds 28 = .ok (.iadd, 1) := by decide +kernel
theorem dX6_holds_29 : decode cX6_holds 29 = .ok (.ireturn, 1) := by decide +kernel
theorem dX6_manNow_0 : decode cX6_manNow 0 = .ok (.iload_n 2, 1) := by decide +kernel
theorem dX6_manNow_1 : decode cX6_manNow 1 = .ok (.tableswitch 103 0 6 #[43, 50, 57, 64, 73, 80, 89], 43) := by decide +kernel
theorem dX6_manNow_44 : decode cX6_manNow 44 = .ok (.aload_n 0, 1) := by decide +kernel
theorem dX6_manNow_45 : decode cX6_manNow 45 = .ok (.getfield 16, 3) := by decide +kernel
theorem dX6_manNow_48 : decode cX6_manNow 48 = .ok (.iload_n 1, 1) := by decide +kernel
theorem dX6_manNow_49 : decode cX6_manNow 49 = .ok (.iaload, 1) := by decide +kernel
theorem dX6_manNow_50 : decode cX6_manNow 50 = .ok (.ireturn, 1) := by decide +kernel
theorem dX6_manNow_51 : decode cX6_manNow 51 = .ok (.aload_n 0, 1) := by decide +kernel
theorem dX6_manNow_52 : decode cX6_manNow 52 = .ok (.getfield 19, 3) := by decide +kernel
theorem dX6_manNow_55 : decode cX6_manNow 55 = .ok (.iload_n 1, 1) := by decide +kernel
theorem dX6_manNow_56 : decode cX6_manNow 56 = .ok (.iaload, 1) := by decide +kernel
theorem dX6_manNow_57 : decode cX6_manNow 57 = .ok (.ireturn, 1) := by decide +kernel
theorem dX6_manNow_58 : decode cX6_manNow 58 = .ok (.aload_n 0, 1) := by decide +kernel
theorem dX6_manNow_59 : decode cX6_manNow 59 = .ok (.getfield 22, 3) := by decide +kernel
theorem dX6_manNow_62 : decode cX6_manNow 62 = .ok (.iload_n 1, 1) := by decide +kernel
theorem dX6_manNow_63 : decode cX6_manNow 63 = .ok (.iaload, 1) := by decide +kernel
theorem dX6_manNow_64 : decode cX6_manNow 64 = .ok (.ireturn, 1) := by decide +kernel
theorem dX6_manNow_65 : decode cX6_manNow 65 = .ok (.aload_n 0, 1) := by decide +kernel
theorem dX6_manNow_66 : decode cX6_manNow 66 = .ok (.getfield 112, 3) := by decide +kernel
theorem dX6_manNow_69 : decode cX6_manNow 69 = .ok (.iload_n 1, 1) := by decide +kernel
theorem dX6_manNow_70 : decode cX6_manNow 70 = .ok (.ishr, 1) := by decide +kernel
theorem dX6_manNow_71 : decode cX6_manNow 71 = .ok (.iconst 1, 1) := by decide +kernel
theorem dX6_manNow_72 : decode cX6_manNow 72 = .ok (.iand, 1) := by decide +kernel
theorem dX6_manNow_73 : decode cX6_manNow 73 = .ok (.ireturn, 1) := by decide +kernel
theorem dX6_manNow_74 : decode cX6_manNow 74 = .ok (.aload_n 0, 1) := by decide +kernel
theorem dX6_manNow_75 : decode cX6_manNow 75 = .ok (.getfield 25, 3) := by decide +kernel
theorem dX6_manNow_78 : decode cX6_manNow 78 = .ok (.iload_n 1, 1) := by decide +kernel
theorem dX6_manNow_79 : decode cX6_manNow 79 = .ok (.iaload, 1) := by decide +kernel
theorem dX6_manNow_80 : decode cX6_manNow 80 = .ok (.ireturn, 1) := by decide +kernel
theorem dX6_manNow_81 : decode cX6_manNow 81 = .ok (.aload_n 0, 1) := by decide +kernel
theorem dX6_manNow_82 : decode cX6_manNow 82 = .ok (.getfield 118, 3) := by decide +kernel
theorem dX6_manNow_85 : decode cX6_manNow 85 = .ok (.iload_n 1, 1) := by decide +kernel
theorem dX6_manNow_86 : decode cX6_manNow 86 = .ok (.ishr, 1) := by decide +kernel
theorem dX6_manNow_87 : decode cX6_manNow 87 = .ok (.iconst 1, 1) := by decide +kernel
theorem dX6_manNow_88 : decode cX6_manNow 88 = .ok (.iand, 1) := by decide +kernel
theorem dX6_manNow_89 : decode cX6_manNow 89 = .ok (.ireturn, 1) := by decide +kernel
theorem dX6_manNow_90 : decode cX6_manNow 90 = .ok (.aload_n 0, 1) := by decide +kernel
theorem dX6_manNow_91 : decode cX6_manNow 91 = .ok (.iload_n 1, 1) := by decide +kernel
theorem dX6_manNow_92 : decode cX6_manNow 92 = .ok (.invokevirtual 134, 3) := by decide +kernel
theorem dX6_manNow_95 : decode cX6_manNow 95 = .ok (.ifCond .eq 7, 3) := by decide +kernel
theorem dX6_manNow_98 : decode cX6_manNow 98 = .ok (.iconst 1, 1) := by decide +kernel
theorem dX6_manNow_99 : decode cX6_manNow 99 = .ok (.goto 4, 3) := by decide +kernel
theorem dX6_manNow_102 : decode cX6_manNow 102 = .ok (.iconst 0, 1) := by decide +kernel
theorem dX6_manNow_103 : decode cX6_manNow 103 = .ok (.ireturn, 1) := by decide +kernel
theorem dX6_manNow_104 : decode cX6_manNow 104 = .ok (.aload_n 0, 1) := by decide +kernel
theorem dX6_manNow_105 : decode cX6_manNow 105 = .ok (.iload_n 1, 1) := by decide +kernel
theorem dX6_manNow_106 : decode cX6_manNow 106 = .ok (.invokevirtual 138, 3) := by decide +kernel
theorem dX6_manNow_109 : decode cX6_manNow 109 = .ok (.ireturn, 1) := by decide +kernel
theorem dX6_about_0 : decode cX6_about 0 = .ok (.aload_n 0, 1) := by decide +kernel
theorem dX6_about_1 : decode cX6_about 1 = .ok (.iload_n 1, 1) := by decide +kernel
theorem dX6_about_2 : decode cX6_about 2 = .ok (.invokevirtual 141, 3) := by decide +kernel
theorem dX6_about_5 : decode cX6_about 5 = .ok (.ifCond .ne 8, 3) := by decide +kernel
theorem dX6_about_8 : decode cX6_about 8 = .ok (.bipush (-101), 2) := by decide +kernel
theorem dX6_about_10 : decode cX6_about 10 = .ok (.goto 24, 3) := by decide +kernel
theorem dX6_about_13 : decode cX6_about 13 = .ok (.iload_n 2, 1) := by decide +kernel
theorem dX6_about_14 : decode cX6_about 14 = .ok (.iconst 0, 1) := by decide +kernel
theorem dX6_about_15 : decode cX6_about 15 = .ok (.bipush 7, 2) := by decide +kernel
theorem dX6_about_17 : decode cX6_about 17 = .ok (.invokestatic 56, 3) := by decide +kernel
theorem dX6_about_20 : decode cX6_about 20 = .ok (.ifCond .eq 12, 3) := by decide +kernel
theorem dX6_about_23 : decode cX6_about 23 = .ok (.aload_n 0, 1) := by decide +kernel
theorem dX6_about_24 : decode cX6_about 24 = .ok (.iload_n 1, 1) := by decide +kernel
theorem dX6_about_25 : decode cX6_about 25 = .ok (.iload_n 2, 1) := by decide +kernel
theorem dX6_about_26 : decode cX6_about 26 = .ok (.invokevirtual 144, 3) := by decide +kernel
theorem dX6_about_29 : decode cX6_about 29 = .ok (.goto 5, 3) := by decide +kernel
theorem dX6_about_32 : decode cX6_about 32 = .ok (.bipush (-102), 2) := by decide +kernel
theorem dX6_about_34 : decode cX6_about 34 = .ok (.ireturn, 1) := by decide +kernel
theorem dX6_as_0 : decode cX6_as 0 = .ok (.aload_n 0, 1) := by decide +kernel
theorem dX6_as_1 : decode cX6_as 1 = .ok (.iload_n 1, 1) := by decide +kernel
theorem dX6_as_2 : decode cX6_as 2 = .ok (.invokevirtual 141, 3) := by decide +kernel
theorem dX6_as_5 : decode cX6_as 5 = .ok (.ifCond .ne 6, 3) := by decide +kernel
theorem dX6_as_8 : decode cX6_as 8 = .ok (.bipush (-101), 2) := by decide +kernel
theorem dX6_as_10 : decode cX6_as 10 = .ok (.ireturn, 1) := by decide +kernel
theorem dX6_as_11 : decode cX6_as 11 = .ok (.iload_n 2, 1) := by decide +kernel
theorem dX6_as_12 : decode cX6_as 12 = .ok (.iconst 0, 1) := by decide +kernel
theorem dX6_as_13 : decode cX6_as 13 = .ok (.iconst 4, 1) := by decide +kernel
theorem dX6_as_14 : decode cX6_as 14 = .ok (.invokestatic 56, 3) := by decide +kernel
theorem dX6_as_17 : decode cX6_as 17 = .ok (.ifCond .ne 6, 3) := by decide +kernel
theorem dX6_as_20 : decode cX6_as 20 = .ok (.bipush (-102), 2) := by decide +kernel
theorem dX6_as_22 : decode cX6_as 22 = .ok (.ireturn, 1) := by decide +kernel
theorem dX6_as_23 : decode cX6_as 23 = .ok (.aload_n 0, 1) := by decide +kernel
theorem dX6_as_24 : decode cX6_as 24 = .ok (.getfield 16, 3) := by decide +kernel
theorem dX6_as_27 : decode cX6_as 27 = .ok (.iload_n 1, 1) := by decide +kernel
theorem dX6_as_28 : decode cX6_as 28 = .ok (.iaload, 1) := by decide +kernel
theorem dX6_as_29 : decode cX6_as 29 = .ok (.istore_n 3, 1) := by decide +kernel
theorem dX6_as_30 : decode cX6_as 30 = .ok (.iload_n 2, 1) := by decide +kernel
theorem dX6_as_31 : decode cX6_as 31 = .ok (.ifCond .eq 18, 3) := by decide +kernel
theorem dX6_as_34 : decode cX6_as 34 = .ok (.iload_n 3, 1) := by decide +kernel
theorem dX6_as_35 : decode cX6_as 35 = .ok (.iload_n 2, 1) := by decide +kernel
theorem dX6_as_36 : decode cX6_as 36 = .ok (.if_icmp .eq 13, 3) := by decide +kernel
theorem dX6_as_39 : decode cX6_as 39 = .ok (.iload_n 2, 1) := by decide +kernel
theorem dX6_as_40 : decode cX6_as 40 = .ok (.iconst 3, 1) := by decide +kernel
theorem dX6_as_41 : decode cX6_as 41 = .ok (.if_icmp .ne 12, 3) := by decide +kernel
theorem dX6_as_44 : decode cX6_as 44 = .ok (.iload_n 3, 1) := by decide +kernel
theorem dX6_as_45 : decode cX6_as 45 = .ok (.iconst 4, 1) := by decide +kernel
theorem dX6_as_46 : decode cX6_as 46 = .ok (.if_icmp .ne 7, 3) := by decide +kernel
theorem dX6_as_49 : decode cX6_as 49 = .ok (.iload_n 1, 1) := by decide +kernel
theorem dX6_as_50 : decode cX6_as 50 = .ok (.goto 4, 3) := by decide +kernel
theorem dX6_as_53 : decode cX6_as 53 = .ok (.iconst (-1), 1) := by decide +kernel
theorem dX6_as_54 : decode cX6_as 54 = .ok (.ireturn, 1) := by decide +kernel
theorem dX6_wax_0 : decode cX6_wax 0 = .ok (.aload_n 0, 1) := by decide +kernel
theorem dX6_wax_1 : decode cX6_wax 1 = .ok (.iload_n 1, 1) := by decide +kernel
theorem dX6_wax_2 : decode cX6_wax 2 = .ok (.invokevirtual 141, 3) := by decide +kernel
theorem dX6_wax_5 : decode cX6_wax 5 = .ok (.ifCond .ne 6, 3) := by decide +kernel
theorem dX6_wax_8 : decode cX6_wax 8 = .ok (.bipush (-101), 2) := by decide +kernel
theorem dX6_wax_10 : decode cX6_wax 10 = .ok (.ireturn, 1) := by decide +kernel
theorem dX6_wax_11 : decode cX6_wax 11 = .ok (.aload_n 0, 1) := by decide +kernel
theorem dX6_wax_12 : decode cX6_wax 12 = .ok (.getfield 118, 3) := by decide +kernel
theorem dX6_wax_15 : decode cX6_wax 15 = .ok (.iload_n 1, 1) := by decide +kernel
theorem dX6_wax_16 : decode cX6_wax 16 = .ok (.invokestatic 130, 3) := by decide +kernel
theorem dX6_wax_19 : decode cX6_wax 19 = .ok (.ifCond .ne 10, 3) := by decide +kernel
theorem dX6_wax_22 : decode cX6_wax 22 = .ok (.aload_n 0, 1) := by decide +kernel
theorem dX6_wax_23 : decode cX6_wax 23 = .ok (.getfield 127, 3) := by decide +kernel
theorem dX6_wax_26 : decode cX6_wax 26 = .ok (.ifCond .eq 6, 3) := by decide +kernel
theorem dX6_wax_29 : decode cX6_wax 29 = .ok (.bipush (-103), 2) := by decide +kernel
theorem dX6_wax_31 : decode cX6_wax 31 = .ok (.ireturn, 1) := by decide +kernel
theorem dX6_wax_32 : decode cX6_wax 32 = .ok (.aload_n 0, 1) := by decide +kernel
theorem dX6_wax_33 : decode cX6_wax 33 = .ok (.getfield 112, 3) := by decide +kernel
theorem dX6_wax_36 : decode cX6_wax 36 = .ok (.iload_n 1, 1) := by decide +kernel
theorem dX6_wax_37 : decode cX6_wax 37 = .ok (.ishr, 1) := by decide +kernel
theorem dX6_wax_38 : decode cX6_wax 38 = .ok (.iconst 1, 1) := by decide +kernel
theorem dX6_wax_39 : decode cX6_wax 39 = .ok (.iand, 1) := by decide +kernel
theorem dX6_wax_40 : decode cX6_wax 40 = .ok (.istore_n 3, 1) := by decide +kernel
theorem dX6_wax_41 : decode cX6_wax 41 = .ok (.aload_n 0, 1) := by decide +kernel
theorem dX6_wax_42 : decode cX6_wax 42 = .ok (.iload_n 2, 1) := by decide +kernel
theorem dX6_wax_43 : decode cX6_wax 43 = .ok (.ifCond .eq 14, 3) := by decide +kernel
theorem dX6_wax_46 : decode cX6_wax 46 = .ok (.aload_n 0, 1) := by decide +kernel
theorem dX6_wax_47 : decode cX6_wax 47 = .ok (.getfield 112, 3) := by decide +kernel
theorem dX6_wax_50 : decode cX6_wax 50 = .ok (.iconst 1, 1) := by decide +kernel
theorem dX6_wax_51 : decode cX6_wax 51 = .ok (.iload_n 1, 1) := by decide +kernel
theorem dX6_wax_52 : decode cX6_wax 52 = .ok (.ishl, 1) := by decide +kernel
theorem dX6_wax_53 : decode cX6_wax 53 = .ok (.ior, 1) := by decide +kernel
theorem dX6_wax_54 : decode cX6_wax 54 = .ok (.goto 13, 3) := by decide +kernel
theorem dX6_wax_57 : decode cX6_wax 57 = .ok (.aload_n 0, 1) := by decide +kernel
theorem dX6_wax_58 : decode cX6_wax 58 = .ok (.getfield 112, 3) := by decide +kernel
theorem dX6_wax_61 : decode cX6_wax 61 = .ok (.iconst 1, 1) := by decide +kernel
theorem dX6_wax_62 : decode cX6_wax 62 = .ok (.iload_n 1, 1) := by decide +kernel
theorem dX6_wax_63 : decode cX6_wax 63 = .ok (.ishl, 1) := by decide +kernel
theorem dX6_wax_64 : decode cX6_wax 64 = .ok (.iconst (-1), 1) := by decide +kernel
theorem dX6_wax_65 : decode cX6_wax 65 = .ok (.ixor, 1) := by decide +kernel
theorem dX6_wax_66 : decode cX6_wax 66 = .ok (.iand, 1) := by decide +kernel
theorem dX6_wax_67 : decode cX6_wax 67 = .ok (.putfield 112, 3) := by decide +kernel
theorem dX6_wax_70 : decode cX6_wax 70 = .ok (.iload_n 3, 1) := by decide +kernel
theorem dX6_wax_71 : decode cX6_wax 71 = .ok (.ireturn, 1) := by decide +kernel
theorem dX6_bind_0 : decode cX6_bind 0 = .ok (.aload_n 0, 1) := by decide +kernel
theorem dX6_bind_1 : decode cX6_bind 1 = .ok (.iload_n 1, 1) := by decide +kernel
theorem dX6_bind_2 : decode cX6_bind 2 = .ok (.invokevirtual 141, 3) := by decide +kernel
theorem dX6_bind_5 : decode cX6_bind 5 = .ok (.ifCond .ne 6, 3) := by decide +kernel
theorem dX6_bind_8 : decode cX6_bind 8 = .ok (.bipush (-101), 2) := by decide +kernel
theorem dX6_bind_10 : decode cX6_bind 10 = .ok (.ireturn, 1) := by decide +kernel
theorem dX6_bind_11 : decode cX6_bind 11 = .ok (.iload_n 2, 1) := by decide +kernel
theorem dX6_bind_12 : decode cX6_bind 12 = .ok (.iconst 0, 1) := by decide +kernel
theorem dX6_bind_13 : decode cX6_bind 13 = .ok (.bipush 9, 2) := by decide +kernel
theorem dX6_bind_15 : decode cX6_bind 15 = .ok (.invokestatic 56, 3) := by decide +kernel
theorem dX6_bind_18 : decode cX6_bind 18 = .ok (.ifCond .ne 6, 3) := by decide +kernel
theorem dX6_bind_21 : decode cX6_bind 21 = .ok (.bipush (-102), 2) := by decide +kernel
theorem dX6_bind_23 : decode cX6_bind 23 = .ok (.ireturn, 1) := by decide +kernel
theorem dX6_bind_24 : decode cX6_bind 24 = .ok (.aload_n 0, 1) := by decide +kernel
theorem dX6_bind_25 : decode cX6_bind 25 = .ok (.getfield 118, 3) := by decide +kernel
theorem dX6_bind_28 : decode cX6_bind 28 = .ok (.iload_n 1, 1) := by decide +kernel
theorem dX6_bind_29 : decode cX6_bind 29 = .ok (.invokestatic 130, 3) := by decide +kernel
theorem dX6_bind_32 : decode cX6_bind 32 = .ok (.ifCond .ne 10, 3) := by decide +kernel
theorem dX6_bind_35 : decode cX6_bind 35 = .ok (.aload_n 0, 1) := by decide +kernel
theorem dX6_bind_36 : decode cX6_bind 36 = .ok (.getfield 127, 3) := by decide +kernel
theorem dX6_bind_39 : decode cX6_bind 39 = .ok (.ifCond .eq 6, 3) := by decide +kernel
theorem dX6_bind_42 : decode cX6_bind 42 = .ok (.bipush (-103), 2) := by decide +kernel
theorem dX6_bind_44 : decode cX6_bind 44 = .ok (.ireturn, 1) := by decide +kernel
theorem dX6_bind_45 : decode cX6_bind 45 = .ok (.aload_n 0, 1) := by decide +kernel
theorem dX6_bind_46 : decode cX6_bind 46 = .ok (.getfield 25, 3) := by decide +kernel
theorem dX6_bind_49 : decode cX6_bind 49 = .ok (.iload_n 1, 1) := by decide +kernel
theorem dX6_bind_50 : decode cX6_bind 50 = .ok (.iaload, 1) := by decide +kernel
theorem dX6_bind_51 : decode cX6_bind 51 = .ok (.istore_n 3, 1) := by decide +kernel
theorem dX6_bind_52 : decode cX6_bind 52 = .ok (.aload_n 0, 1) := by decide +kernel
theorem dX6_bind_53 : decode cX6_bind 53 = .ok (.getfield 25, 3) := by decide +kernel
theorem dX6_bind_56 : decode cX6_bind 56 = .ok (.iload_n 1, 1) := by decide +kernel
theorem dX6_bind_57 : decode cX6_bind 57 = .ok (.iload_n 2, 1) := by decide +kernel
theorem dX6_bind_58 : decode cX6_bind 58 = .ok (.iastore, 1) := by decide +kernel
theorem dX6_bind_59 : decode cX6_bind 59 = .ok (.iload_n 3, 1) := by decide +kernel
theorem dX6_bind_60 : decode cX6_bind 60 = .ok (.ireturn, 1) := by decide +kernel
theorem dX6_everybody_0 : decode cX6_everybody 0 = .ok (.iconst 1, 1) := by decide +kernel
theorem dX6_everybody_1 : decode cX6_everybody 1 = .ok (.aload_n 0, 1) := by decide +kernel
theorem dX6_everybody_2 : decode cX6_everybody 2 = .ok (.getfield 106, 3) := by decide +kernel
theorem dX6_everybody_5 : decode cX6_everybody 5 = .ok (.ishl, 1) := by decide +kernel
theorem dX6_everybody_6 : decode cX6_everybody 6 = .ok (.iconst 1, 1) := by decide +kernel
theorem dX6_everybody_7 : decode cX6_everybody 7 = .ok (.isub, 1) := by decide +kernel
theorem dX6_everybody_8 : decode cX6_everybody 8 = .ok (.ireturn, 1) := by decide +kernel
theorem dX6_swims_0 : decode cX6_swims 0 = .ok (.aload_n 0, 1) := by decide +kernel
theorem dX6_swims_1 : decode cX6_swims 1 = .ok (.getfield 16, 3) := by decide +kernel
theorem dX6_swims_4 : decode cX6_swims 4 = .ok (.iload_n 1, 1) := by decide +kernel
theorem dX6_swims_5 : decode cX6_swims 5 = .ok (.iaload, 1) := by decide +kernel
theorem dX6_swims_6 : decode cX6_swims 6 = .ok (.iconst 2, 1) := by decide +kernel
theorem dX6_swims_7 : decode cX6_swims 7 = .ok (.if_icmp .ne 9, 3) := by decide +kernel
theorem dX6_swims_10 : decode cX6_swims 10 = .ok (.iload_n 2, 1) := by decide +kernel
theorem dX6_swims_11 : decode cX6_swims 11 = .ok (.iconst 2, 1) := by decide +kernel
theorem dX6_swims_12 : decode cX6_swims 12 = .ok (.idiv, 1) := by decide +kernel
theorem dX6_swims_13 : decode cX6_swims 13 = .ok (.goto 4, 3) := by decide +kernel
theorem dX6_swims_16 : decode cX6_swims 16 = .ok (.iload_n 2, 1) := by decide +kernel
theorem dX6_swims_17 : decode cX6_swims 17 = .ok (.istore_n 3, 1) := by decide +kernel
theorem dX6_swims_18 : decode cX6_swims 18 = .ok (.aload_n 0, 1) := by decide +kernel
theorem dX6_swims_19 : decode cX6_swims 19 = .ok (.getfield 118, 3) := by decide +kernel
theorem dX6_swims_22 : decode cX6_swims 22 = .ok (.iload_n 1, 1) := by decide +kernel
theorem dX6_swims_23 : decode cX6_swims 23 = .ok (.invokestatic 130, 3) := by decide +kernel
theorem dX6_swims_26 : decode cX6_swims 26 = .ok (.ifCond .ne 24, 3) := by decide +kernel
theorem dX6_swims_29 : decode cX6_swims 29 = .ok (.aload_n 0, 1) := by decide +kernel
theorem dX6_swims_30 : decode cX6_swims 30 = .ok (.iload_n 1, 1) := by decide +kernel
theorem dX6_swims_31 : decode cX6_swims 31 = .ok (.invokevirtual 134, 3) := by decide +kernel
theorem dX6_swims_34 : decode cX6_swims 34 = .ok (.ifCond .eq 16, 3) := by decide +kernel
theorem dX6_swims_37 : decode cX6_swims 37 = .ok (.aload_n 0, 1) := by decide +kernel
theorem dX6_swims_38 : decode cX6_swims 38 = .ok (.iload_n 1, 1) := by decide +kernel
theorem dX6_swims_39 : decode cX6_swims 39 = .ok (.invokevirtual 138, 3) := by decide +kernel
theorem dX6_swims_42 : decode cX6_swims 42 = .ok (.iload_n 3, 1) := by decide +kernel
theorem dX6_swims_43 : decode cX6_swims 43 = .ok (.if_icmp .ge 7, 3) := by decide +kernel
theorem dX6_swims_46 : decode cX6_swims 46 = .ok (.iconst 1, 1) := by decide +kernel
theorem dX6_swims_47 : decode cX6_swims 47 = .ok (.goto 4, 3) := by decide +kernel
theorem dX6_swims_50 : decode cX6_swims 50 = .ok (.iconst 0, 1) := by decide +kernel
theorem dX6_swims_51 : decode cX6_swims 51 = .ok (.ireturn, 1) := by decide +kernel
theorem dX6_anyHears_0 : decode cX6_anyHears 0 = .ok (.iconst 0, 1) := by decide +kernel
theorem dX6_anyHears_1 : decode cX6_anyHears 1 = .ok (.istore_n 1, 1) := by decide +kernel
theorem dX6_anyHears_2 : decode cX6_anyHears 2 = .ok (.iconst 0, 1) := by decide +kernel
theorem dX6_anyHears_3 : decode cX6_anyHears 3 = .ok (.istore_n 2, 1) := by decide +kernel
theorem dX6_anyHears_4 : decode cX6_anyHears 4 = .ok (.iload_n 2, 1) := by decide +kernel
theorem dX6_anyHears_5 : decode cX6_anyHears 5 = .ok (.aload_n 0, 1) := by decide +kernel
theorem dX6_anyHears_6 : decode cX6_anyHears 6 = .ok (.getfield 106, 3) := by decide +kernel
theorem dX6_anyHears_9 : decode cX6_anyHears 9 = .ok (.if_icmp .ge 38, 3) := by decide +kernel
theorem dX6_anyHears_12 : decode cX6_anyHears 12 = .ok (.iload_n 1, 1) := by decide +kernel
theorem dX6_anyHears_13 : decode cX6_anyHears 13 = .ok (.ifCond .ne 22, 3) := by decide +kernel
theorem dX6_anyHears_16 : decode cX6_anyHears 16 = .ok (.aload_n 0, 1) := by decide +kernel
theorem dX6_anyHears_17 : decode cX6_anyHears 17 = .ok (.getfield 118, 3) := by decide +kernel
theorem dX6_anyHears_20 : decode cX6_anyHears 20 = .ok (.iload_n 2, 1) := by decide +kernel
theorem dX6_anyHears_21 : decode cX6_anyHears 21 = .ok (.invokestatic 130, 3) := by decide +kernel
theorem dX6_anyHears_24 : decode cX6_anyHears 24 = .ok (.ifCond .ne 15, 3) := by decide +kernel
theorem dX6_anyHears_27 : decode cX6_anyHears 27 = .ok (.aload_n 0, 1) := by decide +kernel
theorem dX6_anyHears_28 : decode cX6_anyHears 28 = .ok (.iload_n 2, 1) := by decide +kernel
theorem dX6_anyHears_29 : decode cX6_anyHears 29 = .ok (.invokevirtual 134, 3) := by decide +kernel
theorem dX6_anyHears_32 : decode cX6_anyHears 32 = .ok (.ifCond .eq 7, 3) := by decide +kernel
theorem dX6_anyHears_35 : decode cX6_anyHears 35 = .ok (.iconst 1, 1) := by decide +kernel
theorem dX6_anyHears_36 : decode cX6_anyHears 36 = .ok (.goto 4, 3) := by decide +kernel
theorem dX6_anyHears_39 : decode cX6_anyHears 39 = .ok (.iconst 0, 1) := by decide +kernel
theorem dX6_anyHears_40 : decode cX6_anyHears 40 = .ok (.istore_n 1, 1) := by decide +kernel
theorem dX6_anyHears_41 : decode cX6_anyHears 41 = .ok (.iinc 2 1, 3) := by decide +kernel
theorem dX6_anyHears_44 : decode cX6_anyHears 44 = .ok (.goto (-40), 3) := by decide +kernel
theorem dX6_anyHears_47 : decode cX6_anyHears 47 = .ok (.iload_n 1, 1) := by decide +kernel
theorem dX6_anyHears_48 : decode cX6_anyHears 48 = .ok (.ireturn, 1) := by decide +kernel
theorem dX6_anySees_0 : decode cX6_anySees 0 = .ok (.iconst 0, 1) := by decide +kernel
theorem dX6_anySees_1 : decode cX6_anySees 1 = .ok (.istore_n 1, 1) := by decide +kernel
theorem dX6_anySees_2 : decode cX6_anySees 2 = .ok (.iconst 0, 1) := by decide +kernel
theorem dX6_anySees_3 : decode cX6_anySees 3 = .ok (.istore_n 2, 1) := by decide +kernel
theorem dX6_anySees_4 : decode cX6_anySees 4 = .ok (.iload_n 2, 1) := by decide +kernel
theorem dX6_anySees_5 : decode cX6_anySees 5 = .ok (.aload_n 0, 1) := by decide +kernel
theorem dX6_anySees_6 : decode cX6_anySees 6 = .ok (.getfield 106, 3) := by decide +kernel
theorem dX6_anySees_9 : decode cX6_anySees 9 = .ok (.if_icmp .ge 69, 3) := by decide +kernel
theorem dX6_anySees_12 : decode cX6_anySees 12 = .ok (.aload_n 0, 1) := by decide +kernel
theorem dX6_anySees_13 : decode cX6_anySees 13 = .ok (.getfield 16, 3) := by decide +kernel
theorem dX6_anySees_16 : decode cX6_anySees 16 = .ok (.iload_n 2, 1) := by decide +kernel
theorem dX6_anySees_17 : decode cX6_anySees 17 = .ok (.iaload, 1) := by decide +kernel
theorem dX6_anySees_18 : decode cX6_anySees 18 = .ok (.iconst 3, 1) := by decide +kernel
theorem dX6_anySees_19 : decode cX6_anySees 19 = .ok (.if_icmp .eq 13, 3) := by decide +kernel
theorem dX6_anySees_22 : decode cX6_anySees 22 = .ok (.aload_n 0, 1) := by decide +kernel
theorem dX6_anySees_23 : decode cX6_anySees 23 = .ok (.getfield 16, 3) := by decide +kernel
theorem dX6_anySees_26 : decode cX6_anySees 26 = .ok (.iload_n 2, 1) := by decide +kernel
theorem dX6_anySees_27 : decode cX6_anySees 27 = .ok (.iaload, 1) := by decide +kernel
theorem dX6_anySees_28 : decode cX6_anySees 28 = .ok (.iconst 4, 1) := by decide +kernel
theorem dX6_anySees_29 : decode cX6_anySees 29 = .ok (.if_icmp .ne 7, 3) := by decide +kernel
theorem dX6_anySees_32 : decode cX6_anySees 32 = .ok (.iconst 1, 1) := by decide +kernel
theorem dX6_anySees_33 : decode cX6_anySees 33 = .ok (.goto 4, 3) := by decide +kernel
theorem dX6_anySees_36 : decode cX6_anySees 36 = .ok (.iconst 0, 1) := by decide +kernel
theorem dX6_anySees_37 : decode cX6_anySees 37 = .ok (.istore_n 3, 1) := by decide +kernel
theorem dX6_anySees_38 : decode cX6_anySees 38 = .ok (.iload_n 1, 1) := by decide +kernel
theorem dX6_anySees_39 : decode cX6_anySees 39 = .ok (.ifCond .ne 27, 3) := by decide +kernel
theorem dX6_anySees_42 : decode cX6_anySees 42 = .ok (.aload_n 0, 1) := by decide +kernel
theorem dX6_anySees_43 : decode cX6_anySees 43 = .ok (.getfield 118, 3) := by decide +kernel
theorem dX6_anySees_46 : decode cX6_anySees 46 = .ok (.iload_n 2, 1) := by decide +kernel
theorem dX6_anySees_47 : decode cX6_anySees 47 = .ok (.invokestatic 130, 3) := by decide +kernel
theorem dX6_anySees_50 : decode cX6_anySees 50 = .ok (.ifCond .ne 20, 3) := by decide +kernel
theorem dX6_anySees_53 : decode cX6_anySees 53 = .ok (.iload_n 3, 1) := by decide +kernel
theorem dX6_anySees_54 : decode cX6_anySees 54 = .ok (.ifCond .eq 16, 3) := by decide +kernel
theorem dX6_anySees_57 : decode cX6_anySees 57 = .ok (.aload_n 0, 1) := by decide +kernel
theorem dX6_anySees_58 : decode cX6_anySees 58 = .ok (.getfield 25, 3) := by decide +kernel
theorem dX6_anySees_61 : decode cX6_anySees 61 = .ok (.iload_n 2, 1) := by decide +kernel
theorem dX6_anySees_62 : decode cX6_anySees 62 = .ok (.iaload, 1) := by decide +kernel
theorem dX6_anySees_63 : decode cX6_anySees 63 = .ok (.ifCond .ne 7, 3) := by decide +kernel
theorem dX6_anySees_66 : decode cX6_anySees 66 = .ok (.iconst 1, 1) := by decide +kernel
theorem dX6_anySees_67 : decode cX6_anySees 67 = .ok (.goto 4, 3) := by decide +kernel
theorem dX6_anySees_70 : decode cX6_anySees 70 = .ok (.iconst 0, 1) := by decide +kernel
theorem dX6_anySees_71 : decode cX6_anySees 71 = .ok (.istore_n 1, 1) := by decide +kernel
theorem dX6_anySees_72 : decode cX6_anySees 72 = .ok (.iinc 2 1, 3) := by decide +kernel
theorem dX6_anySees_75 : decode cX6_anySees 75 = .ok (.goto (-71), 3) := by decide +kernel
theorem dX6_anySees_78 : decode cX6_anySees 78 = .ok (.iload_n 1, 1) := by decide +kernel
theorem dX6_anySees_79 : decode cX6_anySees 79 = .ok (.ireturn, 1) := by decide +kernel
theorem dX6_oars_0 : decode cX6_oars 0 = .ok (.iconst 0, 1) := by decide +kernel
theorem dX6_oars_1 : decode cX6_oars 1 = .ok (.istore_n 1, 1) := by decide +kernel
theorem dX6_oars_2 : decode cX6_oars 2 = .ok (.iconst 0, 1) := by decide +kernel
theorem dX6_oars_3 : decode cX6_oars 3 = .ok (.istore_n 2, 1) := by decide +kernel
theorem dX6_oars_4 : decode cX6_oars 4 = .ok (.iload_n 2, 1) := by decide +kernel
theorem dX6_oars_5 : decode cX6_oars 5 = .ok (.aload_n 0, 1) := by decide +kernel
theorem dX6_oars_6 : decode cX6_oars 6 = .ok (.getfield 106, 3) := by decide +kernel
theorem dX6_oars_9 : decode cX6_oars 9 = .ok (.if_icmp .ge 42, 3) := by decide +kernel
theorem dX6_oars_12 : decode cX6_oars 12 = .ok (.iload_n 1, 1) := by decide +kernel
theorem dX6_oars_13 : decode cX6_oars 13 = .ok (.aload_n 0, 1) := by decide +kernel
theorem dX6_oars_14 : decode cX6_oars 14 = .ok (.getfield 118, 3) := by decide +kernel
theorem dX6_oars_17 : decode cX6_oars 17 = .ok (.iload_n 2, 1) := by decide +kernel
theorem dX6_oars_18 : decode cX6_oars 18 = .ok (.invokestatic 130, 3) := by decide +kernel
theorem dX6_oars_21 : decode cX6_oars 21 = .ok (.ifCond .ne 21, 3) := by decide +kernel
theorem dX6_oars_24 : decode cX6_oars 24 = .ok (.aload_n 0, 1) := by decide +kernel
theorem dX6_oars_25 : decode cX6_oars 25 = .ok (.getfield 25, 3) := by decide +kernel
theorem dX6_oars_28 : decode cX6_oars 28 = .ok (.iload_n 2, 1) := by decide +kernel
theorem dX6_oars_29 : decode cX6_oars 29 = .ok (.iaload, 1) := by decide +kernel
theorem dX6_oars_30 : decode cX6_oars 30 = .ok (.ifCond .ne 12, 3) := by decide +kernel
theorem dX6_oars_33 : decode cX6_oars 33 = .ok (.aload_n 0, 1) := by decide +kernel
theorem dX6_oars_34 : decode cX6_oars 34 = .ok (.getfield 19, 3) := by decide +kernel
theorem dX6_oars_37 : decode cX6_oars 37 = .ok (.iload_n 2, 1) := by decide +kernel
theorem dX6_oars_38 : decode cX6_oars 38 = .ok (.iaload, 1) := by decide +kernel
theorem dX6_oars_39 : decode cX6_oars 39 = .ok (.goto 4, 3) := by decide +kernel
theorem dX6_oars_42 : decode cX6_oars 42 = .ok (.iconst 0, 1) := by decide +kernel
theorem dX6_oars_43 : decode cX6_oars 43 = .ok (.iadd, 1) := by decide +kernel
theorem dX6_oars_44 : decode cX6_oars 44 = .ok (.istore_n 1, 1) := by decide +kernel
theorem dX6_oars_45 : decode cX6_oars 45 = .ok (.iinc 2 1, 3) := by decide +kernel
theorem dX6_oars_48 : decode cX6_oars 48 = .ok (.goto (-44), 3) := by decide +kernel
theorem dX6_oars_51 : decode cX6_oars 51 = .ok (.iload_n 1, 1) := by decide +kernel
theorem dX6_oars_52 : decode cX6_oars 52 = .ok (.ireturn, 1) := by decide +kernel
theorem dX6_goStroke_0 : decode cX6_goStroke 0 = .ok (.aload_n 0, 1) := by decide +kernel
theorem dX6_goStroke_1 : decode cX6_goStroke 1 = .ok (.iconst 0, 1) := by decide +kernel
theorem dX6_goStroke_2 : decode cX6_goStroke 2 = .ok (.putfield 147, 3) := by decide +kernel
theorem dX6_goStroke_5 : decode cX6_goStroke 5 = .ok (.iconst 0, 1) := by decide +kernel
theorem dX6_goStroke_6 : decode cX6_goStroke 6 = .ok (.istore_n 1, 1) := by decide +kernel
theorem dX6_goStroke_7 : decode cX6_goStroke 7 = .ok (.iload_n 1, 1) := by decide +kernel
theorem dX6_goStroke_8 : decode cX6_goStroke 8 = .ok (.aload_n 0, 1) := by decide +kernel
theorem dX6_goStroke_9 : decode cX6_goStroke 9 = .ok (.getfield 106, 3) := by decide +kernel
theorem dX6_goStroke_12 : decode cX6_goStroke 12 = .ok (.if_icmp .ge 54, 3) := by decide +kernel
theorem dX6_goStroke_15 : decode cX6_goStroke 15 = .ok (.aload_n 0, 1) := by decide +kernel
theorem dX6_goStroke_16 : decode cX6_goStroke 16 = .ok (.dup, 1) := by decide +kernel
theorem dX6_goStroke_17 : decode cX6_goStroke 17 = .ok (.getfield 147, 3) := by decide +kernel
theorem dX6_goStroke_20 : decode cX6_goStroke 20 = .ok (.aload_n 0, 1) := by decide +kernel
theorem dX6_goStroke_21 : decode cX6_goStroke 21 = .ok (.getfield 7, 3) := by decide +kernel
theorem dX6_goStroke_24 : decode cX6_goStroke 24 = .ok (.aload_n 0, 1) := by decide +kernel
theorem dX6_goStroke_25 : decode cX6_goStroke 25 = .ok (.getfield 121, 3) := by decide +kernel
theorem dX6_goStroke_28 : decode cX6_goStroke 28 = .ok (.iaload, 1) := by decide +kernel
theorem dX6_goStroke_29 : decode cX6_goStroke 29 = .ok (.ifCond .le 26, 3) := by decide +kernel
theorem dX6_goStroke_32 : decode cX6_goStroke 32 = .ok (.aload_n 0, 1) := by decide +kernel
theorem dX6_goStroke_33 : decode cX6_goStroke 33 = .ok (.iload_n 1, 1) := by decide +kernel
theorem dX6_goStroke_34 : decode cX6_goStroke 34 = .ok (.aload_n 0, 1) := by decide +kernel
theorem dX6_goStroke_35 : decode cX6_goStroke 35 = .ok (.getfield 7, 3) := by decide +kernel
theorem dX6_goStroke_38 : decode cX6_goStroke 38 = .ok (.aload_n 0, 1) := by decide +kernel
theorem dX6_goStroke_39 : decode cX6_goStroke 39 = .ok (.getfield 121, 3) := by decide +kernel
theorem dX6_goStroke_42 : decode cX6_goStroke 42 = .ok (.iaload, 1) := by decide +kernel
theorem dX6_goStroke_43 : decode cX6_goStroke 43 = .ok (.invokevirtual 150, 3) := by decide +kernel
theorem dX6_goStroke_46 : decode cX6_goStroke 46 = .ok (.ifCond .eq 9, 3) := by decide +kernel
theorem dX6_goStroke_49 : decode cX6_goStroke 49 = .ok (.iconst 1, 1) := by decide +kernel
theorem dX6_goStroke_50 : decode cX6_goStroke 50 = .ok (.iload_n 1, 1) := by decide +kernel
theorem dX6_goStroke_51 : decode cX6_goStroke 51 = .ok (.ishl, 1) := by decide +kernel
theorem dX6_goStroke_52 : decode cX6_goStroke 52 = .ok (.goto 4, 3) := by decide +kernel
theorem dX6_goStroke_55 : decode cX6_goStroke 55 = .ok (.iconst 0, 1) := by decide +kernel
theorem dX6_goStroke_56 : decode cX6_goStroke 56 = .ok (.ior, 1) := by decide +kernel
theorem dX6_goStroke_57 : decode cX6_goStroke 57 = .ok (.putfield 147, 3) := by decide +kernel
theorem dX6_goStroke_60 : decode cX6_goStroke 60 = .ok (.iinc 1 1, 3) := by decide +kernel
theorem dX6_goStroke_63 : decode cX6_goStroke 63 = .ok (.goto (-56), 3) := by decide +kernel
theorem dX6_goStroke_66 : decode cX6_goStroke 66 = .ok (.aload_n 0, 1) := by decide +kernel
theorem dX6_goStroke_67 : decode cX6_goStroke 67 = .ok (.dup, 1) := by decide +kernel
theorem dX6_goStroke_68 : decode cX6_goStroke 68 = .ok (.getfield 118, 3) := by decide +kernel
theorem dX6_goStroke_71 : decode cX6_goStroke 71 = .ok (.aload_n 0, 1) := by decide +kernel
theorem dX6_goStroke_72 : decode cX6_goStroke 72 = .ok (.getfield 147, 3) := by decide +kernel
theorem dX6_goStroke_75 : decode cX6_goStroke 75 = .ok (.ior, 1) := by decide +kernel
theorem dX6_goStroke_76 : decode cX6_goStroke 76 = .ok (.putfield 118, 3) := by decide +kernel
theorem dX6_goStroke_79 : decode cX6_goStroke 79 = .ok (.aload_n 0, 1) := by decide +kernel
theorem dX6_goStroke_80 : decode cX6_goStroke 80 = .ok (.getfield 118, 3) := by decide +kernel
theorem dX6_goStroke_83 : decode cX6_goStroke 83 = .ok (.aload_n 0, 1) := by decide +kernel
theorem dX6_goStroke_84 : decode cX6_goStroke 84 = .ok (.invokevirtual 153, 3) := by decide +kernel
theorem dX6_goStroke_87 : decode cX6_goStroke 87 = .ok (.if_icmp .ne 11, 3) := by decide +kernel
theorem dX6_goStroke_90 : decode cX6_goStroke 90 = .ok (.aload_n 0, 1) := by decide +kernel
theorem dX6_goStroke_91 : decode cX6_goStroke 91 = .ok (.iconst 3, 1) := by decide +kernel
theorem dX6_goStroke_92 : decode cX6_goStroke 92 = .ok (.putfield 127, 3) := by decide +kernel
theorem dX6_goStroke_95 : decode cX6_goStroke 95 = .ok (.goto 113, 3) := by decide +kernel
theorem dX6_goStroke_98 : decode cX6_goStroke 98 = .ok (.aload_n 0, 1) := by decide +kernel
theorem dX6_goStroke_99 : decode cX6_goStroke 99 = .ok (.getfield 13, 3) := by decide +kernel
theorem dX6_goStroke_102 : decode cX6_goStroke 102 = .ok (.aload_n 0, 1) := by decide +kernel
theorem dX6_goStroke_103 : decode cX6_goStroke 103 = .ok (.getfield 121, 3) := by decide +kernel
theorem dX6_goStroke_106 : decode cX6_goStroke 106 = .ok (.iaload, 1) := by decide +kernel
theorem dX6_goStroke_107 : decode cX6_goStroke 107 = .ok (.iconst 1, 1) := by decide +kernel
theorem dX6_goStroke_108 : decode cX6_goStroke 108 = .ok (.if_icmp .ne 10, 3) := by decide +kernel
theorem dX6_goStroke_111 : decode cX6_goStroke 111 = .ok (.aload_n 0, 1) := by decide +kernel
theorem dX6_goStroke_112 : decode cX6_goStroke 112 = .ok (.invokevirtual 157, 3) := by decide +kernel
theorem dX6_goStroke_115 : decode cX6_goStroke 115 = .ok (.ifCond .eq 23, 3) := by decide +kernel
theorem dX6_goStroke_118 : decode cX6_goStroke 118 = .ok (.aload_n 0, 1) := by decide +kernel
theorem dX6_goStroke_119 : decode cX6_goStroke 119 = .ok (.getfield 13, 3) := by decide +kernel
theorem dX6_goStroke_122 : decode cX6_goStroke 122 = .ok (.aload_n 0, 1) := by decide +kernel
theorem dX6_goStroke_123 : decode cX6_goStroke 123 = .ok (.getfield 121, 3) := by decide +kernel
theorem dX6_goStroke_126 : decode cX6_goStroke 126 = .ok (.iaload, 1) := by decide +kernel
theorem dX6_goStroke_127 : decode cX6_goStroke 127 = .ok (.iconst 2, 1) := by decide +kernel
theorem dX6_goStroke_128 : decode cX6_goStroke 128 = .ok (.if_icmp .ne 26, 3) := by decide +kernel
theorem dX6_goStroke_131 : decode cX6_goStroke 131 = .ok (.aload_n 0, 1) := by decide +kernel
theorem dX6_goStroke_132 : decode cX6_goStroke 132 = .ok (.invokevirtual 161, 3) := by decide +kernel
theorem dX6_goStroke_135 : decode cX6_goStroke 135 = .ok (.ifCond .ne 19, 3) := by decide +kernel
theorem dX6_goStroke_138 : decode cX6_goStroke 138 = .ok (.aload_n 0, 1) := by decide +kernel
theorem dX6_goStroke_139 : decode cX6_goStroke 139 = .ok (.iconst 2, 1) := by decide +kernel
theorem dX6_goStroke_140 : decode cX6_goStroke 140 = .ok (.putfield 127, 3) := by decide +kernel
theorem dX6_goStroke_143 : decode cX6_goStroke 143 = .ok (.aload_n 0, 1) := by decide +kernel
theorem dX6_goStroke_144 : decode cX6_goStroke 144 = .ok (.aload_n 0, 1) := by decide +kernel
theorem dX6_goStroke_145 : decode cX6_goStroke 145 = .ok (.invokevirtual 153, 3) := by decide +kernel
theorem dX6_goStroke_148 : decode cX6_goStroke 148 = .ok (.putfield 118, 3) := by decide +kernel
theorem dX6_goStroke_151 : decode cX6_goStroke 151 = .ok (.goto 57, 3) := by decide +kernel
theorem dX6_goStroke_154 : decode cX6_goStroke 154 = .ok (.aload_n 0, 1) := by decide +kernel
theorem dX6_goStroke_155 : decode cX6_goStroke 155 = .ok (.invokevirtual 164, 3) := by decide +kernel
theorem dX6_goStroke_158 : decode cX6_goStroke 158 = .ok (.aload_n 0, 1) := by decide +kernel
theorem dX6_goStroke_159 : decode cX6_goStroke 159 = .ok (.getfield 91, 3) := by decide +kernel
theorem dX6_goStroke_162 : decode cX6_goStroke 162 = .ok (.if_icmp .lt 46, 3) := by decide +kernel
theorem dX6_goStroke_165 : decode cX6_goStroke 165 = .ok (.aload_n 0, 1) := by decide +kernel
theorem dX6_goStroke_166 : decode cX6_goStroke 166 = .ok (.aload_n 0, 1) := by decide +kernel
theorem dX6_goStroke_167 : decode cX6_goStroke 167 = .ok (.getfield 121, 3) := by decide +kernel
theorem dX6_goStroke_170 : decode cX6_goStroke 170 = .ok (.aload_n 0, 1) := by decide +kernel
theorem dX6_goStroke_171 : decode cX6_goStroke 171 = .ok (.getfield 97, 3) := by decide +kernel
theorem dX6_goStroke_174 : decode cX6_goStroke 174 = .ok (.iconst 1, 1) := by decide +kernel
theorem dX6_goStroke_175 : decode cX6_goStroke 175 = .ok (.isub, 1) := by decide +kernel
theorem dX6_goStroke_176 : decode cX6_goStroke 176 = .ok (.if_icmp .ne 7, 3) := by decide +kernel
theorem dX6_goStroke_179 : decode cX6_goStroke 179 = .ok (.iconst 1, 1) := by decide +kernel
theorem dX6_goStroke_180 : decode cX6_goStroke 180 = .ok (.goto 4, 3) := by decide +kernel
theorem dX6_goStroke_183 : decode cX6_goStroke 183 = .ok (.iconst 0, 1) := by decide +kernel
theorem dX6_goStroke_184 : decode cX6_goStroke 184 = .ok (.putfield 127, 3) := by decide +kernel
theorem dX6_goStroke_187 : decode cX6_goStroke 187 = .ok (.aload_n 0, 1) := by decide +kernel
theorem dX6_goStroke_188 : decode cX6_goStroke 188 = .ok (.dup, 1) := by decide +kernel
theorem dX6_goStroke_189 : decode cX6_goStroke 189 = .ok (.getfield 121, 3) := by decide +kernel
theorem dX6_goStroke_192 : decode cX6_goStroke 192 = .ok (.aload_n 0, 1) := by decide +kernel
theorem dX6_goStroke_193 : decode cX6_goStroke 193 = .ok (.getfield 127, 3) := by decide +kernel
theorem dX6_goStroke_196 : decode cX6_goStroke 196 = .ok (.ifCond .ne 7, 3) := by decide +kernel
theorem dX6_goStroke_199 : decode cX6_goStroke 199 = .ok (.iconst 1, 1) := by decide +kernel
theorem dX6_goStroke_200 : decode cX6_goStroke 200 = .ok (.goto 4, 3) := by decide +kernel
theorem dX6_goStroke_203 : decode cX6_goStroke 203 = .ok (.iconst 0, 1) := by decide +kernel
theorem dX6_goStroke_204 : decode cX6_goStroke 204 = .ok (.iadd, 1) := by decide +kernel
theorem dX6_goStroke_205 : decode cX6_goStroke 205 = .ok (.putfield 121, 3) := by decide +kernel
theorem dX6_goStroke_208 : decode cX6_goStroke 208 = .ok (.aload_n 0, 1) := by decide +kernel
theorem dX6_goStroke_209 : decode cX6_goStroke 209 = .ok (.dup, 1) := by decide +kernel
theorem dX6_goStroke_210 : decode cX6_goStroke 210 = .ok (.getfield 124, 3) := by decide +kernel
theorem dX6_goStroke_213 : decode cX6_goStroke 213 = .ok (.iconst 1, 1) := by decide +kernel
theorem dX6_goStroke_214 : decode cX6_goStroke 214 = .ok (.iadd, 1) := by decide +kernel
theorem dX6_goStroke_215 : decode cX6_goStroke 215 = .ok (.putfield 124, 3) := by decide +kernel
theorem dX6_goStroke_218 : decode cX6_goStroke 218 = .ok (.return_, 1) := by decide +kernel
theorem dX6_isOn_0 : decode cX6_isOn 0 = .ok (.aload_n 0, 1) := by decide +kernel
theorem dX6_isOn_1 : decode cX6_isOn 1 = .ok (.getfield 100, 3) := by decide +kernel
theorem dX6_isOn_4 : decode cX6_isOn 4 = .ok (.ifCond .eq 21, 3) := by decide +kernel
theorem dX6_isOn_7 : decode cX6_isOn 7 = .ok (.aload_n 0, 1) := by decide +kernel
theorem dX6_isOn_8 : decode cX6_isOn 8 = .ok (.getfield 106, 3) := by decide +kernel
theorem dX6_isOn_11 : decode cX6_isOn 11 = .ok (.ifCond .le 14, 3) := by decide +kernel
theorem dX6_isOn_14 : decode cX6_isOn 14 = .ok (.aload_n 0, 1) := by decide +kernel
theorem dX6_isOn_15 : decode cX6_isOn 15 = .ok (.getfield 127, 3) := by decide +kernel
theorem dX6_isOn_18 : decode cX6_isOn 18 = .ok (.ifCond .ne 7, 3) := by decide +kernel
theorem dX6_isOn_21 : decode cX6_isOn 21 = .ok (.iconst 1, 1) := by decide +kernel
theorem dX6_isOn_22 : decode cX6_isOn 22 = .ok (.goto 4, 3) := by decide +kernel
theorem dX6_isOn_25 : decode cX6_isOn 25 = .ok (.iconst 0, 1) := by decide +kernel
theorem dX6_isOn_26 : decode cX6_isOn 26 = .ok (.ireturn, 1) := by decide +kernel
theorem dX6_stroke_0 : decode cX6_stroke 0 = .ok (.aload_n 0, 1) := by decide +kernel
theorem dX6_stroke_1 : decode cX6_stroke 1 = .ok (.invokevirtual 167, 3) := by decide +kernel
theorem dX6_stroke_4 : decode cX6_stroke 4 = .ok (.ifCond .ne 6, 3) := by decide +kernel
theorem dX6_stroke_7 : decode cX6_stroke 7 = .ok (.bipush (-103), 2) := by decide +kernel
theorem dX6_stroke_9 : decode cX6_stroke 9 = .ok (.ireturn, 1) := by decide +kernel
theorem dX6_stroke_10 : decode cX6_stroke 10 = .ok (.aload_n 0, 1) := by decide +kernel
theorem dX6_stroke_11 : decode cX6_stroke 11 = .ok (.invokevirtual 170, 3) := by decide +kernel
theorem dX6_stroke_14 : decode cX6_stroke 14 = .ok (.aload_n 0, 1) := by decide +kernel
theorem dX6_stroke_15 : decode cX6_stroke 15 = .ok (.getfield 127, 3) := by decide +kernel
theorem dX6_stroke_18 : decode cX6_stroke 18 = .ok (.ifCond .ne 10, 3) := by decide +kernel
theorem dX6_stroke_21 : decode cX6_stroke 21 = .ok (.aload_n 0, 1) := by decide +kernel
theorem dX6_stroke_22 : decode cX6_stroke 22 = .ok (.getfield 121, 3) := by decide +kernel
theorem dX6_stroke_25 : decode cX6_stroke 25 = .ok (.goto 4, 3) := by decide +kernel
theorem dX6_stroke_28 : decode cX6_stroke 28 = .ok (.iconst (-1), 1) := by decide +kernel
theorem dX6_stroke_29 : decode cX6_stroke 29 = .ok (.ireturn, 1) := by decide +kernel
theorem dX6_save_0 : decode cX6_save 0 = .ok (.aload_n 0, 1) := by decide +kernel
theorem dX6_save_1 : decode cX6_save 1 = .ok (.aload_n 0, 1) := by decide +kernel
theorem dX6_save_2 : decode cX6_save 2 = .ok (.getfield 112, 3) := by decide +kernel
theorem dX6_save_5 : decode cX6_save 5 = .ok (.putfield 173, 3) := by decide +kernel
theorem dX6_save_8 : decode cX6_save 8 = .ok (.aload_n 0, 1) := by decide +kernel
theorem dX6_save_9 : decode cX6_save 9 = .ok (.aload_n 0, 1) := by decide +kernel
theorem dX6_save_10 : decode cX6_save 10 = .ok (.getfield 118, 3) := by decide +kernel
theorem dX6_save_13 : decode cX6_save 13 = .ok (.putfield 176, 3) := by decide +kernel
theorem dX6_save_16 : decode cX6_save 16 = .ok (.aload_n 0, 1) := by decide +kernel
theorem dX6_save_17 : decode cX6_save 17 = .ok (.aload_n 0, 1) := by decide +kernel
theorem dX6_save_18 : decode cX6_save 18 = .ok (.getfield 121, 3) := by decide +kernel
theorem dX6_save_21 : decode cX6_save 21 = .ok (.putfield 179, 3) := by decide +kernel
theorem dX6_save_24 : decode cX6_save 24 = .ok (.aload_n 0, 1) := by decide +kernel
theorem dX6_save_25 : decode cX6_save 25 = .ok (.aload_n 0, 1) := by decide +kernel
theorem dX6_save_26 : decode cX6_save 26 = .ok (.getfield 124, 3) := by decide +kernel
theorem dX6_save_29 : decode cX6_save 29 = .ok (.putfield 182, 3) := by decide +kernel
theorem dX6_save_32 : decode cX6_save 32 = .ok (.aload_n 0, 1) := by decide +kernel
theorem dX6_save_33 : decode cX6_save 33 = .ok (.aload_n 0, 1) := by decide +kernel
theorem dX6_save_34 : decode cX6_save 34 = .ok (.getfield 127, 3) := by decide +kernel
theorem dX6_save_37 : decode cX6_save 37 = .ok (.putfield 185, 3) := by decide +kernel
theorem dX6_save_40 : decode cX6_save 40 = .ok (.iconst 0, 1) := by decide +kernel
theorem dX6_save_41 : decode cX6_save 41 = .ok (.istore_n 1, 1) := by decide +kernel
theorem dX6_save_42 : decode cX6_save 42 = .ok (.iload_n 1, 1) := by decide +kernel
theorem dX6_save_43 : decode cX6_save 43 = .ok (.iconst 5, 1) := by decide +kernel
theorem dX6_save_44 : decode cX6_save 44 = .ok (.if_icmp .ge 21, 3) := by decide +kernel
theorem dX6_save_47 : decode cX6_save 47 = .ok (.aload_n 0, 1) := by decide +kernel
theorem dX6_save_48 : decode cX6_save 48 = .ok (.getfield 41, 3) := by decide +kernel
theorem dX6_save_51 : decode cX6_save 51 = .ok (.iload_n 1, 1) := by decide +kernel
theorem dX6_save_52 : decode cX6_save 52 = .ok (.aload_n 0, 1) := by decide +kernel
theorem dX6_save_53 : decode cX6_save 53 = .ok (.getfield 25, 3) := by decide +kernel
theorem dX6_save_56 : decode cX6_save 56 = .ok (.iload_n 1, 1) := by decide +kernel
theorem dX6_save_57 : decode cX6_save 57 = .ok (.iaload, 1) := by decide +kernel
theorem dX6_save_58 : decode cX6_save 58 = .ok (.iastore, 1) := by decide +kernel
theorem dX6_save_59 : decode cX6_save 59 = .ok (.iinc 1 1, 3) := by decide +kernel
theorem dX6_save_62 : decode cX6_save 62 = .ok (.goto (-20), 3) := by decide +kernel
theorem dX6_save_65 : decode cX6_save 65 = .ok (.iconst 0, 1) := by decide +kernel
theorem dX6_save_66 : decode cX6_save 66 = .ok (.istore_n 1, 1) := by decide +kernel
theorem dX6_save_67 : decode cX6_save 67 = .ok (.iload_n 1, 1) := by decide +kernel
theorem dX6_save_68 : decode cX6_save 68 = .ok (.bipush 12, 2) := by decide +kernel
theorem dX6_save_70 : decode cX6_save 70 = .ok (.if_icmp .ge 21, 3) := by decide +kernel
theorem dX6_save_73 : decode cX6_save 73 = .ok (.aload_n 0, 1) := by decide +kernel
theorem dX6_save_74 : decode cX6_save 74 = .ok (.getfield 44, 3) := by decide +kernel
theorem dX6_save_77 : decode cX6_save 77 = .ok (.iload_n 1, 1) := by decide +kernel
theorem dX6_save_78 : decode cX6_save 78 = .ok (.aload_n 0, 1) := by decide +kernel
theorem dX6_save_79 : decode cX6_save 79 = .ok (.getfield 7, 3) := by decide +kernel
theorem dX6_save_82 : decode cX6_save 82 = .ok (.iload_n 1, 1) := by decide +kernel
theorem dX6_save_83 : decode cX6_save 83 = .ok (.iaload, 1) := by decide +kernel
theorem dX6_save_84 : decode cX6_save 84 = .ok (.iastore, 1) := by decide +kernel
theorem dX6_save_85 : decode cX6_save 85 = .ok (.iinc 1 1, 3) := by decide +kernel
theorem dX6_save_88 : decode cX6_save 88 = .ok (.goto (-21), 3) := by decide +kernel
theorem dX6_save_91 : decode cX6_save 91 = .ok (.return_, 1) := by decide +kernel
theorem dX6_back_0 : decode cX6_back 0 = .ok (.aload_n 0, 1) := by decide +kernel
theorem dX6_back_1 : decode cX6_back 1 = .ok (.aload_n 0, 1) := by decide +kernel
theorem dX6_back_2 : decode cX6_back 2 = .ok (.getfield 173, 3) := by decide +kernel
theorem dX6_back_5 : decode cX6_back 5 = .ok (.putfield 112, 3) := by decide +kernel
theorem dX6_back_8 : decode cX6_back 8 = .ok (.aload_n 0, 1) := by decide +kernel
theorem dX6_back_9 : decode cX6_back 9 = .ok (.aload_n 0, 1) := by decide +kernel
theorem dX6_back_10 : decode cX6_back 10 = .ok (.getfield 176, 3) := by decide +kernel
theorem dX6_back_13 : decode cX6_back 13 = .ok (.putfield 118, 3) := by decide +kernel
theorem dX6_back_16 : decode cX6_back 16 = .ok (.aload_n 0, 1) := by decide +kernel
theorem dX6_back_17 : decode cX6_back 17 = .ok (.aload_n 0, 1) := by decide +kernel
theorem dX6_back_18 : decode cX6_back 18 = .ok (.getfield 179, 3) := by decide +kernel
theorem dX6_back_21 : decode cX6_back 21 = .ok (.putfield 121, 3) := by decide +kernel
theorem dX6_back_24 : decode cX6_back 24 = .ok (.aload_n 0, 1) := by decide +kernel
theorem dX6_back_25 : decode cX6_back 25 = .ok (.aload_n 0, 1) := by decide +kernel
theorem dX6_back_26 : decode cX6_back 26 = .ok (.getfield 182, 3) := by decide +kernel
theorem dX6_back_29 : decode cX6_back 29 = .ok (.putfield 124, 3) := by decide +kernel
theorem dX6_back_32 : decode cX6_back 32 = .ok (.aload_n 0, 1) := by decide +kernel
theorem dX6_back_33 : decode cX6_back 33 = .ok (.aload_n 0, 1) := by decide +kernel
theorem dX6_back_34 : decode cX6_back 34 = .ok (.getfield 185, 3) := by decide +kernel
theorem dX6_back_37 : decode cX6_back 37 = .ok (.putfield 127, 3) := by decide +kernel
theorem dX6_back_40 : decode cX6_back 40 = .ok (.iconst 0, 1) := by decide +kernel
theorem dX6_back_41 : decode cX6_back 41 = .ok (.istore_n 1, 1) := by decide +kernel
theorem dX6_back_42 : decode cX6_back 42 = .ok (.iload_n 1, 1) := by decide +kernel
theorem dX6_back_43 : decode cX6_back 43 = .ok (.iconst 5, 1) := by decide +kernel
theorem dX6_back_44 : decode cX6_back 44 = .ok (.if_icmp .ge 21, 3) := by decide +kernel
theorem dX6_back_47 : decode cX6_back 47 = .ok (.aload_n 0, 1) := by decide +kernel
theorem dX6_back_48 : decode cX6_back 48 = .ok (.getfield 25, 3) := by decide +kernel
theorem dX6_back_51 : decode cX6_back 51 = .ok (.iload_n 1, 1) := by decide +kernel
theorem dX6_back_52 : decode cX6_back 52 = .ok (.aload_n 0, 1) := by decide +kernel
theorem dX6_back_53 : decode cX6_back 53 = .ok (.getfield 41, 3) := by decide +kernel
theorem dX6_back_56 : decode cX6_back 56 = .ok (.iload_n 1, 1) := by decide +kernel
theorem dX6_back_57 : decode cX6_back 57 = .ok (.iaload, 1) := by decide +kernel
theorem dX6_back_58 : decode cX6_back 58 = .ok (.iastore, 1) := by decide +kernel
theorem dX6_back_59 : decode cX6_back 59 = .ok (.iinc 1 1, 3) := by decide +kernel
theorem dX6_back_62 : decode cX6_back 62 = .ok (.goto (-20), 3) := by decide +kernel
theorem dX6_back_65 : decode cX6_back 65 = .ok (.iconst 0, 1) := by decide +kernel
theorem dX6_back_66 : decode cX6_back 66 = .ok (.istore_n 1, 1) := by decide +kernel
theorem dX6_back_67 : decode cX6_back 67 = .ok (.iload_n 1, 1) := by decide +kernel
theorem dX6_back_68 : decode cX6_back 68 = .ok (.bipush 12, 2) := by decide +kernel
theorem dX6_back_70 : decode cX6_back 70 = .ok (.if_icmp .ge 21, 3) := by decide +kernel
theorem dX6_back_73 : decode cX6_back 73 = .ok (.aload_n 0, 1) := by decide +kernel
theorem dX6_back_74 : decode cX6_back 74 = .ok (.getfield 7, 3) := by decide +kernel
theorem dX6_back_77 : decode cX6_back 77 = .ok (.iload_n 1, 1) := by decide +kernel
theorem dX6_back_78 : decode cX6_back 78 = .ok (.aload_n 0, 1) := by decide +kernel
theorem dX6_back_79 : decode cX6_back 79 = .ok (.getfield 44, 3) := by decide +kernel
theorem dX6_back_82 : decode cX6_back 82 = .ok (.iload_n 1, 1) := by decide +kernel
theorem dX6_back_83 : decode cX6_back 83 = .ok (.iaload, 1) := by decide +kernel
theorem dX6_back_84 : decode cX6_back 84 = .ok (.iastore, 1) := by decide +kernel
theorem dX6_back_85 : decode cX6_back 85 = .ok (.iinc 1 1, 3) := by decide +kernel
theorem dX6_back_88 : decode cX6_back 88 = .ok (.goto (-21), 3) := by decide +kernel
theorem dX6_back_91 : decode cX6_back 91 = .ok (.return_, 1) := by decide +kernel
theorem dX6_goOn_0 : decode cX6_goOn 0 = .ok (.iconst 0, 1) := by decide +kernel
theorem dX6_goOn_1 : decode cX6_goOn 1 = .ok (.istore_n 1, 1) := by decide +kernel
theorem dX6_goOn_2 : decode cX6_goOn 2 = .ok (.iload_n 1, 1) := by decide +kernel
theorem dX6_goOn_3 : decode cX6_goOn 3 = .ok (.bipush 30, 2) := by decide +kernel
theorem dX6_goOn_5 : decode cX6_goOn 5 = .ok (.if_icmp .ge 20, 3) := by decide +kernel
theorem dX6_goOn_8 : decode cX6_goOn 8 = .ok (.aload_n 0, 1) := by decide +kernel
theorem dX6_goOn_9 : decode cX6_goOn 9 = .ok (.getfield 127, 3) := by decide +kernel
theorem dX6_goOn_12 : decode cX6_goOn 12 = .ok (.ifCond .ne 13, 3) := by decide +kernel
theorem dX6_goOn_15 : decode cX6_goOn 15 = .ok (.aload_n 0, 1) := by decide +kernel
theorem dX6_goOn_16 : decode cX6_goOn 16 = .ok (.invokevirtual 170, 3) := by decide +kernel
theorem dX6_goOn_19 : decode cX6_goOn 19 = .ok (.iinc 1 1, 3) := by decide +kernel
theorem dX6_goOn_22 : decode cX6_goOn 22 = .ok (.goto (-20), 3) := by decide +kernel
theorem dX6_goOn_25 : decode cX6_goOn 25 = .ok (.return_, 1) := by decide +kernel
theorem dX6_badness_0 : decode cX6_badness 0 = .ok (.aload_n 0, 1) := by decide +kernel
theorem dX6_badness_1 : decode cX6_badness 1 = .ok (.getfield 118, 3) := by decide +kernel
theorem dX6_badness_4 : decode cX6_badness 4 = .ok (.invokestatic 188, 3) := by decide +kernel
theorem dX6_badness_7 : decode cX6_badness 7 = .ok (.aload_n 0, 1) := by decide +kernel
theorem dX6_badness_8 : decode cX6_badness 8 = .ok (.getfield 127, 3) := by decide +kernel
theorem dX6_badness_11 : decode cX6_badness 11 = .ok (.iconst 1, 1) := by decide +kernel
theorem dX6_badness_12 : decode cX6_badness 12 = .ok (.if_icmp .ne 7, 3) := by decide +kernel
theorem dX6_badness_15 : decode cX6_badness 15 = .ok (.iconst 0, 1) := by decide +kernel
theorem dX6_badness_16 : decode cX6_badness 16 = .ok (.goto 6, 3) := by decide +kernel
theorem dX6_badness_19 : decode cX6_badness 19 = .ok (.sipush 1000, 3) := by decide +kernel
theorem dX6_badness_22 : decode cX6_badness 22 = .ok (.iadd, 1) := by decide +kernel
theorem dX6_badness_23 : decode cX6_badness 23 = .ok (.ireturn, 1) := by decide +kernel
theorem dX6_outcomeNow_0 : decode cX6_outcomeNow 0 = .ok (.aload_n 0, 1) := by decide +kernel
theorem dX6_outcomeNow_1 : decode cX6_outcomeNow 1 = .ok (.invokevirtual 191, 3) := by decide +kernel
theorem dX6_outcomeNow_4 : decode cX6_outcomeNow 4 = .ok (.aload_n 0, 1) := by decide +kernel
theorem dX6_outcomeNow_5 : decode cX6_outcomeNow 5 = .ok (.invokevirtual 194, 3) := by decide +kernel
theorem dX6_outcomeNow_8 : decode cX6_outcomeNow 8 = .ok (.iload_n 1, 1) := by decide +kernel
theorem dX6_outcomeNow_9 : decode cX6_outcomeNow 9 = .ok (.ifCond .ne 13, 3) := by decide +kernel
theorem dX6_outcomeNow_12 : decode cX6_outcomeNow 12 = .ok (.aload_n 0, 1) := by decide +kernel
theorem dX6_outcomeNow_13 : decode cX6_outcomeNow 13 = .ok (.getfield 118, 3) := by decide +kernel
theorem dX6_outcomeNow_16 : decode cX6_outcomeNow 16 = .ok (.invokestatic 188, 3) := by decide +kernel
theorem dX6_outcomeNow_19 : decode cX6_outcomeNow 19 = .ok (.goto 24, 3) := by decide +kernel
theorem dX6_outcomeNow_22 : decode cX6_outcomeNow 22 = .ok (.iload_n 1, 1) := by decide +kernel
theorem dX6_outcomeNow_23 : decode cX6_outcomeNow 23 = .ok (.iconst 1, 1) := by decide +kernel
theorem dX6_outcomeNow_24 : decode cX6_outcomeNow 24 = .ok (.if_icmp .ne 15, 3) := by decide +kernel
theorem dX6_outcomeNow_27 : decode cX6_outcomeNow 27 = .ok (.aload_n 0, 1) := by decide +kernel
theorem dX6_outcomeNow_28 : decode cX6_outcomeNow 28 = .ok (.getfield 124, 3) := by decide +kernel
theorem dX6_outcomeNow_31 : decode cX6_outcomeNow 31 = .ok (.aload_n 0, 1) := by decide +kernel
theorem dX6_outcomeNow_32 : decode cX6_outcomeNow 32 = .ok (.getfield 182, 3) := by decide +kernel
theorem dX6_outcomeNow_35 : decode cX6_outcomeNow 35 = .ok (.isub, 1) := by decide +kernel
theorem dX6_outcomeNow_36 : decode cX6_outcomeNow 36 = .ok (.goto 7, 3) := by decide +kernel
theorem dX6_outcomeNow_39 : decode cX6_outcomeNow 39 = .ok (.aload_n 0, 1) := by decide +kernel
theorem dX6_outcomeNow_40 : decode cX6_outcomeNow 40 = .ok (.getfield 127, 3) := by decide +kernel
theorem dX6_outcomeNow_43 : decode cX6_outcomeNow 43 = .ok (.istore_n 2, 1) := by decide +kernel
theorem dX6_outcomeNow_44 : decode cX6_outcomeNow 44 = .ok (.aload_n 0, 1) := by decide +kernel
theorem dX6_outcomeNow_45 : decode cX6_outcomeNow 45 = .ok (.invokevirtual 197, 3) := by decide +kernel
theorem dX6_outcomeNow_48 : decode cX6_outcomeNow 48 = .ok (.iload_n 2, 1) := by decide +kernel
theorem dX6_outcomeNow_49 : decode cX6_outcomeNow 49 = .ok (.ireturn, 1) := by decide +kernel
theorem dX6_outcome_0 : decode cX6_outcome 0 = .ok (.iload_n 1, 1) := by decide +kernel
theorem dX6_outcome_1 : decode cX6_outcome 1 = .ok (.iconst 0, 1) := by decide +kernel
theorem dX6_outcome_2 : decode cX6_outcome 2 = .ok (.iconst 2, 1) := by decide +kernel
theorem dX6_outcome_3 : decode cX6_outcome 3 = .ok (.invokestatic 56, 3) := by decide +kernel
theorem dX6_outcome_6 : decode cX6_outcome 6 = .ok (.ifCond .ne 6, 3) := by decide +kernel
theorem dX6_outcome_9 : decode cX6_outcome 9 = .ok (.bipush (-102), 2) := by decide +kernel
theorem dX6_outcome_11 : decode cX6_outcome 11 = .ok (.ireturn, 1) := by decide +kernel
theorem dX6_outcome_12 : decode cX6_outcome 12 = .ok (.aload_n 0, 1) := by decide +kernel
theorem dX6_outcome_13 : decode cX6_outcome 13 = .ok (.invokevirtual 167, 3) := by decide +kernel
theorem dX6_outcome_16 : decode cX6_outcome 16 = .ok (.ifCond .eq 11, 3) := by decide +kernel
theorem dX6_outcome_19 : decode cX6_outcome 19 = .ok (.aload_n 0, 1) := by decide +kernel
theorem dX6_outcome_20 : decode cX6_outcome 20 = .ok (.iload_n 1, 1) := by decide +kernel
theorem dX6_outcome_21 : decode cX6_outcome 21 = .ok (.invokevirtual 200, 3) := by decide +kernel
theorem dX6_outcome_24 : decode cX6_outcome 24 = .ok (.goto 5, 3) := by decide +kernel
theorem dX6_outcome_27 : decode cX6_outcome 27 = .ok (.bipush (-103), 2) := by decide +kernel
theorem dX6_outcome_29 : decode cX6_outcome 29 = .ok (.ireturn, 1) := by decide +kernel
theorem dX6_waxingNow_0 : decode cX6_waxingNow 0 = .ok (.iconst (-1), 1) := by decide +kernel
theorem dX6_waxingNow_1 : decode cX6_waxingNow 1 = .ok (.istore_n 3, 1) := by decide +kernel
theorem dX6_waxingNow_2 : decode cX6_waxingNow 2 = .ok (.sipush 2000, 3) := by decide +kernel
theorem dX6_waxingNow_5 : decode cX6_waxingNow 5 = .ok (.istore 4, 2) := by decide +kernel
theorem dX6_waxingNow_7 : decode cX6_waxingNow 7 = .ok (.aload_n 0, 1) := by decide +kernel
theorem dX6_waxingNow_8 : decode cX6_waxingNow 8 = .ok (.invokevirtual 191, 3) := by decide +kernel
theorem dX6_waxingNow_11 : decode cX6_waxingNow 11 = .ok (.iconst 0, 1) := by decide +kernel
theorem dX6_waxingNow_12 : decode cX6_waxingNow 12 = .ok (.istore 5, 2) := by decide +kernel
theorem dX6_waxingNow_14 : decode cX6_waxingNow 14 = .ok (.iload 5, 2) := by decide +kernel
theorem dX6_waxingNow_16 : decode cX6_waxingNow 16 = .ok (.iload_n 1, 1) := by decide +kernel
theorem dX6_waxingNow_17 : decode cX6_waxingNow 17 = .ok (.if_icmp .gt 107, 3) := by decide +kernel
theorem dX6_waxingNow_20 : decode cX6_waxingNow 20 = .ok (.iconst 0, 1) := by decide +kernel
theorem dX6_waxingNow_21 : decode cX6_waxingNow 21 = .ok (.istore 6, 2) := by decide +kernel
theorem dX6_waxingNow_23 : decode cX6_waxingNow 23 = .ok (.iload 6, 2) := by decide +kernel
theorem dX6_waxingNow_25 : decode cX6_waxingNow 25 = .ok (.aload_n 0, 1) := by decide +kernel
theorem dX6_waxingNow_26 : decode cX6_waxingNow 26 = .ok (.invokevirtual 153, 3) := by decide +kernel
theorem dX6_waxingNow_29 : decode cX6_waxingNow 29 = .ok (.if_icmp .gt 89, 3) := by decide +kernel
theorem dX6_waxingNow_32 : decode cX6_waxingNow 32 = .ok (.iload 6, 2) := by decide +kernel
theorem dX6_waxingNow_34 : decode cX6_waxingNow 34 = .ok (.aload_n 0, 1) := by decide +kernel
theorem dX6_waxingNow_35 : decode cX6_waxingNow 35 = .ok (.getfield 118, 3) := by decide +kernel
theorem dX6_waxingNow_38 : decode cX6_waxingNow 38 = .ok (.iand, 1) := by decide +kernel
theorem dX6_waxingNow_39 : decode cX6_waxingNow 39 = .ok (.ifCond .ne 73, 3) := by decide +kernel
theorem dX6_waxingNow_42 : decode cX6_waxingNow 42 = .ok (.iload 6, 2) := by decide +kernel
theorem dX6_waxingNow_44 : decode cX6_waxingNow 44 = .ok (.invokestatic 188, 3) := by decide +kernel
theorem dX6_waxingNow_47 : decode cX6_waxingNow 47 = .ok (.iload 5, 2) := by decide +kernel
theorem dX6_waxingNow_49 : decode cX6_waxingNow 49 = .ok (.if_icmp .ne 63, 3) := by decide +kernel
theorem dX6_waxingNow_52 : decode cX6_waxingNow 52 = .ok (.aload_n 0, 1) := by decide +kernel
theorem dX6_waxingNow_53 : decode cX6_waxingNow 53 = .ok (.aload_n 0, 1) := by decide +kernel
theorem dX6_waxingNow_54 : decode cX6_waxingNow 54 = .ok (.getfield 173, 3) := by decide +kernel
theorem dX6_waxingNow_57 : decode cX6_waxingNow 57 = .ok (.aload_n 0, 1) := by decide +kernel
theorem dX6_waxingNow_58 : decode cX6_waxingNow 58 = .ok (.getfield 118, 3) := by decide +kernel
theorem dX6_waxingNow_61 : decode cX6_waxingNow 61 = .ok (.iand, 1) := by decide +kernel
theorem dX6_waxingNow_62 : decode cX6_waxingNow 62 = .ok (.iload 6, 2) := by decide +kernel
theorem dX6_waxingNow_64 : decode cX6_waxingNow 64 = .ok (.ior, 1) := by decide +kernel
theorem dX6_waxingNow_65 : decode cX6_waxingNow 65 = .ok (.putfield 112, 3) := by decide +kernel
theorem dX6_waxingNow_68 : decode cX6_waxingNow 68 = .ok (.aload_n 0, 1) := by decide +kernel
theorem dX6_waxingNow_69 : decode cX6_waxingNow 69 = .ok (.invokevirtual 194, 3) := by decide +kernel
theorem dX6_waxingNow_72 : decode cX6_waxingNow 72 = .ok (.aload_n 0, 1) := by decide +kernel
theorem dX6_waxingNow_73 : decode cX6_waxingNow 73 = .ok (.invokevirtual 203, 3) := by decide +kernel
theorem dX6_waxingNow_76 : decode cX6_waxingNow 76 = .ok (.iload 4, 2) := by decide +kernel
theorem dX6_waxingNow_78 : decode cX6_waxingNow 78 = .ok (.if_icmp .ge 8, 3) := by decide +kernel
theorem dX6_waxingNow_81 : decode cX6_waxingNow 81 = .ok (.iload 6, 2) := by decide +kernel
theorem dX6_waxingNow_83 : decode cX6_waxingNow 83 = .ok (.goto 4, 3) := by decide +kernel
theorem dX6_waxingNow_86 : decode cX6_waxingNow 86 = .ok (.iload_n 3, 1) := by decide +kernel
theorem dX6_waxingNow_87 : decode cX6_waxingNow 87 = .ok (.istore_n 3, 1) := by decide +kernel
theorem dX6_waxingNow_88 : decode cX6_waxingNow 88 = .ok (.aload_n 0, 1) := by decide +kernel
theorem dX6_waxingNow_89 : decode cX6_waxingNow 89 = .ok (.invokevirtual 203, 3) := by decide +kernel
theorem dX6_waxingNow_92 : decode cX6_waxingNow 92 = .ok (.iload 4, 2) := by decide +kernel
theorem dX6_waxingNow_94 : decode cX6_waxingNow 94 = .ok (.if_icmp .ge 10, 3) := by decide +kernel
theorem dX6_waxingNow_97 : decode cX6_waxingNow 97 = .ok (.aload_n 0, 1) := by decide +kernel
theorem dX6_waxingNow_98 : decode cX6_waxingNow 98 = .ok (.invokevirtual 203, 3) := by decide +kernel
theorem dX6_waxingNow_101 : decode cX6_waxingNow 101 = .ok (.goto 5, 3) := by decide +kernel
theorem dX6_waxingNow_104 : decode cX6_waxingNow 104 = .ok (.iload 4, 2) := by decide +kernel
theorem dX6_waxingNow_106 : decode cX6_waxingNow 106 = .ok (.istore 4, 2) := by decide +kernel
theorem dX6_waxingNow_108 : decode cX6_waxingNow 108 = .ok (.aload_n 0, 1) := by decide +kernel
theorem dX6_waxingNow_109 : decode cX6_waxingNow 109 = .ok (.invokevirtual 197, 3) := by decide +kernel
theorem dX6_waxingNow_112 : decode cX6_waxingNow 112 = .ok (.iinc 6 1, 3) := by decide +kernel
theorem dX6_waxingNow_115 : decode cX6_waxingNow 115 = .ok (.goto (-92), 3) := by decide +kernel
theorem dX6_waxingNow_118 : decode cX6_waxingNow 118 = .ok (.iinc 5 1, 3) := by decide +kernel
theorem dX6_waxingNow_121 : decode cX6_waxingNow 121 = .ok (.goto (-107), 3) := by decide +kernel
theorem dX6_waxingNow_124 : decode cX6_waxingNow 124 = .ok (.iload_n 2, 1) := by decide +kernel
theorem dX6_waxingNow_125 : decode cX6_waxingNow 125 = .ok (.ifCond .ne 12, 3) := by decide +kernel
theorem dX6_waxingNow_128 : decode cX6_waxingNow 128 = .ok (.iload 4, 2) := by decide +kernel
theorem dX6_waxingNow_130 : decode cX6_waxingNow 130 = .ok (.sipush 1000, 3) := by decide +kernel
theorem dX6_waxingNow_133 : decode cX6_waxingNow 133 = .ok (.irem, 1) := by decide +kernel
theorem dX6_waxingNow_134 : decode cX6_waxingNow 134 = .ok (.goto 4, 3) := by decide +kernel
theorem dX6_waxingNow_137 : decode cX6_waxingNow 137 = .ok (.iload_n 3, 1) := by decide +kernel
theorem dX6_waxingNow_138 : decode cX6_waxingNow 138 = .ok (.ireturn, 1) := by decide +kernel
theorem dX6_waxing_0 : decode cX6_waxing 0 = .ok (.iload_n 1, 1) := by decide +kernel
theorem dX6_waxing_1 : decode cX6_waxing 1 = .ok (.iconst 0, 1) := by decide +kernel
theorem dX6_waxing_2 : decode cX6_waxing 2 = .ok (.iconst 5, 1) := by decide +kernel
theorem dX6_waxing_3 : decode cX6_waxing 3 = .ok (.invokestatic 56, 3) := by decide +kernel
theorem dX6_waxing_6 : decode cX6_waxing 6 = .ok (.ifCond .eq 12, 3) := by decide +kernel
theorem dX6_waxing_9 : decode cX6_waxing 9 = .ok (.iload_n 2, 1) := by decide +kernel
theorem dX6_waxing_10 : decode cX6_waxing 10 = .ok (.iconst 0, 1) := by decide +kernel
theorem dX6_waxing_11 : decode cX6_waxing 11 = .ok (.iconst 1, 1) := by decide +kernel
theorem dX6_waxing_12 : decode cX6_waxing 12 = .ok (.invokestatic 56, 3) := by decide +kernel
theorem dX6_waxing_15 : decode cX6_waxing 15 = .ok (.ifCond .ne 6, 3) := by decide +kernel
theorem dX6_waxing_18 : decode cX6_waxing 18 = .ok (.bipush (-102), 2) := by decide +kernel
theorem dX6_waxing_20 : decode cX6_waxing 20 = .ok (.ireturn, 1) := by decide +kernel
theorem dX6_waxing_21 : decode cX6_waxing 21 = .ok (.aload_n 0, 1) := by decide +kernel
theorem dX6_waxing_22 : decode cX6_waxing 22 = .ok (.invokevirtual 167, 3) := by decide +kernel
theorem dX6_waxing_25 : decode cX6_waxing 25 = .ok (.ifCond .eq 12, 3) := by decide +kernel
theorem dX6_waxing_28 : decode cX6_waxing 28 = .ok (.aload_n 0, 1) := by decide +kernel
theorem dX6_waxing_29 : decode cX6_waxing 29 = .ok (.iload_n 1, 1) := by decide +kernel
theorem dX6_waxing_30 : decode cX6_waxing 30 = .ok (.iload_n 2, 1) := by decide +kernel
theorem dX6_waxing_31 : decode cX6_waxing 31 = .ok (.invokevirtual 206, 3) := by decide +kernel
theorem dX6_waxing_34 : decode cX6_waxing 34 = .ok (.goto 5, 3) := by decide +kernel
theorem dX6_waxing_37 : decode cX6_waxing 37 = .ok (.bipush (-103), 2) := by decide +kernel
theorem dX6_waxing_39 : decode cX6_waxing 39 = .ok (.ireturn, 1) := by decide +kernel
theorem dX6_holdNow_0 : decode cX6_holdNow 0 = .ok (.aload_n 0, 1) := by decide +kernel
theorem dX6_holdNow_1 : decode cX6_holdNow 1 = .ok (.invokevirtual 191, 3) := by decide +kernel
theorem dX6_holdNow_4 : decode cX6_holdNow 4 = .ok (.iconst 0, 1) := by decide +kernel
theorem dX6_holdNow_5 : decode cX6_holdNow 5 = .ok (.istore_n 2, 1) := by decide +kernel
theorem dX6_holdNow_6 : decode cX6_holdNow 6 = .ok (.iload_n 2, 1) := by decide +kernel
theorem dX6_holdNow_7 : decode cX6_holdNow 7 = .ok (.bipush 9, 2) := by decide +kernel
theorem dX6_holdNow_9 : decode cX6_holdNow 9 = .ok (.if_icmp .gt 47, 3) := by decide +kernel
theorem dX6_holdNow_12 : decode cX6_holdNow 12 = .ok (.aload_n 0, 1) := by decide +kernel
theorem dX6_holdNow_13 : decode cX6_holdNow 13 = .ok (.getfield 25, 3) := by decide +kernel
theorem dX6_holdNow_16 : decode cX6_holdNow 16 = .ok (.iload_n 1, 1) := by decide +kernel
theorem dX6_holdNow_17 : decode cX6_holdNow 17 = .ok (.iload_n 2, 1) := by decide +kernel
theorem dX6_holdNow_18 : decode cX6_holdNow 18 = .ok (.iastore, 1) := by decide +kernel
theorem dX6_holdNow_19 : decode cX6_holdNow 19 = .ok (.aload_n 0, 1) := by decide +kernel
theorem dX6_holdNow_20 : decode cX6_holdNow 20 = .ok (.invokevirtual 194, 3) := by decide +kernel
theorem dX6_holdNow_23 : decode cX6_holdNow 23 = .ok (.aload_n 0, 1) := by decide +kernel
theorem dX6_holdNow_24 : decode cX6_holdNow 24 = .ok (.getfield 118, 3) := by decide +kernel
theorem dX6_holdNow_27 : decode cX6_holdNow 27 = .ok (.iload_n 1, 1) := by decide +kernel
theorem dX6_holdNow_28 : decode cX6_holdNow 28 = .ok (.invokestatic 130, 3) := by decide +kernel
theorem dX6_holdNow_31 : decode cX6_holdNow 31 = .ok (.ifCond .ne 7, 3) := by decide +kernel
theorem dX6_holdNow_34 : decode cX6_holdNow 34 = .ok (.iconst 1, 1) := by decide +kernel
theorem dX6_holdNow_35 : decode cX6_holdNow 35 = .ok (.goto 4, 3) := by decide +kernel
theorem dX6_holdNow_38 : decode cX6_holdNow 38 = .ok (.iconst 0, 1) := by decide +kernel
theorem dX6_holdNow_39 : decode cX6_holdNow 39 = .ok (.istore_n 3, 1) := by decide +kernel
theorem dX6_holdNow_40 : decode cX6_holdNow 40 = .ok (.aload_n 0, 1) := by decide +kernel
theorem dX6_holdNow_41 : decode cX6_holdNow 41 = .ok (.invokevirtual 197, 3) := by decide +kernel
theorem dX6_holdNow_44 : decode cX6_holdNow 44 = .ok (.iload_n 3, 1) := by decide +kernel
theorem dX6_holdNow_45 : decode cX6_holdNow 45 = .ok (.ifCond .eq 5, 3) := by decide +kernel
theorem dX6_holdNow_48 : decode cX6_holdNow 48 = .ok (.iload_n 2, 1) := by decide +kernel
theorem dX6_holdNow_49 : decode cX6_holdNow 49 = .ok (.ireturn, 1) := by decide +kernel
theorem dX6_holdNow_50 : decode cX6_holdNow 50 = .ok (.iinc 2 1, 3) := by decide +kernel
theorem dX6_holdNow_53 : decode cX6_holdNow 53 = .ok (.goto (-47), 3) := by decide +kernel
theorem dX6_holdNow_56 : decode cX6_holdNow 56 = .ok (.iconst (-1), 1) := by decide +kernel
theorem dX6_holdNow_57 : decode cX6_holdNow 57 = .ok (.ireturn, 1) := by decide +kernel
theorem dX6_hold_0 : decode cX6_hold 0 = .ok (.aload_n 0, 1) := by decide +kernel
theorem dX6_hold_1 : decode cX6_hold 1 = .ok (.iload_n 1, 1) := by decide +kernel
theorem dX6_hold_2 : decode cX6_hold 2 = .ok (.invokevirtual 141, 3) := by decide +kernel
theorem dX6_hold_5 : decode cX6_hold 5 = .ok (.ifCond .ne 6, 3) := by decide +kernel
theorem dX6_hold_8 : decode cX6_hold 8 = .ok (.bipush (-101), 2) := by decide +kernel
theorem dX6_hold_10 : decode cX6_hold 10 = .ok (.ireturn, 1) := by decide +kernel
theorem dX6_hold_11 : decode cX6_hold 11 = .ok (.aload_n 0, 1) := by decide +kernel
theorem dX6_hold_12 : decode cX6_hold 12 = .ok (.invokevirtual 167, 3) := by decide +kernel
theorem dX6_hold_15 : decode cX6_hold 15 = .ok (.ifCond .eq 22, 3) := by decide +kernel
theorem dX6_hold_18 : decode cX6_hold 18 = .ok (.aload_n 0, 1) := by decide +kernel
theorem dX6_hold_19 : decode cX6_hold 19 = .ok (.getfield 118, 3) := by decide +kernel
theorem dX6_hold_22 : decode cX6_hold 22 = .ok (.iload_n 1, 1) := by decide +kernel
theorem dX6_hold_23 : decode cX6_hold 23 = .ok (.invokestatic 130, 3) := by decide +kernel
theorem dX6_hold_26 : decode cX6_hold 26 = .ok (.ifCond .ne 11, 3) := by decide +kernel
theorem dX6_hold_29 : decode cX6_hold 29 = .ok (.aload_n 0, 1) := by decide +kernel
theorem dX6_hold_30 : decode cX6_hold 30 = .ok (.iload_n 1, 1) := by decide +kernel
theorem dX6_hold_31 : decode cX6_hold 31 = .ok (.invokevirtual 209, 3) := by decide +kernel
theorem dX6_hold_34 : decode cX6_hold 34 = .ok (.goto 5, 3) := by decide +kernel
theorem dX6_hold_37 : decode cX6_hold 37 = .ok (.bipush (-103), 2) := by decide +kernel
theorem dX6_hold_39 : decode cX6_hold 39 = .ok (.ireturn, 1) := by decide +kernel
theorem dX6_listenerNow_0 : decode cX6_listenerNow 0 = .ok (.iconst (-1), 1) := by decide +kernel
theorem dX6_listenerNow_1 : decode cX6_listenerNow 1 = .ok (.istore_n 1, 1) := by decide +kernel
theorem dX6_listenerNow_2 : decode cX6_listenerNow 2 = .ok (.sipush 2000, 3) := by decide +kernel
theorem dX6_listenerNow_5 : decode cX6_listenerNow 5 = .ok (.istore_n 2, 1) := by decide +kernel
theorem dX6_listenerNow_6 : decode cX6_listenerNow 6 = .ok (.aload_n 0, 1) := by decide +kernel
theorem dX6_listenerNow_7 : decode cX6_listenerNow 7 = .ok (.invokevirtual 191, 3) := by decide +kernel
theorem dX6_listenerNow_10 : decode cX6_listenerNow 10 = .ok (.iconst 0, 1) := by decide +kernel
theorem dX6_listenerNow_11 : decode cX6_listenerNow 11 = .ok (.istore_n 3, 1) := by decide +kernel
theorem dX6_listenerNow_12 : decode cX6_listenerNow 12 = .ok (.iload_n 3, 1) := by decide +kernel
theorem dX6_listenerNow_13 : decode cX6_listenerNow 13 = .ok (.aload_n 0, 1) := by decide +kernel
theorem dX6_listenerNow_14 : decode cX6_listenerNow 14 = .ok (.getfield 106, 3) := by decide +kernel
theorem dX6_listenerNow_17 : decode cX6_listenerNow 17 = .ok (.if_icmp .ge 149, 3) := by decide +kernel
theorem dX6_listenerNow_20 : decode cX6_listenerNow 20 = .ok (.aload_n 0, 1) := by decide +kernel
theorem dX6_listenerNow_21 : decode cX6_listenerNow 21 = .ok (.getfield 118, 3) := by decide +kernel
theorem dX6_listenerNow_24 : decode cX6_listenerNow 24 = .ok (.iload_n 3, 1) := by decide +kernel
theorem dX6_listenerNow_25 : decode cX6_listenerNow 25 = .ok (.invokestatic 130, 3) := by decide +kernel
theorem dX6_listenerNow_28 : decode cX6_listenerNow 28 = .ok (.ifCond .ne 132, 3) := by decide +kernel
theorem dX6_listenerNow_31 : decode cX6_listenerNow 31 = .ok (.iconst 0, 1) := by decide +kernel
theorem dX6_listenerNow_32 : decode cX6_listenerNow 32 = .ok (.istore 4, 2) := by decide +kernel
theorem dX6_listenerNow_34 : decode cX6_listenerNow 34 = .ok (.iload 4, 2) := by decide +kernel
theorem dX6_listenerNow_36 : decode cX6_listenerNow 36 = .ok (.aload_n 0, 1) := by decide +kernel
theorem dX6_listenerNow_37 : decode cX6_listenerNow 37 = .ok (.getfield 106, 3) := by decide +kernel
theorem dX6_listenerNow_40 : decode cX6_listenerNow 40 = .ok (.if_icmp .ge 50, 3) := by decide +kernel
theorem dX6_listenerNow_43 : decode cX6_listenerNow 43 = .ok (.aload_n 0, 1) := by decide +kernel
theorem dX6_listenerNow_44 : decode cX6_listenerNow 44 = .ok (.getfield 25, 3) := by decide +kernel
theorem dX6_listenerNow_47 : decode cX6_listenerNow 47 = .ok (.iload 4, 2) := by decide +kernel
theorem dX6_listenerNow_49 : decode cX6_listenerNow 49 = .ok (.aload_n 0, 1) := by decide +kernel
theorem dX6_listenerNow_50 : decode cX6_listenerNow 50 = .ok (.getfield 118, 3) := by decide +kernel
theorem dX6_listenerNow_53 : decode cX6_listenerNow 53 = .ok (.iload 4, 2) := by decide +kernel
theorem dX6_listenerNow_55 : decode cX6_listenerNow 55 = .ok (.invokestatic 130, 3) := by decide +kernel
theorem dX6_listenerNow_58 : decode cX6_listenerNow 58 = .ok (.ifCond .eq 13, 3) := by decide +kernel
theorem dX6_listenerNow_61 : decode cX6_listenerNow 61 = .ok (.aload_n 0, 1) := by decide +kernel
theorem dX6_listenerNow_62 : decode cX6_listenerNow 62 = .ok (.getfield 25, 3) := by decide +kernel
theorem dX6_listenerNow_65 : decode cX6_listenerNow 65 = .ok (.iload 4, 2) := by decide +kernel
theorem dX6_listenerNow_67 : decode cX6_listenerNow 67 = .ok (.iaload, 1) := by decide +kernel
theorem dX6_listenerNow_68 : decode cX6_listenerNow 68 = .ok (.goto 15, 3) := by decide +kernel
theorem dX6_listenerNow_71 : decode cX6_listenerNow 71 = .ok (.iload 4, 2) := by decide +kernel
theorem dX6_listenerNow_73 : decode cX6_listenerNow 73 = .ok (.iload_n 3, 1) := by decide +kernel
theorem dX6_listenerNow_74 : decode cX6_listenerNow 74 = .ok (.if_icmp .ne 8, 3) := by decide +kernel
theorem dX6_listenerNow_77 : decode cX6_listenerNow 77 = .ok (.bipush 9, 2) := by decide +kernel
theorem dX6_listenerNow_79 : decode cX6_listenerNow 79 = .ok (.goto 4, 3) := by decide +kernel
theorem dX6_listenerNow_82 : decode cX6_listenerNow 82 = .ok (.iconst 0, 1) := by decide +kernel
theorem dX6_listenerNow_83 : decode cX6_listenerNow 83 = .ok (.iastore, 1) := by decide +kernel
theorem dX6_listenerNow_84 : decode cX6_listenerNow 84 = .ok (.iinc 4 1, 3) := by decide +kernel
theorem dX6_listenerNow_87 : decode cX6_listenerNow 87 = .ok (.goto (-53), 3) := by decide +kernel
theorem dX6_listenerNow_90 : decode cX6_listenerNow 90 = .ok (.aload_n 0, 1) := by decide +kernel
theorem dX6_listenerNow_91 : decode cX6_listenerNow 91 = .ok (.aload_n 0, 1) := by decide +kernel
theorem dX6_listenerNow_92 : decode cX6_listenerNow 92 = .ok (.getfield 173, 3) := by decide +kernel
theorem dX6_listenerNow_95 : decode cX6_listenerNow 95 = .ok (.aload_n 0, 1) := by decide +kernel
theorem dX6_listenerNow_96 : decode cX6_listenerNow 96 = .ok (.getfield 118, 3) := by decide +kernel
theorem dX6_listenerNow_99 : decode cX6_listenerNow 99 = .ok (.iand, 1) := by decide +kernel
theorem dX6_listenerNow_100 : decode cX6_listenerNow 100 = .ok (.aload_n 0, 1) := by decide +kernel
theorem dX6_listenerNow_101 : decode cX6_listenerNow 101 = .ok (.invokevirtual 153, 3) := by decide +kernel
theorem dX6_listenerNow_104 : decode cX6_listenerNow 104 = .ok (.aload_n 0, 1) := by decide +kernel
theorem dX6_listenerNow_105 : decode cX6_listenerNow 105 = .ok (.getfield 118, 3) := by decide +kernel
theorem dX6_listenerNow_108 : decode cX6_listenerNow 108 = .ok (.iconst (-1), 1) := by decide +kernel
theorem dX6_listenerNow_109 : decode cX6_listenerNow 109 = .ok (.ixor, 1) := by decide +kernel
theorem dX6_listenerNow_110 : decode cX6_listenerNow 110 = .ok (.iand, 1) := by decide +kernel
theorem dX6_listenerNow_111 : decode cX6_listenerNow 111 = .ok (.iconst 1, 1) := by decide +kernel
theorem dX6_listenerNow_112 : decode cX6_listenerNow 112 = .ok (.iload_n 3, 1) := by decide +kernel
theorem dX6_listenerNow_113 : decode cX6_listenerNow 113 = .ok (.ishl, 1) := by decide +kernel
theorem dX6_listenerNow_114 : decode cX6_listenerNow 114 = .ok (.iconst (-1), 1) := by decide +kernel
theorem dX6_listenerNow_115 : decode cX6_listenerNow 115 = .ok (.ixor, 1) := by decide +kernel
theorem dX6_listenerNow_116 : decode cX6_listenerNow 116 = .ok (.iand, 1) := by decide +kernel
theorem dX6_listenerNow_117 : decode cX6_listenerNow 117 = .ok (.ior, 1) := by decide +kernel
theorem dX6_listenerNow_118 : decode cX6_listenerNow 118 = .ok (.putfield 112, 3) := by decide +kernel
theorem dX6_listenerNow_121 : decode cX6_listenerNow 121 = .ok (.aload_n 0, 1) := by decide +kernel
theorem dX6_listenerNow_122 : decode cX6_listenerNow 122 = .ok (.invokevirtual 194, 3) := by decide +kernel
theorem dX6_listenerNow_125 : decode cX6_listenerNow 125 = .ok (.aload_n 0, 1) := by decide +kernel
theorem dX6_listenerNow_126 : decode cX6_listenerNow 126 = .ok (.invokevirtual 203, 3) := by decide +kernel
theorem dX6_listenerNow_129 : decode cX6_listenerNow 129 = .ok (.iload_n 2, 1) := by decide +kernel
theorem dX6_listenerNow_130 : decode cX6_listenerNow 130 = .ok (.if_icmp .ge 7, 3) := by decide +kernel
theorem dX6_listenerNow_133 : decode cX6_listenerNow 133 = .ok (.iload_n 3, 1) := by decide +kernel
theorem dX6_listenerNow_134 : decode cX6_listenerNow 134 = .ok (.goto 4, 3) := by decide +kernel
theorem dX6_listenerNow_137 : decode cX6_listenerNow 137 = .ok (.iload_n 1, 1) := by decide +kernel
theorem dX6_listenerNow_138 : decode cX6_listenerNow 138 = .ok (.istore_n 1, 1) := by decide +kernel
theorem dX6_listenerNow_139 : decode cX6_listenerNow 139 = .ok (.aload_n 0, 1) := by decide +kernel
theorem dX6_listenerNow_140 : decode cX6_listenerNow 140 = .ok (.invokevirtual 203, 3) := by decide +kernel
theorem dX6_listenerNow_143 : decode cX6_listenerNow 143 = .ok (.iload_n 2, 1) := by decide +kernel
theorem dX6_listenerNow_144 : decode cX6_listenerNow 144 = .ok (.if_icmp .ge 10, 3) := by decide +kernel
theorem dX6_listenerNow_147 : decode cX6_listenerNow 147 = .ok (.aload_n 0, 1) := by decide +kernel
theorem dX6_listenerNow_148 : decode cX6_listenerNow 148 = .ok (.invokevirtual 203, 3) := by decide +kernel
theorem dX6_listenerNow_151 : decode cX6_listenerNow 151 = .ok (.goto 4, 3) := by decide +kernel
theorem dX6_listenerNow_154 : decode cX6_listenerNow 154 = .ok (.iload_n 2, 1) := by decide +kernel
theorem dX6_listenerNow_155 : decode cX6_listenerNow 155 = .ok (.istore_n 2, 1) := by decide +kernel
theorem dX6_listenerNow_156 : decode cX6_listenerNow 156 = .ok (.aload_n 0, 1) := by decide +kernel
theorem dX6_listenerNow_157 : decode cX6_listenerNow 157 = .ok (.invokevirtual 197, 3) := by decide +kernel
theorem dX6_listenerNow_160 : decode cX6_listenerNow 160 = .ok (.iinc 3 1, 3) := by decide +kernel
theorem dX6_listenerNow_163 : decode cX6_listenerNow 163 = .ok (.goto (-151), 3) := by decide +kernel
theorem dX6_listenerNow_166 : decode cX6_listenerNow 166 = .ok (.iload_n 1, 1) := by decide +kernel
theorem dX6_listenerNow_167 : decode cX6_listenerNow 167 = .ok (.ireturn, 1) := by decide +kernel
theorem dX6_listener_0 : decode cX6_listener 0 = .ok (.aload_n 0, 1) := by decide +kernel
theorem dX6_listener_1 : decode cX6_listener 1 = .ok (.invokevirtual 167, 3) := by decide +kernel
theorem dX6_listener_4 : decode cX6_listener 4 = .ok (.ifCond .eq 10, 3) := by decide +kernel
theorem dX6_listener_7 : decode cX6_listener 7 = .ok (.aload_n 0, 1) := by decide +kernel
theorem dX6_listener_8 : decode cX6_listener 8 = .ok (.invokevirtual 212, 3) := by decide +kernel
theorem dX6_listener_11 : decode cX6_listener 11 = .ok (.goto 5, 3) := by decide +kernel
theorem dX6_listener_14 : decode cX6_listener 14 = .ok (.bipush (-103), 2) := by decide +kernel
theorem dX6_listener_16 : decode cX6_listener 16 = .ok (.ireturn, 1) := by decide +kernel
theorem dX6_soldNow_0 : decode cX6_soldNow 0 = .ok (.aload_n 0, 1) := by decide +kernel
theorem dX6_soldNow_1 : decode cX6_soldNow 1 = .ok (.invokevirtual 191, 3) := by decide +kernel
theorem dX6_soldNow_4 : decode cX6_soldNow 4 = .ok (.iconst 0, 1) := by decide +kernel
theorem dX6_soldNow_5 : decode cX6_soldNow 5 = .ok (.istore_n 1, 1) := by decide +kernel
theorem dX6_soldNow_6 : decode cX6_soldNow 6 = .ok (.iload_n 1, 1) := by decide +kernel
theorem dX6_soldNow_7 : decode cX6_soldNow 7 = .ok (.bipush 9, 2) := by decide +kernel
theorem dX6_soldNow_9 : decode cX6_soldNow 9 = .ok (.if_icmp .gt 84, 3) := by decide +kernel
theorem dX6_soldNow_12 : decode cX6_soldNow 12 = .ok (.iconst 0, 1) := by decide +kernel
theorem dX6_soldNow_13 : decode cX6_soldNow 13 = .ok (.istore_n 2, 1) := by decide +kernel
theorem dX6_soldNow_14 : decode cX6_soldNow 14 = .ok (.iload_n 2, 1) := by decide +kernel
theorem dX6_soldNow_15 : decode cX6_soldNow 15 = .ok (.aload_n 0, 1) := by decide +kernel
theorem dX6_soldNow_16 : decode cX6_soldNow 16 = .ok (.getfield 97, 3) := by decide +kernel
theorem dX6_soldNow_19 : decode cX6_soldNow 19 = .ok (.if_icmp .ge 37, 3) := by decide +kernel
theorem dX6_soldNow_22 : decode cX6_soldNow 22 = .ok (.aload_n 0, 1) := by decide +kernel
theorem dX6_soldNow_23 : decode cX6_soldNow 23 = .ok (.getfield 7, 3) := by decide +kernel
theorem dX6_soldNow_26 : decode cX6_soldNow 26 = .ok (.iload_n 2, 1) := by decide +kernel
theorem dX6_soldNow_27 : decode cX6_soldNow 27 = .ok (.aload_n 0, 1) := by decide +kernel
theorem dX6_soldNow_28 : decode cX6_soldNow 28 = .ok (.getfield 7, 3) := by decide +kernel
theorem dX6_soldNow_31 : decode cX6_soldNow 31 = .ok (.iload_n 2, 1) := by decide +kernel
theorem dX6_soldNow_32 : decode cX6_soldNow 32 = .ok (.iaload, 1) := by decide +kernel
theorem dX6_soldNow_33 : decode cX6_soldNow 33 = .ok (.iload_n 1, 1) := by decide +kernel
theorem dX6_soldNow_34 : decode cX6_soldNow 34 = .ok (.if_icmp .le 14, 3) := by decide +kernel
theorem dX6_soldNow_37 : decode cX6_soldNow 37 = .ok (.aload_n 0, 1) := by decide +kernel
theorem dX6_soldNow_38 : decode cX6_soldNow 38 = .ok (.getfield 7, 3) := by decide +kernel
theorem dX6_soldNow_41 : decode cX6_soldNow 41 = .ok (.iload_n 2, 1) := by decide +kernel
theorem dX6_soldNow_42 : decode cX6_soldNow 42 = .ok (.iaload, 1) := by decide +kernel
theorem dX6_soldNow_43 : decode cX6_soldNow 43 = .ok (.iload_n 1, 1) := by decide +kernel
theorem dX6_soldNow_44 : decode cX6_soldNow 44 = .ok (.isub, 1) := by decide +kernel
theorem dX6_soldNow_45 : decode cX6_soldNow 45 = .ok (.goto 4, 3) := by decide +kernel
theorem dX6_soldNow_48 : decode cX6_soldNow 48 = .ok (.iconst 0, 1) := by decide +kernel
theorem dX6_soldNow_49 : decode cX6_soldNow 49 = .ok (.iastore, 1) := by decide +kernel
theorem dX6_soldNow_50 : decode cX6_soldNow 50 = .ok (.iinc 2 1, 3) := by decide +kernel
theorem dX6_soldNow_53 : decode cX6_soldNow 53 = .ok (.goto (-39), 3) := by decide +kernel
theorem dX6_soldNow_56 : decode cX6_soldNow 56 = .ok (.aload_n 0, 1) := by decide +kernel
theorem dX6_soldNow_57 : decode cX6_soldNow 57 = .ok (.invokevirtual 194, 3) := by decide +kernel
theorem dX6_soldNow_60 : decode cX6_soldNow 60 = .ok (.aload_n 0, 1) := by decide +kernel
theorem dX6_soldNow_61 : decode cX6_soldNow 61 = .ok (.getfield 118, 3) := by decide +kernel
theorem dX6_soldNow_64 : decode cX6_soldNow 64 = .ok (.aload_n 0, 1) := by decide +kernel
theorem dX6_soldNow_65 : decode cX6_soldNow 65 = .ok (.getfield 176, 3) := by decide +kernel
theorem dX6_soldNow_68 : decode cX6_soldNow 68 = .ok (.if_icmp .ne 7, 3) := by decide +kernel
theorem dX6_soldNow_71 : decode cX6_soldNow 71 = .ok (.iconst 1, 1) := by decide +kernel
theorem dX6_soldNow_72 : decode cX6_soldNow 72 = .ok (.goto 4, 3) := by decide +kernel
theorem dX6_soldNow_75 : decode cX6_soldNow 75 = .ok (.iconst 0, 1) := by decide +kernel
theorem dX6_soldNow_76 : decode cX6_soldNow 76 = .ok (.istore_n 2, 1) := by decide +kernel
theorem dX6_soldNow_77 : decode cX6_soldNow 77 = .ok (.aload_n 0, 1) := by decide +kernel
theorem dX6_soldNow_78 : decode cX6_soldNow 78 = .ok (.invokevirtual 197, 3) := by decide +kernel
theorem dX6_soldNow_81 : decode cX6_soldNow 81 = .ok (.iload_n 2, 1) := by decide +kernel
theorem dX6_soldNow_82 : decode cX6_soldNow 82 = .ok (.ifCond .eq 5, 3) := by decide +kernel
theorem dX6_soldNow_85 : decode cX6_soldNow 85 = .ok (.iload_n 1, 1) := by decide +kernel
theorem dX6_soldNow_86 : decode cX6_soldNow 86 = .ok (.ireturn, 1) := by decide +kernel
theorem dX6_soldNow_87 : decode cX6_soldNow 87 = .ok (.iinc 1 1, 3) := by decide +kernel
theorem dX6_soldNow_90 : decode cX6_soldNow 90 = .ok (.goto (-84), 3) := by decide +kernel
theorem dX6_soldNow_93 : decode cX6_soldNow 93 = .ok (.iconst (-1), 1) := by decide +kernel
theorem dX6_soldNow_94 : decode cX6_soldNow 94 = .ok (.ireturn, 1) := by decide +kernel
theorem dX6_sold_0 : decode cX6_sold 0 = .ok (.aload_n 0, 1) := by decide +kernel
theorem dX6_sold_1 : decode cX6_sold 1 = .ok (.invokevirtual 167, 3) := by decide +kernel
theorem dX6_sold_4 : decode cX6_sold 4 = .ok (.ifCond .eq 10, 3) := by decide +kernel
theorem dX6_sold_7 : decode cX6_sold 7 = .ok (.aload_n 0, 1) := by decide +kernel
theorem dX6_sold_8 : decode cX6_sold 8 = .ok (.invokevirtual 215, 3) := by decide +kernel
theorem dX6_sold_11 : decode cX6_sold 11 = .ok (.goto 5, 3) := by decide +kernel
theorem dX6_sold_14 : decode cX6_sold 14 = .ok (.bipush (-103), 2) := by decide +kernel
theorem dX6_sold_16 : decode cX6_sold 16 = .ok (.ireturn, 1) := by decide +kernel
theorem dX6_log_0 : decode cX6_log 0 = .ok (.iload_n 1, 1) := by decide +kernel
theorem dX6_log_1 : decode cX6_log 1 = .ok (.iconst 0, 1) := by decide +kernel
theorem dX6_log_2 : decode cX6_log 2 = .ok (.aload_n 0, 1) := by decide +kernel
theorem dX6_log_3 : decode cX6_log 3 = .ok (.invokevirtual 153, 3) := by decide +kernel
theorem dX6_log_6 : decode cX6_log 6 = .ok (.invokestatic 56, 3) := by decide +kernel
theorem dX6_log_9 : decode cX6_log 9 = .ok (.ifCond .ne 6, 3) := by decide +kernel
theorem dX6_log_12 : decode cX6_log 12 = .ok (.bipush (-102), 2) := by decide +kernel
theorem dX6_log_14 : decode cX6_log 14 = .ok (.ireturn, 1) := by decide +kernel
theorem dX6_log_15 : decode cX6_log 15 = .ok (.aload_n 0, 1) := by decide +kernel
theorem dX6_log_16 : decode cX6_log 16 = .ok (.getfield 109, 3) := by decide +kernel
theorem dX6_log_19 : decode cX6_log 19 = .ok (.bipush 8, 2) := by decide +kernel
theorem dX6_log_21 : decode cX6_log 21 = .ok (.if_icmp .ne 6, 3) := by decide +kernel
theorem dX6_log_24 : decode cX6_log 24 = .ok (.bipush (-104), 2) := by decide +kernel
theorem dX6_log_26 : decode cX6_log 26 = .ok (.ireturn, 1) := by decide +kernel
theorem dX6_log_27 : decode cX6_log 27 = .ok (.aload_n 0, 1) := by decide +kernel
theorem dX6_log_28 : decode cX6_log 28 = .ok (.getfield 28, 3) := by decide +kernel
theorem dX6_log_31 : decode cX6_log 31 = .ok (.aload_n 0, 1) := by decide +kernel
theorem dX6_log_32 : decode cX6_log 32 = .ok (.getfield 109, 3) := by decide +kernel
theorem dX6_log_35 : decode cX6_log 35 = .ok (.iload_n 1, 1) := by decide +kernel
theorem dX6_log_36 : decode cX6_log 36 = .ok (.iastore, 1) := by decide +kernel
theorem dX6_log_37 : decode cX6_log 37 = .ok (.aload_n 0, 1) := by decide +kernel
theorem dX6_log_38 : decode cX6_log 38 = .ok (.dup, 1) := by decide +kernel
theorem dX6_log_39 : decode cX6_log 39 = .ok (.getfield 109, 3) := by decide +kernel
theorem dX6_log_42 : decode cX6_log 42 = .ok (.iconst 1, 1) := by decide +kernel
theorem dX6_log_43 : decode cX6_log 43 = .ok (.iadd, 1) := by decide +kernel
theorem dX6_log_44 : decode cX6_log 44 = .ok (.putfield 109, 3) := by decide +kernel
theorem dX6_log_47 : decode cX6_log 47 = .ok (.aload_n 0, 1) := by decide +kernel
theorem dX6_log_48 : decode cX6_log 48 = .ok (.getfield 109, 3) := by decide +kernel
theorem dX6_log_51 : decode cX6_log 51 = .ok (.ireturn, 1) := by decide +kernel
theorem dX6_forget_0 : decode cX6_forget 0 = .ok (.aload_n 0, 1) := by decide +kernel
theorem dX6_forget_1 : decode cX6_forget 1 = .ok (.getfield 109, 3) := by decide +kernel
theorem dX6_forget_4 : decode cX6_forget 4 = .ok (.istore_n 1, 1) := by decide +kernel
theorem dX6_forget_5 : decode cX6_forget 5 = .ok (.aload_n 0, 1) := by decide +kernel
theorem dX6_forget_6 : decode cX6_forget 6 = .ok (.iconst 0, 1) := by decide +kernel
theorem dX6_forget_7 : decode cX6_forget 7 = .ok (.putfield 109, 3) := by decide +kernel
theorem dX6_forget_10 : decode cX6_forget 10 = .ok (.iload_n 1, 1) := by decide +kernel
theorem dX6_forget_11 : decode cX6_forget 11 = .ok (.ireturn, 1) := by decide +kernel
theorem dX6_isLoggedSo_0 : decode cX6_isLoggedSo 0 = .ok (.aload_n 0, 1) := by decide +kernel
theorem dX6_isLoggedSo_1 : decode cX6_isLoggedSo 1 = .ok (.invokevirtual 115, 3) := by decide +kernel
theorem dX6_isLoggedSo_4 : decode cX6_isLoggedSo 4 = .ok (.aload_n 0, 1) := by decide +kernel
theorem dX6_isLoggedSo_5 : decode cX6_isLoggedSo 5 = .ok (.iload_n 1, 1) := by decide +kernel
theorem dX6_isLoggedSo_6 : decode cX6_isLoggedSo 6 = .ok (.putfield 112, 3) := by decide +kernel
theorem dX6_isLoggedSo_9 : decode cX6_isLoggedSo 9 = .ok (.iconst 1, 1) := by decide +kernel
theorem dX6_isLoggedSo_10 : decode cX6_isLoggedSo 10 = .ok (.istore_n 2, 1) := by decide +kernel
theorem dX6_isLoggedSo_11 : decode cX6_isLoggedSo 11 = .ok (.iconst 0, 1) := by decide +kernel
theorem dX6_isLoggedSo_12 : decode cX6_isLoggedSo 12 = .ok (.istore_n 3, 1) := by decide +kernel
theorem dX6_isLoggedSo_13 : decode cX6_isLoggedSo 13 = .ok (.iload_n 3, 1) := by decide +kernel
theorem dX6_isLoggedSo_14 : decode cX6_isLoggedSo 14 = .ok (.aload_n 0, 1) := by decide +kernel
theorem dX6_isLoggedSo_15 : decode cX6_isLoggedSo 15 = .ok (.getfield 109, 3) := by decide +kernel
theorem dX6_isLoggedSo_18 : decode cX6_isLoggedSo 18 = .ok (.if_icmp .ge 48, 3) := by decide +kernel
theorem dX6_isLoggedSo_21 : decode cX6_isLoggedSo 21 = .ok (.aload_n 0, 1) := by decide +kernel
theorem dX6_isLoggedSo_22 : decode cX6_isLoggedSo 22 = .ok (.iconst 0, 1) := by decide +kernel
theorem dX6_isLoggedSo_23 : decode cX6_isLoggedSo 23 = .ok (.putfield 147, 3) := by decide +kernel
theorem dX6_isLoggedSo_26 : decode cX6_isLoggedSo 26 = .ok (.aload_n 0, 1) := by decide +kernel
theorem dX6_isLoggedSo_27 : decode cX6_isLoggedSo 27 = .ok (.getfield 127, 3) := by decide +kernel
theorem dX6_isLoggedSo_30 : decode cX6_isLoggedSo 30 = .ok (.ifCond .ne 7, 3) := by decide +kernel
theorem dX6_isLoggedSo_33 : decode cX6_isLoggedSo 33 = .ok (.aload_n 0, 1) := by decide +kernel
theorem dX6_isLoggedSo_34 : decode cX6_isLoggedSo 34 = .ok (.invokevirtual 170, 3) := by decide +kernel
theorem dX6_isLoggedSo_37 : decode cX6_isLoggedSo 37 = .ok (.iload_n 2, 1) := by decide +kernel
theorem dX6_isLoggedSo_38 : decode cX6_isLoggedSo 38 = .ok (.ifCond .eq 20, 3) := by decide +kernel
theorem dX6_isLoggedSo_41 : decode cX6_isLoggedSo 41 = .ok (.aload_n 0, 1) := by decide +kernel
theorem dX6_isLoggedSo_42 : decode cX6_isLoggedSo 42 = .ok (.getfield 147, 3) := by decide +kernel
theorem dX6_isLoggedSo_45 : decode cX6_isLoggedSo 45 = .ok (.aload_n 0, 1) := by decide +kernel
theorem dX6_isLoggedSo_46 : decode cX6_isLoggedSo 46 = .ok (.getfield 28, 3) := by decide +kernel
theorem dX6_isLoggedSo_49 : decode cX6_isLoggedSo 49 = .ok (.iload_n 3, 1) := by decide +kernel
theorem dX6_isLoggedSo_50 : decode cX6_isLoggedSo 50 = .ok (.iaload, 1) := by decide +kernel
theorem dX6_isLoggedSo_51 : decode cX6_isLoggedSo 51 = .ok (.if_icmp .ne 7, 3) := by decide +kernel
theorem dX6_isLoggedSo_54 : decode cX6_isLoggedSo 54 = .ok (.iconst 1, 1) := by decide +kernel
theorem dX6_isLoggedSo_55 : decode cX6_isLoggedSo 55 = .ok (.goto 4, 3) := by decide +kernel
theorem dX6_isLoggedSo_58 : decode cX6_isLoggedSo 58 = .ok (.iconst 0, 1) := by decide +kernel
theorem dX6_isLoggedSo_59 : decode cX6_isLoggedSo 59 = .ok (.istore_n 2, 1) := by decide +kernel
theorem dX6_isLoggedSo_60 : decode cX6_isLoggedSo 60 = .ok (.iinc 3 1, 3) := by decide +kernel
theorem dX6_isLoggedSo_63 : decode cX6_isLoggedSo 63 = .ok (.goto (-50), 3) := by decide +kernel
theorem dX6_isLoggedSo_66 : decode cX6_isLoggedSo 66 = .ok (.aload_n 0, 1) := by decide +kernel
theorem dX6_isLoggedSo_67 : decode cX6_isLoggedSo 67 = .ok (.invokevirtual 197, 3) := by decide +kernel
theorem dX6_isLoggedSo_70 : decode cX6_isLoggedSo 70 = .ok (.iload_n 2, 1) := by decide +kernel
theorem dX6_isLoggedSo_71 : decode cX6_isLoggedSo 71 = .ok (.ireturn, 1) := by decide +kernel
theorem dX6_layFits_0 : decode cX6_layFits 0 = .ok (.iconst 0, 1) := by decide +kernel
theorem dX6_layFits_1 : decode cX6_layFits 1 = .ok (.istore_n 1, 1) := by decide +kernel
theorem dX6_layFits_2 : decode cX6_layFits 2 = .ok (.iconst 0, 1) := by decide +kernel
theorem dX6_layFits_3 : decode cX6_layFits 3 = .ok (.istore_n 2, 1) := by decide +kernel
theorem dX6_layFits_4 : decode cX6_layFits 4 = .ok (.iload_n 2, 1) := by decide +kernel
theorem dX6_layFits_5 : decode cX6_layFits 5 = .ok (.iconst 5, 1) := by decide +kernel
theorem dX6_layFits_6 : decode cX6_layFits 6 = .ok (.if_icmp .ge 16, 3) := by decide +kernel
theorem dX6_layFits_9 : decode cX6_layFits 9 = .ok (.aload_n 0, 1) := by decide +kernel
theorem dX6_layFits_10 : decode cX6_layFits 10 = .ok (.getfield 47, 3) := by decide +kernel
theorem dX6_layFits_13 : decode cX6_layFits 13 = .ok (.iload_n 2, 1) := by decide +kernel
theorem dX6_layFits_14 : decode cX6_layFits 14 = .ok (.iconst 0, 1) := by decide +kernel
theorem dX6_layFits_15 : decode cX6_layFits 15 = .ok (.iastore, 1) := by decide +kernel
theorem dX6_layFits_16 : decode cX6_layFits 16 = .ok (.iinc 2 1, 3) := by decide +kernel
theorem dX6_layFits_19 : decode cX6_layFits 19 = .ok (.goto (-15), 3) := by decide +kernel
theorem dX6_layFits_22 : decode cX6_layFits 22 = .ok (.aload_n 0, 1) := by decide +kernel
theorem dX6_layFits_23 : decode cX6_layFits 23 = .ok (.invokevirtual 191, 3) := by decide +kernel
theorem dX6_layFits_26 : decode cX6_layFits 26 = .ok (.iconst 0, 1) := by decide +kernel
theorem dX6_layFits_27 : decode cX6_layFits 27 = .ok (.istore_n 2, 1) := by decide +kernel
theorem dX6_layFits_28 : decode cX6_layFits 28 = .ok (.iload_n 2, 1) := by decide +kernel
theorem dX6_layFits_29 : decode cX6_layFits 29 = .ok (.aload_n 0, 1) := by decide +kernel
theorem dX6_layFits_30 : decode cX6_layFits 30 = .ok (.invokevirtual 153, 3) := by decide +kernel
theorem dX6_layFits_33 : decode cX6_layFits 33 = .ok (.if_icmp .gt 50, 3) := by decide +kernel
theorem dX6_layFits_36 : decode cX6_layFits 36 = .ok (.aload_n 0, 1) := by decide +kernel
theorem dX6_layFits_37 : decode cX6_layFits 37 = .ok (.iload_n 2, 1) := by decide +kernel
theorem dX6_layFits_38 : decode cX6_layFits 38 = .ok (.invokevirtual 218, 3) := by decide +kernel
theorem dX6_layFits_41 : decode cX6_layFits 41 = .ok (.ifCond .eq 36, 3) := by decide +kernel
theorem dX6_layFits_44 : decode cX6_layFits 44 = .ok (.iinc 1 1, 3) := by decide +kernel
theorem dX6_layFits_47 : decode cX6_layFits 47 = .ok (.iconst 0, 1) := by decide +kernel
theorem dX6_layFits_48 : decode cX6_layFits 48 = .ok (.istore_n 3, 1) := by decide +kernel
theorem dX6_layFits_49 : decode cX6_layFits 49 = .ok (.iload_n 3, 1) := by decide +kernel
theorem dX6_layFits_50 : decode cX6_layFits 50 = .ok (.aload_n 0, 1) := by decide +kernel
theorem dX6_layFits_51 : decode cX6_layFits 51 = .ok (.getfield 106, 3) := by decide +kernel
theorem dX6_layFits_54 : decode cX6_layFits 54 = .ok (.if_icmp .ge 23, 3) := by decide +kernel
theorem dX6_layFits_57 : decode cX6_layFits 57 = .ok (.aload_n 0, 1) := by decide +kernel
theorem dX6_layFits_58 : decode cX6_layFits 58 = .ok (.getfield 47, 3) := by decide +kernel
theorem dX6_layFits_61 : decode cX6_layFits 61 = .ok (.iload_n 3, 1) := by decide +kernel
theorem dX6_layFits_62 : decode cX6_layFits 62 = .ok (.dup2, 1) := by decide +kernel
theorem dX6_layFits_63 : decode cX6_layFits 63 = .ok (.iaload, 1) := by decide +kernel
theorem dX6_layFits_64 : decode cX6_layFits 64 = .ok (.iload_n 2, 1) := by decide +kernel
theorem dX6_layFits_65 : decode cX6_layFits 65 = .ok (.iload_n 3, 1) := by decide +kernel
theorem dX6_layFits_66 : decode cX6_layFits 66 = .ok (.ishr, 1) := by decide +kernel
theorem dX6_layFits_67 : decode cX6_layFits 67 = .ok (.iconst 1, 1) := by decide +kernel
theorem dX6_layFits_68 : decode cX6_layFits 68 = .ok (.iand, 1) := by decide +kernel
theorem dX6_layFits_69 : decode cX6_layFits 69 = .ok (.iadd, 1) := by decide +kernel
theorem dX6_layFits_70 : decode cX6_layFits 70 = .ok (.iastore, 1) := by decide +kernel
theorem dX6_layFits_71 : decode cX6_layFits 71 = .ok (.iinc 3 1, 3) := by decide +kernel
theorem dX6_layFits_74 : decode cX6_layFits 74 = .ok (.goto (-25), 3) := by decide +kernel
theorem dX6_layFits_77 : decode cX6_layFits 77 = .ok (.iinc 2 1, 3) := by decide +kernel
theorem dX6_layFits_80 : decode cX6_layFits 80 = .ok (.goto (-52), 3) := by decide +kernel
theorem dX6_layFits_83 : decode cX6_layFits 83 = .ok (.iload_n 1, 1) := by decide +kernel
theorem dX6_layFits_84 : decode cX6_layFits 84 = .ok (.ireturn, 1) := by decide +kernel
theorem dX6_fits_0 : decode cX6_fits 0 = .ok (.aload_n 0, 1) := by decide +kernel
theorem dX6_fits_1 : decode cX6_fits 1 = .ok (.getfield 100, 3) := by decide +kernel
theorem dX6_fits_4 : decode cX6_fits 4 = .ok (.ifCond .eq 17, 3) := by decide +kernel
theorem dX6_fits_7 : decode cX6_fits 7 = .ok (.aload_n 0, 1) := by decide +kernel
theorem dX6_fits_8 : decode cX6_fits 8 = .ok (.getfield 106, 3) := by decide +kernel
theorem dX6_fits_11 : decode cX6_fits 11 = .ok (.ifCond .le 10, 3) := by decide +kernel
theorem dX6_fits_14 : decode cX6_fits 14 = .ok (.aload_n 0, 1) := by decide +kernel
theorem dX6_fits_15 : decode cX6_fits 15 = .ok (.invokevirtual 221, 3) := by decide +kernel
theorem dX6_fits_18 : decode cX6_fits 18 = .ok (.goto 5, 3) := by decide +kernel
theorem dX6_fits_21 : decode cX6_fits 21 = .ok (.bipush (-103), 2) := by decide +kernel
theorem dX6_fits_23 : decode cX6_fits 23 = .ok (.ireturn, 1) := by decide +kernel
theorem dX6_sureNow_0 : decode cX6_sureNow 0 = .ok (.aload_n 0, 1) := by decide +kernel
theorem dX6_sureNow_1 : decode cX6_sureNow 1 = .ok (.invokevirtual 221, 3) := by decide +kernel
theorem dX6_sureNow_4 : decode cX6_sureNow 4 = .ok (.istore_n 2, 1) := by decide +kernel
theorem dX6_sureNow_5 : decode cX6_sureNow 5 = .ok (.iload_n 2, 1) := by decide +kernel
theorem dX6_sureNow_6 : decode cX6_sureNow 6 = .ok (.ifCond .ne 7, 3) := by decide +kernel
theorem dX6_sureNow_9 : decode cX6_sureNow 9 = .ok (.iconst (-1), 1) := by decide +kernel
theorem dX6_sureNow_10 : decode cX6_sureNow 10 = .ok (.goto 31, 3) := by decide +kernel
theorem dX6_sureNow_13 : decode cX6_sureNow 13 = .ok (.aload_n 0, 1) := by decide +kernel
theorem dX6_sureNow_14 : decode cX6_sureNow 14 = .ok (.getfield 47, 3) := by decide +kernel
theorem dX6_sureNow_17 : decode cX6_sureNow 17 = .ok (.iload_n 1, 1) := by decide +kernel
theorem dX6_sureNow_18 : decode cX6_sureNow 18 = .ok (.iaload, 1) := by decide +kernel
theorem dX6_sureNow_19 : decode cX6_sureNow 19 = .ok (.iload_n 2, 1) := by decide +kernel
theorem dX6_sureNow_20 : decode cX6_sureNow 20 = .ok (.if_icmp .ne 7, 3) := by decide +kernel
theorem dX6_sureNow_23 : decode cX6_sureNow 23 = .ok (.iconst 1, 1) := by decide +kernel
theorem dX6_sureNow_24 : decode cX6_sureNow 24 = .ok (.goto 17, 3) := by decide +kernel
theorem dX6_sureNow_27 : decode cX6_sureNow 27 = .ok (.aload_n 0, 1) := by decide +kernel
theorem dX6_sureNow_28 : decode cX6_sureNow 28 = .ok (.getfield 47, 3) := by decide +kernel
theorem dX6_sureNow_31 : decode cX6_sureNow 31 = .ok (.iload_n 1, 1) := by decide +kernel
theorem dX6_sureNow_32 : decode cX6_sureNow 32 = .ok (.iaload, 1) := by decide +kernel
theorem dX6_sureNow_33 : decode cX6_sureNow 33 = .ok (.ifCond .ne 7, 3) := by decide +kernel
theorem dX6_sureNow_36 : decode cX6_sureNow 36 = .ok (.iconst 0, 1) := by decide +kernel
theorem dX6_sureNow_37 : decode cX6_sureNow 37 = .ok (.goto 4, 3) := by decide +kernel
theorem dX6_sureNow_40 : decode cX6_sureNow 40 = .ok (.iconst (-1), 1) := by decide +kernel
theorem dX6_sureNow_41 : decode cX6_sureNow 41 = .ok (.ireturn, 1) := by decide +kernel
theorem dX6_sure_0 : decode cX6_sure 0 = .ok (.aload_n 0, 1) := by decide +kernel
theorem dX6_sure_1 : decode cX6_sure 1 = .ok (.iload_n 1, 1) := by decide +kernel
theorem dX6_sure_2 : decode cX6_sure 2 = .ok (.invokevirtual 141, 3) := by decide +kernel
theorem dX6_sure_5 : decode cX6_sure 5 = .ok (.ifCond .eq 11, 3) := by decide +kernel
theorem dX6_sure_8 : decode cX6_sure 8 = .ok (.aload_n 0, 1) := by decide +kernel
theorem dX6_sure_9 : decode cX6_sure 9 = .ok (.iload_n 1, 1) := by decide +kernel
theorem dX6_sure_10 : decode cX6_sure 10 = .ok (.invokevirtual 224, 3) := by decide +kernel
theorem dX6_sure_13 : decode cX6_sure 13 = .ok (.goto 5, 3) := by decide +kernel
theorem dX6_sure_16 : decode cX6_sure 16 = .ok (.bipush (-101), 2) := by decide +kernel
theorem dX6_sure_18 : decode cX6_sure 18 = .ok (.ireturn, 1) := by decide +kernel
theorem dX6_draw_0 : decode cX6_draw 0 = .ok (.aload_n 0, 1) := by decide +kernel
theorem dX6_draw_1 : decode cX6_draw 1 = .ok (.ldc2_w 227, 3) := by decide +kernel
theorem dX6_draw_4 : decode cX6_draw 4 = .ok (.aload_n 0, 1) := by decide +kernel
theorem dX6_draw_5 : decode cX6_draw 5 = .ok (.getfield 229, 3) := by decide +kernel
theorem dX6_draw_8 : decode cX6_draw 8 = .ok (.lmul, 1) := by decide +kernel
theorem dX6_draw_9 : decode cX6_draw 9 = .ok (.ldc2_w 233, 3) := by decide +kernel
theorem dX6_draw_12 : decode cX6_draw 12 = .ok (.ladd, 1) := by decide +kernel
theorem dX6_draw_13 : decode cX6_draw 13 = .ok (.ldc2_w 235, 3) := by decide +kernel
theorem dX6_draw_16 : decode cX6_draw 16 = .ok (.land, 1) := by decide +kernel
theorem dX6_draw_17 : decode cX6_draw 17 = .ok (.putfield 229, 3) := by decide +kernel
theorem dX6_draw_20 : decode cX6_draw 20 = .ok (.aload_n 0, 1) := by decide +kernel
theorem dX6_draw_21 : decode cX6_draw 21 = .ok (.getfield 229, 3) := by decide +kernel
theorem dX6_draw_24 : decode cX6_draw 24 = .ok (.ldc2_w 237, 3) := by decide +kernel
theorem dX6_draw_27 : decode cX6_draw 27 = .ok (.ldiv, 1) := by decide +kernel
theorem dX6_draw_28 : decode cX6_draw 28 = .ok (.iload_n 1, 1) := by decide +kernel
theorem dX6_draw_29 : decode cX6_draw 29 = .ok (.i2l, 1) := by decide +kernel
theorem dX6_draw_30 : decode cX6_draw 30 = .ok (.lrem, 1) := by decide +kernel
theorem dX6_draw_31 : decode cX6_draw 31 = .ok (.l2i, 1) := by decide +kernel
theorem dX6_draw_32 : decode cX6_draw 32 = .ok (.ireturn, 1) := by decide +kernel
theorem dX6_voyagesNow_0 : decode cX6_voyagesNow 0 = .ok (.aload_n 0, 1) := by decide +kernel
theorem dX6_voyagesNow_1 : decode cX6_voyagesNow 1 = .ok (.invokevirtual 191, 3) := by decide +kernel
theorem dX6_voyagesNow_4 : decode cX6_voyagesNow 4 = .ok (.aload_n 0, 1) := by decide +kernel
theorem dX6_voyagesNow_5 : decode cX6_voyagesNow 5 = .ok (.iload_n 2, 1) := by decide +kernel
theorem dX6_voyagesNow_6 : decode cX6_voyagesNow 6 = .ok (.i2l, 1) := by decide +kernel
theorem dX6_voyagesNow_7 : decode cX6_voyagesNow 7 = .ok (.putfield 229, 3) := by decide +kernel
theorem dX6_voyagesNow_10 : decode cX6_voyagesNow 10 = .ok (.iconst 0, 1) := by decide +kernel
theorem dX6_voyagesNow_11 : decode cX6_voyagesNow 11 = .ok (.istore 4, 2) := by decide +kernel
theorem dX6_voyagesNow_13 : decode cX6_voyagesNow 13 = .ok (.iconst 0, 1) := by decide +kernel
theorem dX6_voyagesNow_14 : decode cX6_voyagesNow 14 = .ok (.istore 5, 2) := by decide +kernel
theorem dX6_voyagesNow_16 : decode cX6_voyagesNow 16 = .ok (.iconst 0, 1) := by decide +kernel
theorem dX6_voyagesNow_17 : decode cX6_voyagesNow 17 = .ok (.istore 6, 2) := by decide +kernel
theorem dX6_voyagesNow_19 : decode cX6_voyagesNow 19 = .ok (.iload 6, 2) := by decide +kernel
theorem dX6_voyagesNow_21 : decode cX6_voyagesNow 21 = .ok (.iload_n 1, 1) := by decide +kernel
theorem dX6_voyagesNow_22 : decode cX6_voyagesNow 22 = .ok (.if_icmp .ge 92, 3) := by decide +kernel
theorem dX6_voyagesNow_25 : decode cX6_voyagesNow 25 = .ok (.iconst 0, 1) := by decide +kernel
theorem dX6_voyagesNow_26 : decode cX6_voyagesNow 26 = .ok (.istore 7, 2) := by decide +kernel
theorem dX6_voyagesNow_28 : decode cX6_voyagesNow 28 = .ok (.iload 7, 2) := by decide +kernel
theorem dX6_voyagesNow_30 : decode cX6_voyagesNow 30 = .ok (.aload_n 0, 1) := by decide +kernel
theorem dX6_voyagesNow_31 : decode cX6_voyagesNow 31 = .ok (.getfield 97, 3) := by decide +kernel
theorem dX6_voyagesNow_34 : decode cX6_voyagesNow 34 = .ok (.if_icmp .ge 36, 3) := by decide +kernel
theorem dX6_voyagesNow_37 : decode cX6_voyagesNow 37 = .ok (.aload_n 0, 1) := by decide +kernel
theorem dX6_voyagesNow_38 : decode cX6_voyagesNow 38 = .ok (.getfield 7, 3) := by decide +kernel
theorem dX6_voyagesNow_41 : decode cX6_voyagesNow 41 = .ok (.iload 7, 2) := by decide +kernel
theorem dX6_voyagesNow_43 : decode cX6_voyagesNow 43 = .ok (.aload_n 0, 1) := by decide +kernel
theorem dX6_voyagesNow_44 : decode cX6_voyagesNow 44 = .ok (.getfield 44, 3) := by decide +kernel
theorem dX6_voyagesNow_47 : decode cX6_voyagesNow 47 = .ok (.iload 7, 2) := by decide +kernel
theorem dX6_voyagesNow_49 : decode cX6_voyagesNow 49 = .ok (.iaload, 1) := by decide +kernel
theorem dX6_voyagesNow_50 : decode cX6_voyagesNow 50 = .ok (.ifCond .le 12, 3) := by decide +kernel
theorem dX6_voyagesNow_53 : decode cX6_voyagesNow 53 = .ok (.aload_n 0, 1) := by decide +kernel
theorem dX6_voyagesNow_54 : decode cX6_voyagesNow 54 = .ok (.bipush 10, 2) := by decide +kernel
theorem dX6_voyagesNow_56 : decode cX6_voyagesNow 56 = .ok (.invokevirtual 239, 3) := by decide +kernel
theorem dX6_voyagesNow_59 : decode cX6_voyagesNow 59 = .ok (.goto 4, 3) := by decide +kernel
theorem dX6_voyagesNow_62 : decode cX6_voyagesNow 62 = .ok (.iconst 0, 1) := by decide +kernel
theorem dX6_voyagesNow_63 : decode cX6_voyagesNow 63 = .ok (.iastore, 1) := by decide +kernel
theorem dX6_voyagesNow_64 : decode cX6_voyagesNow 64 = .ok (.iinc 7 1, 3) := by decide +kernel
theorem dX6_voyagesNow_67 : decode cX6_voyagesNow 67 = .ok (.goto (-39), 3) := by decide +kernel
theorem dX6_voyagesNow_70 : decode cX6_voyagesNow 70 = .ok (.aload_n 0, 1) := by decide +kernel
theorem dX6_voyagesNow_71 : decode cX6_voyagesNow 71 = .ok (.invokevirtual 115, 3) := by decide +kernel
theorem dX6_voyagesNow_74 : decode cX6_voyagesNow 74 = .ok (.aload_n 0, 1) := by decide +kernel
theorem dX6_voyagesNow_75 : decode cX6_voyagesNow 75 = .ok (.invokevirtual 194, 3) := by decide +kernel
theorem dX6_voyagesNow_78 : decode cX6_voyagesNow 78 = .ok (.iload 4, 2) := by decide +kernel
theorem dX6_voyagesNow_80 : decode cX6_voyagesNow 80 = .ok (.aload_n 0, 1) := by decide +kernel
theorem dX6_voyagesNow_81 : decode cX6_voyagesNow 81 = .ok (.getfield 127, 3) := by decide +kernel
theorem dX6_voyagesNow_84 : decode cX6_voyagesNow 84 = .ok (.iconst 1, 1) := by decide +kernel
theorem dX6_voyagesNow_85 : decode cX6_voyagesNow 85 = .ok (.if_icmp .ne 7, 3) := by decide +kernel
theorem dX6_voyagesNow_88 : decode cX6_voyagesNow 88 = .ok (.iconst 1, 1) := by decide +kernel
theorem dX6_voyagesNow_89 : decode cX6_voyagesNow 89 = .ok (.goto 4, 3) := by decide +kernel
theorem dX6_voyagesNow_92 : decode cX6_voyagesNow 92 = .ok (.iconst 0, 1) := by decide +kernel
theorem dX6_voyagesNow_93 : decode cX6_voyagesNow 93 = .ok (.iadd, 1) := by decide +kernel
theorem dX6_voyagesNow_94 : decode cX6_voyagesNow 94 = .ok (.istore 4, 2) := by decide +kernel
theorem dX6_voyagesNow_96 : decode cX6_voyagesNow 96 = .ok (.iload 5, 2) := by decide +kernel
theorem dX6_voyagesNow_98 : decode cX6_voyagesNow 98 = .ok (.aload_n 0, 1) := by decide +kernel
theorem dX6_voyagesNow_99 : decode cX6_voyagesNow 99 = .ok (.getfield 118, 3) := by decide +kernel
theorem dX6_voyagesNow_102 : decode cX6_voyagesNow 102 = .ok (.invokestatic 188, 3) := by decide +kernel
theorem dX6_voyagesNow_105 : decode cX6_voyagesNow 105 = .ok (.iadd, 1) := by decide +kernel
theorem dX6_voyagesNow_106 : decode cX6_voyagesNow 106 = .ok (.istore 5, 2) := by decide +kernel
theorem dX6_voyagesNow_108 : decode cX6_voyagesNow 108 = .ok (.iinc 6 1, 3) := by decide +kernel
theorem dX6_voyagesNow_111 : decode cX6_voyagesNow 111 = .ok (.goto (-92), 3) := by decide +kernel
theorem dX6_voyagesNow_114 : decode cX6_voyagesNow 114 = .ok (.aload_n 0, 1) := by decide +kernel
theorem dX6_voyagesNow_115 : decode cX6_voyagesNow 115 = .ok (.invokevirtual 197, 3) := by decide +kernel
theorem dX6_voyagesNow_118 : decode cX6_voyagesNow 118 = .ok (.iload_n 3, 1) := by decide +kernel
theorem dX6_voyagesNow_119 : decode cX6_voyagesNow 119 = .ok (.ifCond .ne 8, 3) := by decide +kernel
theorem dX6_voyagesNow_122 : decode cX6_voyagesNow 122 = .ok (.iload 4, 2) := by decide +kernel
theorem dX6_voyagesNow_124 : decode cX6_voyagesNow 124 = .ok (.goto 18, 3) := by decide +kernel
theorem dX6_voyagesNow_127 : decode cX6_voyagesNow 127 = .ok (.iload_n 3, 1) := by decide +kernel
theorem dX6_voyagesNow_128 : decode cX6_voyagesNow 128 = .ok (.iconst 1, 1) := by decide +kernel
theorem dX6_voyagesNow_129 : decode cX6_voyagesNow 129 = .ok (.if_icmp .ne 8, 3) := by decide +kernel
theorem dX6_voyagesNow_132 : decode cX6_voyagesNow 132 = .ok (.iload 5, 2) := by decide +kernel
theorem dX6_voyagesNow_134 : decode cX6_voyagesNow 134 = .ok (.goto 8, 3) := by decide +kernel
theorem dX6_voyagesNow_137 : decode cX6_voyagesNow 137 = .ok (.aload_n 0, 1) := by decide +kernel
theorem dX6_voyagesNow_138 : decode cX6_voyagesNow 138 = .ok (.getfield 229, 3) := by decide +kernel
theorem dX6_voyagesNow_141 : decode cX6_voyagesNow 141 = .ok (.l2i, 1) := by decide +kernel
theorem dX6_voyagesNow_142 : decode cX6_voyagesNow 142 = .ok (.ireturn, 1) := by decide +kernel
theorem dX6_voyages_0 : decode cX6_voyages 0 = .ok (.iload_n 1, 1) := by decide +kernel
theorem dX6_voyages_1 : decode cX6_voyages 1 = .ok (.iconst 1, 1) := by decide +kernel
theorem dX6_voyages_2 : decode cX6_voyages 2 = .ok (.bipush 20, 2) := by decide +kernel
theorem dX6_voyages_4 : decode cX6_voyages 4 = .ok (.invokestatic 56, 3) := by decide +kernel
theorem dX6_voyages_7 : decode cX6_voyages 7 = .ok (.ifCond .eq 16, 3) := by decide +kernel
theorem dX6_voyages_10 : decode cX6_voyages 10 = .ok (.iload_n 2, 1) := by decide +kernel
theorem dX6_voyages_11 : decode cX6_voyages 11 = .ok (.ifCond .lt 12, 3) := by decide +kernel
theorem dX6_voyages_14 : decode cX6_voyages 14 = .ok (.iload_n 3, 1) := by decide +kernel
theorem dX6_voyages_15 : decode cX6_voyages 15 = .ok (.iconst 0, 1) := by decide +kernel
theorem dX6_voyages_16 : decode cX6_voyages 16 = .ok (.iconst 2, 1) := by decide +kernel
theorem dX6_voyages_17 : decode cX6_voyages 17 = .ok (.invokestatic 56, 3) := by decide +kernel
theorem dX6_voyages_20 : decode cX6_voyages 20 = .ok (.ifCond .ne 6, 3) := by decide +kernel
theorem dX6_voyages_23 : decode cX6_voyages 23 = .ok (.bipush (-102), 2) := by decide +kernel
theorem dX6_voyages_25 : decode cX6_voyages 25 = .ok (.ireturn, 1) := by decide +kernel
theorem dX6_voyages_26 : decode cX6_voyages 26 = .ok (.aload_n 0, 1) := by decide +kernel
theorem dX6_voyages_27 : decode cX6_voyages 27 = .ok (.getfield 100, 3) := by decide +kernel
theorem dX6_voyages_30 : decode cX6_voyages 30 = .ok (.ifCond .eq 20, 3) := by decide +kernel
theorem dX6_voyages_33 : decode cX6_voyages 33 = .ok (.aload_n 0, 1) := by decide +kernel
theorem dX6_voyages_34 : decode cX6_voyages 34 = .ok (.getfield 106, 3) := by decide +kernel
theorem dX6_voyages_37 : decode cX6_voyages 37 = .ok (.ifCond .le 13, 3) := by decide +kernel
theorem dX6_voyages_40 : decode cX6_voyages 40 = .ok (.aload_n 0, 1) := by decide +kernel
theorem dX6_voyages_41 : decode cX6_voyages 41 = .ok (.iload_n 1, 1) := by decide +kernel
theorem dX6_voyages_42 : decode cX6_voyages 42 = .ok (.iload_n 2, 1) := by decide +kernel
theorem dX6_voyages_43 : decode cX6_voyages 43 = .ok (.iload_n 3, 1) := by decide +kernel
theorem dX6_voyages_44 : decode cX6_voyages 44 = .ok (.invokevirtual 242, 3) := by decide +kernel
theorem dX6_voyages_47 : decode cX6_voyages 47 = .ok (.goto 5, 3) := by decide +kernel
theorem dX6_voyages_50 : decode cX6_voyages 50 = .ok (.bipush (-103), 2) := by decide +kernel
theorem dX6_voyages_52 : decode cX6_voyages 52 = .ok (.ireturn, 1) := by decide +kernel
theorem dX6_image_0 : decode cX6_image 0 = .ok (.aload_n 0, 1) := by decide +kernel
theorem dX6_image_1 : decode cX6_image 1 = .ok (.getfield 100, 3) := by decide +kernel
theorem dX6_image_4 : decode cX6_image 4 = .ok (.ifCond .ne 6, 3) := by decide +kernel
theorem dX6_image_7 : decode cX6_image 7 = .ok (.bipush (-103), 2) := by decide +kernel
theorem dX6_image_9 : decode cX6_image 9 = .ok (.ireturn, 1) := by decide +kernel
theorem dX6_image_10 : decode cX6_image 10 = .ok (.aload_n 0, 1) := by decide +kernel
theorem dX6_image_11 : decode cX6_image 11 = .ok (.iconst 1, 1) := by decide +kernel
theorem dX6_image_12 : decode cX6_image 12 = .ok (.putfield 246, 3) := by decide +kernel
theorem dX6_image_15 : decode cX6_image 15 = .ok (.aload_n 0, 1) := by decide +kernel
theorem dX6_image_16 : decode cX6_image 16 = .ok (.aload_n 0, 1) := by decide +kernel
theorem dX6_image_17 : decode cX6_image 17 = .ok (.getfield 103, 3) := by decide +kernel
theorem dX6_image_20 : decode cX6_image 20 = .ok (.putfield 249, 3) := by decide +kernel
theorem dX6_image_23 : decode cX6_image 23 = .ok (.aload_n 0, 1) := by decide +kernel
theorem dX6_image_24 : decode cX6_image 24 = .ok (.aload_n 0, 1) := by decide +kernel
theorem dX6_image_25 : decode cX6_image 25 = .ok (.getfield 106, 3) := by decide +kernel
theorem dX6_image_28 : decode cX6_image 28 = .ok (.putfield 252, 3) := by decide +kernel
theorem dX6_image_31 : decode cX6_image 31 = .ok (.aload_n 0, 1) := by decide +kernel
theorem dX6_image_32 : decode cX6_image 32 = .ok (.aload_n 0, 1) := by decide +kernel
theorem dX6_image_33 : decode cX6_image 33 = .ok (.getfield 112, 3) := by decide +kernel
theorem dX6_image_36 : decode cX6_image 36 = .ok (.putfield 255, 3) := by decide +kernel
theorem dX6_image_39 : decode cX6_image 39 = .ok (.aload_n 0, 1) := by decide +kernel
theorem dX6_image_40 : decode cX6_image 40 = .ok (.aload_n 0, 1) := by decide +kernel
theorem dX6_image_41 : decode cX6_image 41 = .ok (.getfield 118, 3) := by decide +kernel
theorem dX6_image_44 : decode cX6_image 44 = .ok (.putfield 258, 3) := by decide +kernel
theorem dX6_image_47 : decode cX6_image 47 = .ok (.aload_n 0, 1) := by decide +kernel
theorem dX6_image_48 : decode cX6_image 48 = .ok (.aload_n 0, 1) := by decide +kernel
theorem dX6_image_49 : decode cX6_image 49 = .ok (.getfield 121, 3) := by decide +kernel
theorem dX6_image_52 : decode cX6_image 52 = .ok (.putfield 261, 3) := by decide +kernel
theorem dX6_image_55 : decode cX6_image 55 = .ok (.aload_n 0, 1) := by decide +kernel
theorem dX6_image_56 : decode cX6_image 56 = .ok (.aload_n 0, 1) := by decide +kernel
theorem dX6_image_57 : decode cX6_image 57 = .ok (.getfield 124, 3) := by decide +kernel
theorem dX6_image_60 : decode cX6_image 60 = .ok (.putfield 264, 3) := by decide +kernel
theorem dX6_image_63 : decode cX6_image 63 = .ok (.aload_n 0, 1) := by decide +kernel
theorem dX6_image_64 : decode cX6_image 64 = .ok (.aload_n 0, 1) := by decide +kernel
theorem dX6_image_65 : decode cX6_image 65 = .ok (.getfield 127, 3) := by decide +kernel
theorem dX6_image_68 : decode cX6_image 68 = .ok (.putfield 267, 3) := by decide +kernel
theorem dX6_image_71 : decode cX6_image 71 = .ok (.aload_n 0, 1) := by decide +kernel
theorem dX6_image_72 : decode cX6_image 72 = .ok (.aload_n 0, 1) := by decide +kernel
theorem dX6_image_73 : decode cX6_image 73 = .ok (.getfield 109, 3) := by decide +kernel
theorem dX6_image_76 : decode cX6_image 76 = .ok (.putfield 270, 3) := by decide +kernel
theorem dX6_image_79 : decode cX6_image 79 = .ok (.iconst 0, 1) := by decide +kernel
theorem dX6_image_80 : decode cX6_image 80 = .ok (.istore_n 1, 1) := by decide +kernel
theorem dX6_image_81 : decode cX6_image 81 = .ok (.iload_n 1, 1) := by decide +kernel
theorem dX6_image_82 : decode cX6_image 82 = .ok (.iconst 5, 1) := by decide +kernel
theorem dX6_image_83 : decode cX6_image 83 = .ok (.if_icmp .ge 21, 3) := by decide +kernel
theorem dX6_image_86 : decode cX6_image 86 = .ok (.aload_n 0, 1) := by decide +kernel
theorem dX6_image_87 : decode cX6_image 87 = .ok (.getfield 50, 3) := by decide +kernel
theorem dX6_image_90 : decode cX6_image 90 = .ok (.iload_n 1, 1) := by decide +kernel
theorem dX6_image_91 : decode cX6_image 91 = .ok (.aload_n 0, 1) := by decide +kernel
theorem dX6_image_92 : decode cX6_image 92 = .ok (.getfield 25, 3) := by decide +kernel
theorem dX6_image_95 : decode cX6_image 95 = .ok (.iload_n 1, 1) := by decide +kernel
theorem dX6_image_96 : decode cX6_image 96 = .ok (.iaload, 1) := by decide +kernel
theorem dX6_image_97 : decode cX6_image 97 = .ok (.iastore, 1) := by decide +kernel
theorem dX6_image_98 : decode cX6_image 98 = .ok (.iinc 1 1, 3) := by decide +kernel
theorem dX6_image_101 : decode cX6_image 101 = .ok (.goto (-20), 3) := by decide +kernel
theorem dX6_image_104 : decode cX6_image 104 = .ok (.iconst 0, 1) := by decide +kernel
theorem dX6_image_105 : decode cX6_image 105 = .ok (.istore_n 1, 1) := by decide +kernel
theorem dX6_image_106 : decode cX6_image 106 = .ok (.iload_n 1, 1) := by decide +kernel
theorem dX6_image_107 : decode cX6_image 107 = .ok (.bipush 8, 2) := by decide +kernel
theorem dX6_image_109 : decode cX6_image 109 = .ok (.if_icmp .ge 21, 3) := by decide +kernel
theorem dX6_image_112 : decode cX6_image 112 = .ok (.aload_n 0, 1) := by decide +kernel
theorem dX6_image_113 : decode cX6_image 113 = .ok (.getfield 53, 3) := by decide +kernel
theorem dX6_image_116 : decode cX6_image 116 = .ok (.iload_n 1, 1) := by decide +kernel
theorem dX6_image_117 : decode cX6_image 117 = .ok (.aload_n 0, 1) := by decide +kernel
theorem dX6_image_118 : decode cX6_image 118 = .ok (.getfield 28, 3) := by decide +kernel
theorem dX6_image_121 : decode cX6_image 121 = .ok (.iload_n 1, 1) := by decide +kernel
theorem dX6_image_122 : decode cX6_image 122 = .ok (.iaload, 1) := by decide +kernel
theorem dX6_image_123 : decode cX6_image 123 = .ok (.iastore, 1) := by decide +kernel
theorem dX6_image_124 : decode cX6_image 124 = .ok (.iinc 1 1, 3) := by decide +kernel
theorem dX6_image_127 : decode cX6_image 127 = .ok (.goto (-21), 3) := by decide +kernel
theorem dX6_image_130 : decode cX6_image 130 = .ok (.aload_n 0, 1) := by decide +kernel
theorem dX6_image_131 : decode cX6_image 131 = .ok (.getfield 124, 3) := by decide +kernel
theorem dX6_image_134 : decode cX6_image 134 = .ok (.ireturn, 1) := by decide +kernel
theorem dX6_restore_0 : decode cX6_restore 0 = .ok (.aload_n 0, 1) := by decide +kernel
theorem dX6_restore_1 : decode cX6_restore 1 = .ok (.getfield 246, 3) := by decide +kernel
theorem dX6_restore_4 : decode cX6_restore 4 = .ok (.ifCond .eq 14, 3) := by decide +kernel
theorem dX6_restore_7 : decode cX6_restore 7 = .ok (.aload_n 0, 1) := by decide +kernel
theorem dX6_restore_8 : decode cX6_restore 8 = .ok (.getfield 249, 3) := by decide +kernel
theorem dX6_restore_11 : decode cX6_restore 11 = .ok (.aload_n 0, 1) := by decide +kernel
theorem dX6_restore_12 : decode cX6_restore 12 = .ok (.getfield 103, 3) := by decide +kernel
theorem dX6_restore_15 : decode cX6_restore 15 = .ok (.if_icmp .eq 6, 3) := by decide +kernel
theorem dX6_restore_18 : decode cX6_restore 18 = .ok (.bipush (-103), 2) := by decide +kernel
theorem dX6_restore_20 : decode cX6_restore 20 = .ok (.ireturn, 1) := by decide +kernel
theorem dX6_restore_21 : decode cX6_restore 21 = .ok (.aload_n 0, 1) := by decide +kernel
theorem dX6_restore_22 : decode cX6_restore 22 = .ok (.aload_n 0, 1) := by decide +kernel
theorem dX6_restore_23 : decode cX6_restore 23 = .ok (.getfield 252, 3) := by decide +kernel
theorem dX6_restore_26 : decode cX6_restore 26 = .ok (.putfield 106, 3) := by decide +kernel
theorem dX6_restore_29 : decode cX6_restore 29 = .ok (.aload_n 0, 1) := by decide +kernel
theorem dX6_restore_30 : decode cX6_restore 30 = .ok (.aload_n 0, 1) := by decide +kernel
theorem dX6_restore_31 : decode cX6_restore 31 = .ok (.getfield 255, 3) := by decide +kernel
theorem dX6_restore_34 : decode cX6_restore 34 = .ok (.putfield 112, 3) := by decide +kernel
theorem dX6_restore_37 : decode cX6_restore 37 = .ok (.aload_n 0, 1) := by decide +kernel
theorem dX6_restore_38 : decode cX6_restore 38 = .ok (.aload_n 0, 1) := by decide +kernel
theorem dX6_restore_39 : decode cX6_restore 39 = .ok (.getfield 258, 3) := by decide +kernel
theorem dX6_restore_42 : decode cX6_restore 42 = .ok (.putfield 118, 3) := by decide +kernel
theorem dX6_restore_45 : decode cX6_restore 45 = .ok (.aload_n 0, 1) := by decide +kernel
theorem dX6_restore_46 : decode cX6_restore 46 = .ok (.aload_n 0, 1) := by decide +kernel
theorem dX6_restore_47 : decode cX6_restore 47 = .ok (.getfield 261, 3) := by decide +kernel
theorem dX6_restore_50 : decode cX6_restore 50 = .ok (.putfield 121, 3) := by decide +kernel
theorem dX6_restore_53 : decode cX6_restore 53 = .ok (.aload_n 0, 1) := by decide +kernel
theorem dX6_restore_54 : decode cX6_restore 54 = .ok (.aload_n 0, 1) := by decide +kernel
theorem dX6_restore_55 : decode cX6_restore 55 = .ok (.getfield 264, 3) := by decide +kernel
theorem dX6_restore_58 : decode cX6_restore 58 = .ok (.putfield 124, 3) := by decide +kernel
theorem dX6_restore_61 : decode cX6_restore 61 = .ok (.aload_n 0, 1) := by decide +kernel
theorem dX6_restore_62 : decode cX6_restore 62 = .ok (.aload_n 0, 1) := by decide +kernel
theorem dX6_restore_63 : decode cX6_restore 63 = .ok (.getfield 267, 3) := by decide +kernel
theorem dX6_restore_66 : decode cX6_restore 66 = .ok (.putfield 127, 3) := by decide +kernel
theorem dX6_restore_69 : decode cX6_restore 69 = .ok (.aload_n 0, 1) := by decide +kernel
theorem dX6_restore_70 : decode cX6_restore 70 = .ok (.aload_n 0, 1) := by decide +kernel
theorem dX6_restore_71 : decode cX6_restore 71 = .ok (.getfield 270, 3) := by decide +kernel
theorem dX6_restore_74 : decode cX6_restore 74 = .ok (.putfield 109, 3) := by decide +kernel
theorem dX6_restore_77 : decode cX6_restore 77 = .ok (.iconst 0, 1) := by decide +kernel
theorem dX6_restore_78 : decode cX6_restore 78 = .ok (.istore_n 1, 1) := by decide +kernel
theorem dX6_restore_79 : decode cX6_restore 79 = .ok (.iload_n 1, 1) := by decide +kernel
theorem dX6_restore_80 : decode cX6_restore 80 = .ok (.iconst 5, 1) := by decide +kernel
theorem dX6_restore_81 : decode cX6_restore 81 = .ok (.if_icmp .ge 21, 3) := by decide +kernel
theorem dX6_restore_84 : decode cX6_restore 84 = .ok (.aload_n 0, 1) := by decide +kernel
theorem dX6_restore_85 : decode cX6_restore 85 = .ok (.getfield 25, 3) := by decide +kernel
theorem dX6_restore_88 : decode cX6_restore 88 = .ok (.iload_n 1, 1) := by decide +kernel
theorem dX6_restore_89 : decode cX6_restore 89 = .ok (.aload_n 0, 1) := by decide +kernel
theorem dX6_restore_90 : decode cX6_restore 90 = .ok (.getfield 50, 3) := by decide +kernel
theorem dX6_restore_93 : decode cX6_restore 93 = .ok (.iload_n 1, 1) := by decide +kernel
theorem dX6_restore_94 : decode cX6_restore 94 = .ok (.iaload, 1) := by decide +kernel
theorem dX6_restore_95 : decode cX6_restore 95 = .ok (.iastore, 1) := by decide +kernel
theorem dX6_restore_96 : decode cX6_restore 96 = .ok (.iinc 1 1, 3) := by decide +kernel
theorem dX6_restore_99 : decode cX6_restore 99 = .ok (.goto (-20), 3) := by decide +kernel
theorem dX6_restore_102 : decode cX6_restore 102 = .ok (.iconst 0, 1) := by decide +kernel
theorem dX6_restore_103 : decode cX6_restore 103 = .ok (.istore_n 1, 1) := by decide +kernel
theorem dX6_restore_104 : decode cX6_restore 104 = .ok (.iload_n 1, 1) := by decide +kernel
theorem dX6_restore_105 : decode cX6_restore 105 = .ok (.bipush 8, 2) := by decide +kernel
theorem dX6_restore_107 : decode cX6_restore 107 = .ok (.if_icmp .ge 21, 3) := by decide +kernel
theorem dX6_restore_110 : decode cX6_restore 110 = .ok (.aload_n 0, 1) := by decide +kernel
theorem dX6_restore_111 : decode cX6_restore 111 = .ok (.getfield 28, 3) := by decide +kernel
theorem dX6_restore_114 : decode cX6_restore 114 = .ok (.iload_n 1, 1) := by decide +kernel
theorem dX6_restore_115 : decode cX6_restore 115 = .ok (.aload_n 0, 1) := by decide +kernel
theorem dX6_restore_116 : decode cX6_restore 116 = .ok (.getfield 53, 3) := by decide +kernel
theorem dX6_restore_119 : decode cX6_restore 119 = .ok (.iload_n 1, 1) := by decide +kernel
theorem dX6_restore_120 : decode cX6_restore 120 = .ok (.iaload, 1) := by decide +kernel
theorem dX6_restore_121 : decode cX6_restore 121 = .ok (.iastore, 1) := by decide +kernel
theorem dX6_restore_122 : decode cX6_restore 122 = .ok (.iinc 1 1, 3) := by decide +kernel
theorem dX6_restore_125 : decode cX6_restore 125 = .ok (.goto (-21), 3) := by decide +kernel
theorem dX6_restore_128 : decode cX6_restore 128 = .ok (.aload_n 0, 1) := by decide +kernel
theorem dX6_restore_129 : decode cX6_restore 129 = .ok (.getfield 124, 3) := by decide +kernel
theorem dX6_restore_132 : decode cX6_restore 132 = .ok (.ireturn, 1) := by decide +kernel
theorem dX6_howMany_0 : decode cX6_howMany 0 = .ok (.iload_n 1, 1) := by decide +kernel
theorem dX6_howMany_1 : decode cX6_howMany 1 = .ok (.tableswitch 117 0 10 #[59, 64, 69, 74, 79, 87, 92, 97, 102, 107, 112], 59) := by decide +kernel
theorem dX6_howMany_60 : decode cX6_howMany 60 = .ok (.aload_n 0, 1) := by decide +kernel
theorem dX6_howMany_61 : decode cX6_howMany 61 = .ok (.getfield 97, 3) := by decide +kernel
theorem dX6_howMany_64 : decode cX6_howMany 64 = .ok (.ireturn, 1) := by decide +kernel
theorem dX6_howMany_65 : decode cX6_howMany 65 = .ok (.aload_n 0, 1) := by decide +kernel
theorem dX6_howMany_66 : decode cX6_howMany 66 = .ok (.getfield 91, 3) := by decide +kernel
theorem dX6_howMany_69 : decode cX6_howMany 69 = .ok (.ireturn, 1) := by decide +kernel
theorem dX6_howMany_70 : decode cX6_howMany 70 = .ok (.aload_n 0, 1) := by decide +kernel
theorem dX6_howMany_71 : decode cX6_howMany 71 = .ok (.getfield 94, 3) := by decide +kernel
theorem dX6_howMany_74 : decode cX6_howMany 74 = .ok (.ireturn, 1) := by decide +kernel
theorem dX6_howMany_75 : decode cX6_howMany 75 = .ok (.aload_n 0, 1) := by decide +kernel
theorem dX6_howMany_76 : decode cX6_howMany 76 = .ok (.getfield 106, 3) := by decide +kernel
theorem dX6_howMany_79 : decode cX6_howMany 79 = .ok (.ireturn, 1) := by decide +kernel
theorem dX6_howMany_80 : decode cX6_howMany 80 = .ok (.aload_n 0, 1) := by decide +kernel
theorem dX6_howMany_81 : decode cX6_howMany 81 = .ok (.getfield 118, 3) := by decide +kernel
theorem dX6_howMany_84 : decode cX6_howMany 84 = .ok (.invokestatic 188, 3) := by decide +kernel
theorem dX6_howMany_87 : decode cX6_howMany 87 = .ok (.ireturn, 1) := by decide +kernel
theorem dX6_howMany_88 : decode cX6_howMany 88 = .ok (.aload_n 0, 1) := by decide +kernel
theorem dX6_howMany_89 : decode cX6_howMany 89 = .ok (.getfield 121, 3) := by decide +kernel
theorem dX6_howMany_92 : decode cX6_howMany 92 = .ok (.ireturn, 1) := by decide +kernel
theorem dX6_howMany_93 : decode cX6_howMany 93 = .ok (.aload_n 0, 1) := by decide +kernel
theorem dX6_howMany_94 : decode cX6_howMany 94 = .ok (.getfield 124, 3) := by decide +kernel
theorem dX6_howMany_97 : decode cX6_howMany 97 = .ok (.ireturn, 1) := by decide +kernel
theorem dX6_howMany_98 : decode cX6_howMany 98 = .ok (.aload_n 0, 1) := by decide +kernel
theorem dX6_howMany_99 : decode cX6_howMany 99 = .ok (.getfield 127, 3) := by decide +kernel
theorem dX6_howMany_102 : decode cX6_howMany 102 = .ok (.ireturn, 1) := by decide +kernel
theorem dX6_howMany_103 : decode cX6_howMany 103 = .ok (.aload_n 0, 1) := by decide +kernel
theorem dX6_howMany_104 : decode cX6_howMany 104 = .ok (.getfield 109, 3) := by decide +kernel
theorem dX6_howMany_107 : decode cX6_howMany 107 = .ok (.ireturn, 1) := by decide +kernel
theorem dX6_howMany_108 : decode cX6_howMany 108 = .ok (.aload_n 0, 1) := by decide +kernel
theorem dX6_howMany_109 : decode cX6_howMany 109 = .ok (.getfield 60, 3) := by decide +kernel
theorem dX6_howMany_112 : decode cX6_howMany 112 = .ok (.ireturn, 1) := by decide +kernel
theorem dX6_howMany_113 : decode cX6_howMany 113 = .ok (.aload_n 0, 1) := by decide +kernel
theorem dX6_howMany_114 : decode cX6_howMany 114 = .ok (.getfield 103, 3) := by decide +kernel
theorem dX6_howMany_117 : decode cX6_howMany 117 = .ok (.ireturn, 1) := by decide +kernel
theorem dX6_howMany_118 : decode cX6_howMany 118 = .ok (.bipush (-102), 2) := by decide +kernel
theorem dX6_howMany_120 : decode cX6_howMany 120 = .ok (.ireturn, 1) := by decide +kernel
theorem dX6_count_0 : decode cX6_count 0 = .ok (.aload_n 0, 1) := by decide +kernel
theorem dX6_count_1 : decode cX6_count 1 = .ok (.iload_n 1, 1) := by decide +kernel
theorem dX6_count_2 : decode cX6_count 2 = .ok (.invokevirtual 273, 3) := by decide +kernel
theorem dX6_count_5 : decode cX6_count 5 = .ok (.ireturn, 1) := by decide +kernel
theorem dX6_mix_0 : decode cX6_mix 0 = .ok (.aload_n 0, 1) := by decide +kernel
theorem dX6_mix_1 : decode cX6_mix 1 = .ok (.ldc2_w 276, 3) := by decide +kernel
theorem dX6_mix_4 : decode cX6_mix 4 = .ok (.aload_n 0, 1) := by decide +kernel
theorem dX6_mix_5 : decode cX6_mix 5 = .ok (.getfield 278, 3) := by decide +kernel
theorem dX6_mix_8 : decode cX6_mix 8 = .ok (.lmul, 1) := by decide +kernel
theorem dX6_mix_9 : decode cX6_mix 9 = .ok (.lload_n 1, 1) := by decide +kernel
theorem dX6_mix_10 : decode cX6_mix 10 = .ok (.ladd, 1) := by decide +kernel
theorem dX6_mix_11 : decode cX6_mix 11 = .ok (.putfield 278, 3) := by decide +kernel
theorem dX6_mix_14 : decode cX6_mix 14 = .ok (.return_, 1) := by decide +kernel
theorem dX6_mixOutcome_0 : decode cX6_mixOutcome 0 = .ok (.iconst 0, 1) := by decide +kernel
theorem dX6_mixOutcome_1 : decode cX6_mixOutcome 1 = .ok (.istore_n 1, 1) := by decide +kernel
theorem dX6_mixOutcome_2 : decode cX6_mixOutcome 2 = .ok (.iload_n 1, 1) := by decide +kernel
theorem dX6_mixOutcome_3 : decode cX6_mixOutcome 3 = .ok (.iconst 3, 1) := by decide +kernel
theorem dX6_mixOutcome_4 : decode cX6_mixOutcome 4 = .ok (.if_icmp .ge 19, 3) := by decide +kernel
theorem dX6_mixOutcome_7 : decode cX6_mixOutcome 7 = .ok (.aload_n 0, 1) := by decide +kernel
theorem dX6_mixOutcome_8 : decode cX6_mixOutcome 8 = .ok (.aload_n 0, 1) := by decide +kernel
theorem dX6_mixOutcome_9 : decode cX6_mixOutcome 9 = .ok (.iload_n 1, 1) := by decide +kernel
theorem dX6_mixOutcome_10 : decode cX6_mixOutcome 10 = .ok (.invokevirtual 200, 3) := by decide +kernel
theorem dX6_mixOutcome_13 : decode cX6_mixOutcome 13 = .ok (.i2l, 1) := by decide +kernel
theorem dX6_mixOutcome_14 : decode cX6_mixOutcome 14 = .ok (.invokevirtual 281, 3) := by decide +kernel
theorem dX6_mixOutcome_17 : decode cX6_mixOutcome 17 = .ok (.iinc 1 1, 3) := by decide +kernel
theorem dX6_mixOutcome_20 : decode cX6_mixOutcome 20 = .ok (.goto (-18), 3) := by decide +kernel
theorem dX6_mixOutcome_23 : decode cX6_mixOutcome 23 = .ok (.aload_n 0, 1) := by decide +kernel
theorem dX6_mixOutcome_24 : decode cX6_mixOutcome 24 = .ok (.aload_n 0, 1) := by decide +kernel
theorem dX6_mixOutcome_25 : decode cX6_mixOutcome 25 = .ok (.iconst 2, 1) := by decide +kernel
theorem dX6_mixOutcome_26 : decode cX6_mixOutcome 26 = .ok (.iconst 0, 1) := by decide +kernel
theorem dX6_mixOutcome_27 : decode cX6_mixOutcome 27 = .ok (.invokevirtual 206, 3) := by decide +kernel
theorem dX6_mixOutcome_30 : decode cX6_mixOutcome 30 = .ok (.i2l, 1) := by decide +kernel
theorem dX6_mixOutcome_31 : decode cX6_mixOutcome 31 = .ok (.invokevirtual 281, 3) := by decide +kernel
theorem dX6_mixOutcome_34 : decode cX6_mixOutcome 34 = .ok (.aload_n 0, 1) := by decide +kernel
theorem dX6_mixOutcome_35 : decode cX6_mixOutcome 35 = .ok (.aload_n 0, 1) := by decide +kernel
theorem dX6_mixOutcome_36 : decode cX6_mixOutcome 36 = .ok (.iconst 2, 1) := by decide +kernel
theorem dX6_mixOutcome_37 : decode cX6_mixOutcome 37 = .ok (.iconst 1, 1) := by decide +kernel
theorem dX6_mixOutcome_38 : decode cX6_mixOutcome 38 = .ok (.invokevirtual 206, 3) := by decide +kernel
theorem dX6_mixOutcome_41 : decode cX6_mixOutcome 41 = .ok (.i2l, 1) := by decide +kernel
theorem dX6_mixOutcome_42 : decode cX6_mixOutcome 42 = .ok (.invokevirtual 281, 3) := by decide +kernel
theorem dX6_mixOutcome_45 : decode cX6_mixOutcome 45 = .ok (.aload_n 0, 1) := by decide +kernel
theorem dX6_mixOutcome_46 : decode cX6_mixOutcome 46 = .ok (.aload_n 0, 1) := by decide +kernel
theorem dX6_mixOutcome_47 : decode cX6_mixOutcome 47 = .ok (.invokevirtual 212, 3) := by decide +kernel
theorem dX6_mixOutcome_50 : decode cX6_mixOutcome 50 = .ok (.i2l, 1) := by decide +kernel
theorem dX6_mixOutcome_51 : decode cX6_mixOutcome 51 = .ok (.invokevirtual 281, 3) := by decide +kernel
theorem dX6_mixOutcome_54 : decode cX6_mixOutcome 54 = .ok (.aload_n 0, 1) := by decide +kernel
theorem dX6_mixOutcome_55 : decode cX6_mixOutcome 55 = .ok (.aload_n 0, 1) := by decide +kernel
theorem dX6_mixOutcome_56 : decode cX6_mixOutcome 56 = .ok (.invokevirtual 215, 3) := by decide +kernel
theorem dX6_mixOutcome_59 : decode cX6_mixOutcome 59 = .ok (.i2l, 1) := by decide +kernel
theorem dX6_mixOutcome_60 : decode cX6_mixOutcome 60 = .ok (.invokevirtual 281, 3) := by decide +kernel
theorem dX6_mixOutcome_63 : decode cX6_mixOutcome 63 = .ok (.return_, 1) := by decide +kernel
theorem dX6_digest_0 : decode cX6_digest 0 = .ok (.aload_n 0, 1) := by decide +kernel
theorem dX6_digest_1 : decode cX6_digest 1 = .ok (.ldc2_w 285, 3) := by decide +kernel
theorem dX6_digest_4 : decode cX6_digest 4 = .ok (.putfield 278, 3) := by decide +kernel
theorem dX6_digest_7 : decode cX6_digest 7 = .ok (.iconst 0, 1) := by decide +kernel
theorem dX6_digest_8 : decode cX6_digest 8 = .ok (.istore_n 1, 1) := by decide +kernel
theorem dX6_digest_9 : decode cX6_digest 9 = .ok (.iload_n 1, 1) := by decide +kernel
theorem dX6_digest_10 : decode cX6_digest 10 = .ok (.aload_n 0, 1) := by decide +kernel
theorem dX6_digest_11 : decode cX6_digest 11 = .ok (.getfield 97, 3) := by decide +kernel
theorem dX6_digest_14 : decode cX6_digest 14 = .ok (.if_icmp .ge 31, 3) := by decide +kernel
theorem dX6_digest_17 : decode cX6_digest 17 = .ok (.aload_n 0, 1) := by decide +kernel
theorem dX6_digest_18 : decode cX6_digest 18 = .ok (.aload_n 0, 1) := by decide +kernel
theorem dX6_digest_19 : decode cX6_digest 19 = .ok (.getfield 7, 3) := by decide +kernel
theorem dX6_digest_22 : decode cX6_digest 22 = .ok (.iload_n 1, 1) := by decide +kernel
theorem dX6_digest_23 : decode cX6_digest 23 = .ok (.iaload, 1) := by decide +kernel
theorem dX6_digest_24 : decode cX6_digest 24 = .ok (.i2l, 1) := by decide +kernel
theorem dX6_digest_25 : decode cX6_digest 25 = .ok (.invokevirtual 281, 3) := by decide +kernel
theorem dX6_digest_28 : decode cX6_digest 28 = .ok (.aload_n 0, 1) := by decide +kernel
theorem dX6_digest_29 : decode cX6_digest 29 = .ok (.aload_n 0, 1) := by decide +kernel
theorem dX6_digest_30 : decode cX6_digest 30 = .ok (.getfield 13, 3) := by decide +kernel
theorem dX6_digest_33 : decode cX6_digest 33 = .ok (.iload_n 1, 1) := by decide +kernel
theorem dX6_digest_34 : decode cX6_digest 34 = .ok (.iaload, 1) := by decide +kernel
theorem dX6_digest_35 : decode cX6_digest 35 = .ok (.i2l, 1) := by decide +kernel
theorem dX6_digest_36 : decode cX6_digest 36 = .ok (.invokevirtual 281, 3) := by decide +kernel
theorem dX6_digest_39 : decode cX6_digest 39 = .ok (.iinc 1 1, 3) := by decide +kernel
theorem dX6_digest_42 : decode cX6_digest 42 = .ok (.goto (-33), 3) := by decide +kernel
theorem dX6_digest_45 : decode cX6_digest 45 = .ok (.iconst 0, 1) := by decide +kernel
theorem dX6_digest_46 : decode cX6_digest 46 = .ok (.istore_n 1, 1) := by decide +kernel
theorem dX6_digest_47 : decode cX6_digest 47 = .ok (.iload_n 1, 1) := by decide +kernel
theorem dX6_digest_48 : decode cX6_digest 48 = .ok (.aload_n 0, 1) := by decide +kernel
theorem dX6_digest_49 : decode cX6_digest 49 = .ok (.getfield 106, 3) := by decide +kernel
theorem dX6_digest_52 : decode cX6_digest 52 = .ok (.if_icmp .ge 34, 3) := by decide +kernel
theorem dX6_digest_55 : decode cX6_digest 55 = .ok (.iconst 0, 1) := by decide +kernel
theorem dX6_digest_56 : decode cX6_digest 56 = .ok (.istore_n 2, 1) := by decide +kernel
theorem dX6_digest_57 : decode cX6_digest 57 = .ok (.iload_n 2, 1) := by decide +kernel
theorem dX6_digest_58 : decode cX6_digest 58 = .ok (.bipush 8, 2) := by decide +kernel
theorem dX6_digest_60 : decode cX6_digest 60 = .ok (.if_icmp .ge 20, 3) := by decide +kernel
theorem dX6_digest_63 : decode cX6_digest 63 = .ok (.aload_n 0, 1) := by decide +kernel
theorem dX6_digest_64 : decode cX6_digest 64 = .ok (.aload_n 0, 1) := by decide +kernel
theorem dX6_digest_65 : decode cX6_digest 65 = .ok (.iload_n 1, 1) := by decide +kernel
theorem dX6_digest_66 : decode cX6_digest 66 = .ok (.iload_n 2, 1) := by decide +kernel
theorem dX6_digest_67 : decode cX6_digest 67 = .ok (.invokevirtual 144, 3) := by decide +kernel
theorem dX6_digest_70 : decode cX6_digest 70 = .ok (.i2l, 1) := by decide +kernel
theorem dX6_digest_71 : decode cX6_digest 71 = .ok (.invokevirtual 281, 3) := by decide +kernel
theorem dX6_digest_74 : decode cX6_digest 74 = .ok (.iinc 2 1, 3) := by decide +kernel
theorem dX6_digest_77 : decode cX6_digest 77 = .ok (.goto (-20), 3) := by decide +kernel
theorem dX6_digest_80 : decode cX6_digest 80 = .ok (.iinc 1 1, 3) := by decide +kernel
theorem dX6_digest_83 : decode cX6_digest 83 = .ok (.goto (-36), 3) := by decide +kernel
theorem dX6_digest_86 : decode cX6_digest 86 = .ok (.aload_n 0, 1) := by decide +kernel
theorem dX6_digest_87 : decode cX6_digest 87 = .ok (.invokevirtual 167, 3) := by decide +kernel
theorem dX6_digest_90 : decode cX6_digest 90 = .ok (.ifCond .eq 7, 3) := by decide +kernel
theorem dX6_digest_93 : decode cX6_digest 93 = .ok (.aload_n 0, 1) := by decide +kernel
theorem dX6_digest_94 : decode cX6_digest 94 = .ok (.invokevirtual 287, 3) := by decide +kernel
theorem dX6_digest_97 : decode cX6_digest 97 = .ok (.aload_n 0, 1) := by decide +kernel
theorem dX6_digest_98 : decode cX6_digest 98 = .ok (.getfield 100, 3) := by decide +kernel
theorem dX6_digest_101 : decode cX6_digest 101 = .ok (.ifCond .eq 19, 3) := by decide +kernel
theorem dX6_digest_104 : decode cX6_digest 104 = .ok (.aload_n 0, 1) := by decide +kernel
theorem dX6_digest_105 : decode cX6_digest 105 = .ok (.getfield 106, 3) := by decide +kernel
theorem dX6_digest_108 : decode cX6_digest 108 = .ok (.ifCond .le 12, 3) := by decide +kernel
theorem dX6_digest_111 : decode cX6_digest 111 = .ok (.aload_n 0, 1) := by decide +kernel
theorem dX6_digest_112 : decode cX6_digest 112 = .ok (.aload_n 0, 1) := by decide +kernel
theorem dX6_digest_113 : decode cX6_digest 113 = .ok (.invokevirtual 221, 3) := by decide +kernel
theorem dX6_digest_116 : decode cX6_digest 116 = .ok (.i2l, 1) := by decide +kernel
theorem dX6_digest_117 : decode cX6_digest 117 = .ok (.invokevirtual 281, 3) := by decide +kernel
theorem dX6_digest_120 : decode cX6_digest 120 = .ok (.iconst 0, 1) := by decide +kernel
theorem dX6_digest_121 : decode cX6_digest 121 = .ok (.istore_n 1, 1) := by decide +kernel
theorem dX6_digest_122 : decode cX6_digest 122 = .ok (.iload_n 1, 1) := by decide +kernel
theorem dX6_digest_123 : decode cX6_digest 123 = .ok (.aload_n 0, 1) := by decide +kernel
theorem dX6_digest_124 : decode cX6_digest 124 = .ok (.getfield 60, 3) := by decide +kernel
theorem dX6_digest_127 : decode cX6_digest 127 = .ok (.if_icmp .ge 20, 3) := by decide +kernel
theorem dX6_digest_130 : decode cX6_digest 130 = .ok (.aload_n 0, 1) := by decide +kernel
theorem dX6_digest_131 : decode cX6_digest 131 = .ok (.aload_n 0, 1) := by decide +kernel
theorem dX6_digest_132 : decode cX6_digest 132 = .ok (.getfield 31, 3) := by decide +kernel
theorem dX6_digest_135 : decode cX6_digest 135 = .ok (.iload_n 1, 1) := by decide +kernel
theorem dX6_digest_136 : decode cX6_digest 136 = .ok (.baload, 1) := by decide +kernel
theorem dX6_digest_137 : decode cX6_digest 137 = .ok (.i2l, 1) := by decide +kernel
theorem dX6_digest_138 : decode cX6_digest 138 = .ok (.invokevirtual 281, 3) := by decide +kernel
theorem dX6_digest_141 : decode cX6_digest 141 = .ok (.iinc 1 1, 3) := by decide +kernel
theorem dX6_digest_144 : decode cX6_digest 144 = .ok (.goto (-22), 3) := by decide +kernel
theorem dX6_digest_147 : decode cX6_digest 147 = .ok (.iconst 0, 1) := by decide +kernel
theorem dX6_digest_148 : decode cX6_digest 148 = .ok (.istore_n 1, 1) := by decide +kernel
theorem dX6_digest_149 : decode cX6_digest 149 = .ok (.iload_n 1, 1) := by decide +kernel
theorem dX6_digest_150 : decode cX6_digest 150 = .ok (.bipush 11, 2) := by decide +kernel
theorem dX6_digest_152 : decode cX6_digest 152 = .ok (.if_icmp .ge 19, 3) := by decide +kernel
theorem dX6_digest_155 : decode cX6_digest 155 = .ok (.aload_n 0, 1) := by decide +kernel
theorem dX6_digest_156 : decode cX6_digest 156 = .ok (.aload_n 0, 1) := by decide +kernel
theorem dX6_digest_157 : decode cX6_digest 157 = .ok (.iload_n 1, 1) := by decide +kernel
theorem dX6_digest_158 : decode cX6_digest 158 = .ok (.invokevirtual 273, 3) := by decide +kernel
theorem dX6_digest_161 : decode cX6_digest 161 = .ok (.i2l, 1) := by decide +kernel
theorem dX6_digest_162 : decode cX6_digest 162 = .ok (.invokevirtual 281, 3) := by decide +kernel
theorem dX6_digest_165 : decode cX6_digest 165 = .ok (.iinc 1 1, 3) := by decide +kernel
theorem dX6_digest_168 : decode cX6_digest 168 = .ok (.goto (-19), 3) := by decide +kernel
theorem dX6_digest_171 : decode cX6_digest 171 = .ok (.aload_n 0, 1) := by decide +kernel
theorem dX6_digest_172 : decode cX6_digest 172 = .ok (.getfield 278, 3) := by decide +kernel
theorem dX6_digest_175 : decode cX6_digest 175 = .ok (.lreturn, 1) := by decide +kernel
theorem dJ6_bitCount_0f7a4_0 : decode cJ6_bitCount_0f7a4 0 = .ok (.iload_n 0, 1) := by decide +kernel
theorem dJ6_bitCount_0f7a4_1 : decode cJ6_bitCount_0f7a4 1 = .ok (.iload_n 0, 1) := by decide +kernel
theorem dJ6_bitCount_0f7a4_2 : decode cJ6_bitCount_0f7a4 2 = .ok (.iconst 1, 1) := by decide +kernel
theorem dJ6_bitCount_0f7a4_3 : decode cJ6_bitCount_0f7a4 3 = .ok (.iushr, 1) := by decide +kernel
theorem dJ6_bitCount_0f7a4_4 : decode cJ6_bitCount_0f7a4 4 = .ok (.ldc_w 265, 3) := by decide +kernel
theorem dJ6_bitCount_0f7a4_7 : decode cJ6_bitCount_0f7a4 7 = .ok (.iand, 1) := by decide +kernel
theorem dJ6_bitCount_0f7a4_8 : decode cJ6_bitCount_0f7a4 8 = .ok (.isub, 1) := by decide +kernel
theorem dJ6_bitCount_0f7a4_9 : decode cJ6_bitCount_0f7a4 9 = .ok (.istore_n 0, 1) := by decide +kernel
theorem dJ6_bitCount_0f7a4_10 : decode cJ6_bitCount_0f7a4 10 = .ok (.iload_n 0, 1) := by decide +kernel
theorem dJ6_bitCount_0f7a4_11 : decode cJ6_bitCount_0f7a4 11 = .ok (.ldc_w 266, 3) := by decide +kernel
theorem dJ6_bitCount_0f7a4_14 : decode cJ6_bitCount_0f7a4 14 = .ok (.iand, 1) := by decide +kernel
theorem dJ6_bitCount_0f7a4_15 : decode cJ6_bitCount_0f7a4 15 = .ok (.iload_n 0, 1) := by decide +kernel
theorem dJ6_bitCount_0f7a4_16 : decode cJ6_bitCount_0f7a4 16 = .ok (.iconst 2, 1) := by decide +kernel
theorem dJ6_bitCount_0f7a4_17 : decode cJ6_bitCount_0f7a4 17 = .ok (.iushr, 1) := by decide +kernel
theorem dJ6_bitCount_0f7a4_18 : decode cJ6_bitCount_0f7a4 18 = .ok (.ldc_w 266, 3) := by decide +kernel
theorem dJ6_bitCount_0f7a4_21 : decode cJ6_bitCount_0f7a4 21 = .ok (.iand, 1) := by decide +kernel
theorem dJ6_bitCount_0f7a4_22 : decode cJ6_bitCount_0f7a4 22 = .ok (.iadd, 1) := by decide +kernel
theorem dJ6_bitCount_0f7a4_23 : decode cJ6_bitCount_0f7a4 23 = .ok (.istore_n 0, 1) := by decide +kernel
theorem dJ6_bitCount_0f7a4_24 : decode cJ6_bitCount_0f7a4 24 = .ok (.iload_n 0, 1) := by decide +kernel
theorem dJ6_bitCount_0f7a4_25 : decode cJ6_bitCount_0f7a4 25 = .ok (.iload_n 0, 1) := by decide +kernel
theorem dJ6_bitCount_0f7a4_26 : decode cJ6_bitCount_0f7a4 26 = .ok (.iconst 4, 1) := by decide +kernel
theorem dJ6_bitCount_0f7a4_27 : decode cJ6_bitCount_0f7a4 27 = .ok (.iushr, 1) := by decide +kernel
theorem dJ6_bitCount_0f7a4_28 : decode cJ6_bitCount_0f7a4 28 = .ok (.iadd, 1) := by decide +kernel
theorem dJ6_bitCount_0f7a4_29 : decode cJ6_bitCount_0f7a4 29 = .ok (.ldc_w 267, 3) := by decide +kernel
theorem dJ6_bitCount_0f7a4_32 : decode cJ6_bitCount_0f7a4 32 = .ok (.iand, 1) := by decide +kernel
theorem dJ6_bitCount_0f7a4_33 : decode cJ6_bitCount_0f7a4 33 = .ok (.istore_n 0, 1) := by decide +kernel
theorem dJ6_bitCount_0f7a4_34 : decode cJ6_bitCount_0f7a4 34 = .ok (.iload_n 0, 1) := by decide +kernel
theorem dJ6_bitCount_0f7a4_35 : decode cJ6_bitCount_0f7a4 35 = .ok (.iload_n 0, 1) := by decide +kernel
theorem dJ6_bitCount_0f7a4_36 : decode cJ6_bitCount_0f7a4 36 = .ok (.bipush 8, 2) := by decide +kernel
theorem dJ6_bitCount_0f7a4_38 : decode cJ6_bitCount_0f7a4 38 = .ok (.iushr, 1) := by decide +kernel
theorem dJ6_bitCount_0f7a4_39 : decode cJ6_bitCount_0f7a4 39 = .ok (.iadd, 1) := by decide +kernel
theorem dJ6_bitCount_0f7a4_40 : decode cJ6_bitCount_0f7a4 40 = .ok (.istore_n 0, 1) := by decide +kernel
theorem dJ6_bitCount_0f7a4_41 : decode cJ6_bitCount_0f7a4 41 = .ok (.iload_n 0, 1) := by decide +kernel
theorem dJ6_bitCount_0f7a4_42 : decode cJ6_bitCount_0f7a4 42 = .ok (.iload_n 0, 1) := by decide +kernel
theorem dJ6_bitCount_0f7a4_43 : decode cJ6_bitCount_0f7a4 43 = .ok (.bipush 16, 2) := by decide +kernel
theorem dJ6_bitCount_0f7a4_45 : decode cJ6_bitCount_0f7a4 45 = .ok (.iushr, 1) := by decide +kernel
theorem dJ6_bitCount_0f7a4_46 : decode cJ6_bitCount_0f7a4 46 = .ok (.iadd, 1) := by decide +kernel
theorem dJ6_bitCount_0f7a4_47 : decode cJ6_bitCount_0f7a4 47 = .ok (.istore_n 0, 1) := by decide +kernel
theorem dJ6_bitCount_0f7a4_48 : decode cJ6_bitCount_0f7a4 48 = .ok (.iload_n 0, 1) := by decide +kernel
theorem dJ6_bitCount_0f7a4_49 : decode cJ6_bitCount_0f7a4 49 = .ok (.bipush 63, 2) := by decide +kernel
theorem dJ6_bitCount_0f7a4_51 : decode cJ6_bitCount_0f7a4 51 = .ok (.iand, 1) := by decide +kernel
theorem dJ6_bitCount_0f7a4_52 : decode cJ6_bitCount_0f7a4 52 = .ok (.ireturn, 1) := by decide +kernel
theorem dJ9_max_7cf53_0 : decode cJ9_max_7cf53 0 = .ok (.iload_n 0, 1) := by decide +kernel
theorem dJ9_max_7cf53_1 : decode cJ9_max_7cf53 1 = .ok (.iload_n 1, 1) := by decide +kernel
theorem dJ9_max_7cf53_2 : decode cJ9_max_7cf53 2 = .ok (.if_icmp .lt 7, 3) := by decide +kernel
theorem dJ9_max_7cf53_5 : decode cJ9_max_7cf53 5 = .ok (.iload_n 0, 1) := by decide +kernel
theorem dJ9_max_7cf53_6 : decode cJ9_max_7cf53 6 = .ok (.goto 4, 3) := by decide +kernel
theorem dJ9_max_7cf53_9 : decode cJ9_max_7cf53 9 = .ok (.iload_n 1, 1) := by decide +kernel
theorem dJ9_max_7cf53_10 : decode cJ9_max_7cf53 10 = .ok (.ireturn, 1) := by decide +kernel
theorem dL_law_0 : decode cL_law 0 = .ok (.new 7, 3) := by decide +kernel
theorem dL_law_3 : decode cL_law 3 = .ok (.dup, 1) := by decide +kernel
theorem dL_law_4 : decode cL_law 4 = .ok (.invokespecial 9, 3) := by decide +kernel
theorem dL_law_7 : decode cL_law 7 = .ok (.astore_n 1, 1) := by decide +kernel
theorem dL_law_8 : decode cL_law 8 = .ok (.new 10, 3) := by decide +kernel
theorem dL_law_11 : decode cL_law 11 = .ok (.dup, 1) := by decide +kernel
theorem dL_law_12 : decode cL_law 12 = .ok (.invokespecial 12, 3) := by decide +kernel
theorem dL_law_15 : decode cL_law 15 = .ok (.astore_n 2, 1) := by decide +kernel
theorem dL_law_16 : decode cL_law 16 = .ok (.iconst 0, 1) := by decide +kernel
theorem dL_law_17 : decode cL_law 17 = .ok (.istore_n 3, 1) := by decide +kernel
theorem dL_law_18 : decode cL_law 18 = .ok (.iload_n 3, 1) := by decide +kernel
theorem dL_law_19 : decode cL_law 19 = .ok (.aload_n 0, 1) := by decide +kernel
theorem dL_law_20 : decode cL_law 20 = .ok (.arraylength, 1) := by decide +kernel
theorem dL_law_21 : decode cL_law 21 = .ok (.iconst 4, 1) := by decide +kernel
theorem dL_law_22 : decode cL_law 22 = .ok (.isub, 1) := by decide +kernel
theorem dL_law_23 : decode cL_law 23 = .ok (.if_icmp .gt 713, 3) := by decide +kernel
theorem dL_law_26 : decode cL_law 26 = .ok (.aload_n 0, 1) := by decide +kernel
theorem dL_law_27 : decode cL_law 27 = .ok (.iload_n 3, 1) := by decide +kernel
theorem dL_law_28 : decode cL_law 28 = .ok (.iaload, 1) := by decide +kernel
theorem dL_law_29 : decode cL_law 29 = .ok (.bipush 31, 2) := by decide +kernel
theorem dL_law_31 : decode cL_law 31 = .ok (.iand, 1) := by decide +kernel
theorem dL_law_32 : decode cL_law 32 = .ok (.tableswitch 698 0 24 #[116, 139, 152, 165, 178, 211, 254, 287, 320, 369, 402, 415, 438, 471, 494, 507, 520, 543, 556, 569, 592, 635, 648, 661, 684], 116) := by decide +kernel
theorem dL_law_148 : decode cL_law 148 = .ok (.aload_n 1, 1) := by decide +kernel
theorem dL_law_149 : decode cL_law 149 = .ok (.aload_n 0, 1) := by decide +kernel
theorem dL_law_150 : decode cL_law 150 = .ok (.iload_n 3, 1) := by decide +kernel
theorem dL_law_151 : decode cL_law 151 = .ok (.iconst 1, 1) := by decide +kernel
theorem dL_law_152 : decode cL_law 152 = .ok (.iadd, 1) := by decide +kernel
theorem dL_law_153 : decode cL_law 153 = .ok (.iaload, 1) := by decide +kernel
theorem dL_law_154 : decode cL_law 154 = .ok (.invokevirtual 13, 3) := by decide +kernel
theorem dL_law_157 : decode cL_law 157 = .ok (.aload_n 2, 1) := by decide +kernel
theorem dL_law_158 : decode cL_law 158 = .ok (.aload_n 0, 1) := by decide +kernel
theorem dL_law_159 : decode cL_law 159 = .ok (.iload_n 3, 1) := by decide +kernel
theorem dL_law_160 : decode cL_law 160 = .ok (.iconst 1, 1) := by decide +kernel
theorem dL_law_161 : decode cL_law 161 = .ok (.iadd, 1) := by decide +kernel
theorem dL_law_162 : decode cL_law 162 = .ok (.iaload, 1) := by decide +kernel
theorem dL_law_163 : decode cL_law 163 = .ok (.invokevirtual 17, 3) := by decide +kernel
theorem dL_law_166 : decode cL_law 166 = .ok (.if_icmp .eq 564, 3) := by decide +kernel
theorem dL_law_169 : decode cL_law 169 = .ok (.iconst 0, 1) := by decide +kernel
theorem dL_law_170 : decode cL_law 170 = .ok (.ireturn, 1) := by decide +kernel
theorem dL_law_171 : decode cL_law 171 = .ok (.aload_n 1, 1) := by decide +kernel
theorem dL_law_172 : decode cL_law 172 = .ok (.invokevirtual 18, 3) := by decide +kernel
theorem dL_law_175 : decode cL_law 175 = .ok (.aload_n 2, 1) := by decide +kernel
theorem dL_law_176 : decode cL_law 176 = .ok (.invokevirtual 22, 3) := by decide +kernel
theorem dL_law_179 : decode cL_law 179 = .ok (.if_icmp .eq 551, 3) := by decide +kernel
theorem dL_law_182 : decode cL_law 182 = .ok (.iconst 0, 1) := by decide +kernel
theorem dL_law_183 : decode cL_law 183 = .ok (.ireturn, 1) := by decide +kernel
theorem dL_law_184 : decode cL_law 184 = .ok (.aload_n 1, 1) := by decide +kernel
theorem dL_law_185 : decode cL_law 185 = .ok (.invokevirtual 23, 3) := by decide +kernel
theorem dL_law_188 : decode cL_law 188 = .ok (.aload_n 2, 1) := by decide +kernel
theorem dL_law_189 : decode cL_law 189 = .ok (.invokevirtual 26, 3) := by decide +kernel
theorem dL_law_192 : decode cL_law 192 = .ok (.if_icmp .eq 538, 3) := by decide +kernel
theorem dL_law_195 : decode cL_law 195 = .ok (.iconst 0, 1) := by decide +kernel
theorem dL_law_196 : decode cL_law 196 = .ok (.ireturn, 1) := by decide +kernel
theorem dL_law_197 : decode cL_law 197 = .ok (.aload_n 1, 1) := by decide +kernel
theorem dL_law_198 : decode cL_law 198 = .ok (.invokevirtual 27, 3) := by decide +kernel
theorem dL_law_201 : decode cL_law 201 = .ok (.aload_n 2, 1) := by decide +kernel
theorem dL_law_202 : decode cL_law 202 = .ok (.invokevirtual 30, 3) := by decide +kernel
theorem dL_law_205 : decode cL_law 205 = .ok (.if_icmp .eq 525, 3) := by decide +kernel
theorem dL_law_208 : decode cL_law 208 = .ok (.iconst 0, 1) := by decide +kernel
theorem dL_law_209 : decode cL_law 209 = .ok (.ireturn, 1) := by decide +kernel
theorem dL_law_210 : decode cL_law 210 = .ok (.aload_n 1, 1) := by decide +kernel
theorem dL_law_211 : decode cL_law 211 = .ok (.aload_n 0, 1) := by decide +kernel
theorem dL_law_212 : decode cL_law 212 = .ok (.iload_n 3, 1) := by decide +kernel
theorem dL_law_213 : decode cL_law 213 = .ok (.iconst 1, 1) := by decide +kernel
theorem dL_law_214 : decode cL_law 214 = .ok (.iadd, 1) := by decide +kernel
theorem dL_law_215 : decode cL_law 215 = .ok (.iaload, 1) := by decide +kernel
theorem dL_law_216 : decode cL_law 216 = .ok (.aload_n 0, 1) := by decide +kernel
theorem dL_law_217 : decode cL_law 217 = .ok (.iload_n 3, 1) := by decide +kernel
theorem dL_law_218 : decode cL_law 218 = .ok (.iconst 2, 1) := by decide +kernel
theorem dL_law_219 : decode cL_law 219 = .ok (.iadd, 1) := by decide +kernel
theorem dL_law_220 : decode cL_law 220 = .ok (.iaload, 1) := by decide +kernel
theorem dL_law_221 : decode cL_law 221 = .ok (.invokevirtual 31, 3) := by decide +kernel
theorem dL_law_224 : decode cL_law 224 = .ok (.aload_n 2, 1) := by decide +kernel
theorem dL_law_225 : decode cL_law 225 = .ok (.aload_n 0, 1) := by decide +kernel
theorem dL_law_226 : decode cL_law 226 = .ok (.iload_n 3, 1) := by decide +kernel
theorem dL_law_227 : decode cL_law 227 = .ok (.iconst 1, 1) := by decide +kernel
theorem dL_law_228 : decode cL_law 228 = .ok (.iadd, 1) := by decide +kernel
theorem dL_law_229 : decode cL_law 229 = .ok (.iaload, 1) := by decide +kernel
theorem dL_law_230 : decode cL_law 230 = .ok (.aload_n 0, 1) := by decide +kernel
theorem dL_law_231 : decode cL_law 231 = .ok (.iload_n 3, 1) := by decide +kernel
theorem dL_law_232 : decode cL_law 232 = .ok (.iconst 2, 1) := by decide +kernel
theorem dL_law_233 : decode cL_law 233 = .ok (.iadd, 1) := by decide +kernel
theorem dL_law_234 : decode cL_law 234 = .ok (.iaload, 1) := by decide +kernel
theorem dL_law_235 : decode cL_law 235 = .ok (.invokevirtual 35, 3) := by decide +kernel
theorem dL_law_238 : decode cL_law 238 = .ok (.if_icmp .eq 492, 3) := by decide +kernel
theorem dL_law_241 : decode cL_law 241 = .ok (.iconst 0, 1) := by decide +kernel
theorem dL_law_242 : decode cL_law 242 = .ok (.ireturn, 1) := by decide +kernel
theorem dL_law_243 : decode cL_law 243 = .ok (.aload_n 1, 1) := by decide +kernel
theorem dL_law_244 : decode cL_law 244 = .ok (.aload_n 0, 1) := by decide +kernel
theorem dL_law_245 : decode cL_law 245 = .ok (.iload_n 3, 1) := by decide +kernel
theorem dL_law_246 : decode cL_law 246 = .ok (.iconst 1, 1) := by decide +kernel
theorem dL_law_247 : decode cL_law 247 = .ok (.iadd, 1) := by decide +kernel
theorem dL_law_248 : decode cL_law 248 = .ok (.iaload, 1) := by decide +kernel
theorem dL_law_249 : decode cL_law 249 = .ok (.aload_n 0, 1) := by decide +kernel
theorem dL_law_250 : decode cL_law 250 = .ok (.iload_n 3, 1) := by decide +kernel
theorem dL_law_251 : decode cL_law 251 = .ok (.iconst 2, 1) := by decide +kernel
theorem dL_law_252 : decode cL_law 252 = .ok (.iadd, 1) := by decide +kernel
theorem dL_law_253 : decode cL_law 253 = .ok (.iaload, 1) := by decide +kernel
theorem dL_law_254 : decode cL_law 254 = .ok (.aload_n 0, 1) := by decide +kernel
theorem dL_law_255 : decode cL_law 255 = .ok (.iload_n 3, 1) := by decide +kernel
theorem dL_law_256 : decode cL_law 256 = .ok (.iconst 3, 1) := by decide +kernel
theorem dL_law_257 : decode cL_law 257 = .ok (.iadd, 1) := by decide +kernel
theorem dL_law_258 : decode cL_law 258 = .ok (.iaload, 1) := by decide +kernel
theorem dL_law_259 : decode cL_law 259 = .ok (.invokevirtual 36, 3) := by decide +kernel
theorem dL_law_262 : decode cL_law 262 = .ok (.aload_n 2, 1) := by decide +kernel
theorem dL_law_263 : decode cL_law 263 = .ok (.aload_n 0, 1) := by decide +kernel
theorem dL_law_264 : decode cL_law 264 = .ok (.iload_n 3, 1) := by decide +kernel
theorem dL_law_265 : decode cL_law 265 = .ok (.iconst 1, 1) := by decide +kernel
theorem dL_law_266 : decode cL_law 266 = .ok (.iadd, 1) := by decide +kernel
theorem dL_law_267 : decode cL_law 267 = .ok (.iaload, 1) := by decide +kernel
theorem dL_law_268 : decode cL_law 268 = .ok (.aload_n 0, 1) := by decide +kernel
theorem dL_law_269 : decode cL_law 269 = .ok (.iload_n 3, 1) := by decide +kernel
theorem dL_law_270 : decode cL_law 270 = .ok (.iconst 2, 1) := by decide +kernel
theorem dL_law_271 : decode cL_law 271 = .ok (.iadd, 1) := by decide +kernel
theorem dL_law_272 : decode cL_law 272 = .ok (.iaload, 1) := by decide +kernel
theorem dL_law_273 : decode cL_law 273 = .ok (.aload_n 0, 1) := by decide +kernel
theorem dL_law_274 : decode cL_law 274 = .ok (.iload_n 3, 1) := by decide +kernel
theorem dL_law_275 : decode cL_law 275 = .ok (.iconst 3, 1) := by decide +kernel
theorem dL_law_276 : decode cL_law 276 = .ok (.iadd, 1) := by decide +kernel
theorem dL_law_277 : decode cL_law 277 = .ok (.iaload, 1) := by decide +kernel
theorem dL_law_278 : decode cL_law 278 = .ok (.invokevirtual 40, 3) := by decide +kernel
theorem dL_law_281 : decode cL_law 281 = .ok (.if_icmp .eq 449, 3) := by decide +kernel
theorem dL_law_284 : decode cL_law 284 = .ok (.iconst 0, 1) := by decide +kernel
theorem dL_law_285 : decode cL_law 285 = .ok (.ireturn, 1) := by decide +kernel
theorem dL_law_286 : decode cL_law 286 = .ok (.aload_n 1, 1) := by decide +kernel
theorem dL_law_287 : decode cL_law 287 = .ok (.aload_n 0, 1) := by decide +kernel
theorem dL_law_288 : decode cL_law 288 = .ok (.iload_n 3, 1) := by decide +kernel
theorem dL_law_289 : decode cL_law 289 = .ok (.iconst 1, 1) := by decide +kernel
theorem dL_law_290 : decode cL_law 290 = .ok (.iadd, 1) := by decide +kernel
theorem dL_law_291 : decode cL_law 291 = .ok (.iaload, 1) := by decide +kernel
theorem dL_law_292 : decode cL_law 292 = .ok (.aload_n 0, 1) := by decide +kernel
theorem dL_law_293 : decode cL_law 293 = .ok (.iload_n 3, 1) := by decide +kernel
theorem dL_law_294 : decode cL_law 294 = .ok (.iconst 2, 1) := by decide +kernel
theorem dL_law_295 : decode cL_law 295 = .ok (.iadd, 1) := by decide +kernel
theorem dL_law_296 : decode cL_law 296 = .ok (.iaload, 1) := by decide +kernel
theorem dL_law_297 : decode cL_law 297 = .ok (.invokevirtual 41, 3) := by decide +kernel
theorem dL_law_300 : decode cL_law 300 = .ok (.aload_n 2, 1) := by decide +kernel
theorem dL_law_301 : decode cL_law 301 = .ok (.aload_n 0, 1) := by decide +kernel
theorem dL_law_302 : decode cL_law 302 = .ok (.iload_n 3, 1) := by decide +kernel
theorem dL_law_303 : decode cL_law 303 = .ok (.iconst 1, 1) := by decide +kernel
theorem dL_law_304 : decode cL_law 304 = .ok (.iadd, 1) := by decide +kernel
theorem dL_law_305 : decode cL_law 305 = .ok (.iaload, 1) := by decide +kernel
theorem dL_law_306 : decode cL_law 306 = .ok (.aload_n 0, 1) := by decide +kernel
theorem dL_law_307 : decode cL_law 307 = .ok (.iload_n 3, 1) := by decide +kernel
theorem dL_law_308 : decode cL_law 308 = .ok (.iconst 2, 1) := by decide +kernel
theorem dL_law_309 : decode cL_law 309 = .ok (.iadd, 1) := by decide +kernel
theorem dL_law_310 : decode cL_law 310 = .ok (.iaload, 1) := by decide +kernel
theorem dL_law_311 : decode cL_law 311 = .ok (.invokevirtual 44, 3) := by decide +kernel
theorem dL_law_314 : decode cL_law 314 = .ok (.if_icmp .eq 416, 3) := by decide +kernel
theorem dL_law_317 : decode cL_law 317 = .ok (.iconst 0, 1) := by decide +kernel
theorem dL_law_318 : decode cL_law 318 = .ok (.ireturn, 1) := by decide +kernel
theorem dL_law_319 : decode cL_law 319 = .ok (.aload_n 1, 1) := by decide +kernel
theorem dL_law_320 : decode cL_law 320 = .ok (.aload_n 0, 1) := by decide +kernel
theorem dL_law_321 : decode cL_law 321 = .ok (.iload_n 3, 1) := by decide +kernel
theorem dL_law_322 : decode cL_law 322 = .ok (.iconst 1, 1) := by decide +kernel
theorem dL_law_323 : decode cL_law 323 = .ok (.iadd, 1) := by decide +kernel
theorem dL_law_324 : decode cL_law 324 = .ok (.iaload, 1) := by decide +kernel
theorem dL_law_325 : decode cL_law 325 = .ok (.aload_n 0, 1) := by decide +kernel
theorem dL_law_326 : decode cL_law 326 = .ok (.iload_n 3, 1) := by decide +kernel
theorem dL_law_327 : decode cL_law 327 = .ok (.iconst 2, 1) := by decide +kernel
theorem dL_law_328 : decode cL_law 328 = .ok (.iadd, 1) := by decide +kernel
theorem dL_law_329 : decode cL_law 329 = .ok (.iaload, 1) := by decide +kernel
theorem dL_law_330 : decode cL_law 330 = .ok (.invokevirtual 45, 3) := by decide +kernel
theorem dL_law_333 : decode cL_law 333 = .ok (.aload_n 2, 1) := by decide +kernel
theorem dL_law_334 : decode cL_law 334 = .ok (.aload_n 0, 1) := by decide +kernel
theorem dL_law_335 : decode cL_law 335 = .ok (.iload_n 3, 1) := by decide +kernel
theorem dL_law_336 : decode cL_law 336 = .ok (.iconst 1, 1) := by decide +kernel
theorem dL_law_337 : decode cL_law 337 = .ok (.iadd, 1) := by decide +kernel
theorem dL_law_338 : decode cL_law 338 = .ok (.iaload, 1) := by decide +kernel
theorem dL_law_339 : decode cL_law 339 = .ok (.aload_n 0, 1) := by decide +kernel
theorem dL_law_340 : decode cL_law 340 = .ok (.iload_n 3, 1) := by decide +kernel
theorem dL_law_341 : decode cL_law 341 = .ok (.iconst 2, 1) := by decide +kernel
theorem dL_law_342 : decode cL_law 342 = .ok (.iadd, 1) := by decide +kernel
theorem dL_law_343 : decode cL_law 343 = .ok (.iaload, 1) := by decide +kernel
theorem dL_law_344 : decode cL_law 344 = .ok (.invokevirtual 48, 3) := by decide +kernel
theorem dL_law_347 : decode cL_law 347 = .ok (.if_icmp .eq 383, 3) := by decide +kernel
theorem dL_law_350 : decode cL_law 350 = .ok (.iconst 0, 1) := by decide +kernel
theorem dL_law_351 : decode cL_law 351 = .ok (.ireturn, 1) := by decide +kernel
theorem dL_law_352 : decode cL_law 352 = .ok (.aload_n 1, 1) := by decide +kernel
theorem dL_law_353 : decode cL_law 353 = .ok (.aload_n 0, 1) := by decide +kernel
theorem dL_law_354 : decode cL_law 354 = .ok (.iload_n 3, 1) := by decide +kernel
theorem dL_law_355 : decode cL_law 355 = .ok (.iconst 1, 1) := by decide +kernel
theorem dL_law_356 : decode cL_law 356 = .ok (.iadd, 1) := by decide +kernel
theorem dL_law_357 : decode cL_law 357 = .ok (.iaload, 1) := by decide +kernel
theorem dL_law_358 : decode cL_law 358 = .ok (.aload_n 0, 1) := by decide +kernel
theorem dL_law_359 : decode cL_law 359 = .ok (.iload_n 3, 1) := by decide +kernel
theorem dL_law_360 : decode cL_law 360 = .ok (.iconst 2, 1) := by decide +kernel
theorem dL_law_361 : decode cL_law 361 = .ok (.iadd, 1) := by decide +kernel
theorem dL_law_362 : decode cL_law 362 = .ok (.iaload, 1) := by decide +kernel
theorem dL_law_363 : decode cL_law 363 = .ok (.ifCond .eq 7, 3) := by decide +kernel
theorem dL_law_366 : decode cL_law 366 = .ok (.iconst 1, 1) := by decide +kernel
theorem dL_law_367 : decode cL_law 367 = .ok (.goto 4, 3) := by decide +kernel
theorem dL_law_370 : decode cL_law 370 = .ok (.iconst 0, 1) := by decide +kernel
theorem dL_law_371 : decode cL_law 371 = .ok (.invokevirtual 49, 3) := by decide +kernel
theorem dL_law_374 : decode cL_law 374 = .ok (.aload_n 2, 1) := by decide +kernel
theorem dL_law_375 : decode cL_law 375 = .ok (.aload_n 0, 1) := by decide +kernel
theorem dL_law_376 : decode cL_law 376 = .ok (.iload_n 3, 1) := by decide +kernel
theorem dL_law_377 : decode cL_law 377 = .ok (.iconst 1, 1) := by decide +kernel
theorem dL_law_378 : decode cL_law 378 = .ok (.iadd, 1) := by decide +kernel
theorem dL_law_379 : decode cL_law 379 = .ok (.iaload, 1) := by decide +kernel
theorem dL_law_380 : decode cL_law 380 = .ok (.aload_n 0, 1) := by decide +kernel
theorem dL_law_381 : decode cL_law 381 = .ok (.iload_n 3, 1) := by decide +kernel
theorem dL_law_382 : decode cL_law 382 = .ok (.iconst 2, 1) := by decide +kernel
theorem dL_law_383 : decode cL_law 383 = .ok (.iadd, 1) := by decide +kernel
theorem dL_law_384 : decode cL_law 384 = .ok (.iaload, 1) := by decide +kernel
theorem dL_law_385 : decode cL_law 385 = .ok (.ifCond .eq 7, 3) := by decide +kernel
theorem dL_law_388 : decode cL_law 388 = .ok (.iconst 1, 1) := by decide +kernel
theorem dL_law_389 : decode cL_law 389 = .ok (.goto 4, 3) := by decide +kernel
theorem dL_law_392 : decode cL_law 392 = .ok (.iconst 0, 1) := by decide +kernel
theorem dL_law_393 : decode cL_law 393 = .ok (.invokevirtual 53, 3) := by decide +kernel
theorem dL_law_396 : decode cL_law 396 = .ok (.if_icmp .eq 334, 3) := by decide +kernel
theorem dL_law_399 : decode cL_law 399 = .ok (.iconst 0, 1) := by decide +kernel
theorem dL_law_400 : decode cL_law 400 = .ok (.ireturn, 1) := by decide +kernel
theorem dL_law_401 : decode cL_law 401 = .ok (.aload_n 1, 1) := by decide +kernel
theorem dL_law_402 : decode cL_law 402 = .ok (.aload_n 0, 1) := by decide +kernel
theorem dL_law_403 : decode cL_law 403 = .ok (.iload_n 3, 1) := by decide +kernel
theorem dL_law_404 : decode cL_law 404 = .ok (.iconst 1, 1) := by decide +kernel
theorem dL_law_405 : decode cL_law 405 = .ok (.iadd, 1) := by decide +kernel
theorem dL_law_406 : decode cL_law 406 = .ok (.iaload, 1) := by decide +kernel
theorem dL_law_407 : decode cL_law 407 = .ok (.aload_n 0, 1) := by decide +kernel
theorem dL_law_408 : decode cL_law 408 = .ok (.iload_n 3, 1) := by decide +kernel
theorem dL_law_409 : decode cL_law 409 = .ok (.iconst 2, 1) := by decide +kernel
theorem dL_law_410 : decode cL_law 410 = .ok (.iadd, 1) := by decide +kernel
theorem dL_law_411 : decode cL_law 411 = .ok (.iaload, 1) := by decide +kernel
theorem dL_law_412 : decode cL_law 412 = .ok (.invokevirtual 54, 3) := by decide +kernel
theorem dL_law_415 : decode cL_law 415 = .ok (.aload_n 2, 1) := by decide +kernel
theorem dL_law_416 : decode cL_law 416 = .ok (.aload_n 0, 1) := by decide +kernel
theorem dL_law_417 : decode cL_law 417 = .ok (.iload_n 3, 1) := by decide +kernel
theorem dL_law_418 : decode cL_law 418 = .ok (.iconst 1, 1) := by decide +kernel
theorem dL_law_419 : decode cL_law 419 = .ok (.iadd, 1) := by decide +kernel
theorem dL_law_420 : decode cL_law 420 = .ok (.iaload, 1) := by decide +kernel
theorem dL_law_421 : decode cL_law 421 = .ok (.aload_n 0, 1) := by decide +kernel
theorem dL_law_422 : decode cL_law 422 = .ok (.iload_n 3, 1) := by decide +kernel
theorem dL_law_423 : decode cL_law 423 = .ok (.iconst 2, 1) := by decide +kernel
theorem dL_law_424 : decode cL_law 424 = .ok (.iadd, 1) := by decide +kernel
theorem dL_law_425 : decode cL_law 425 = .ok (.iaload, 1) := by decide +kernel
theorem dL_law_426 : decode cL_law 426 = .ok (.invokevirtual 57, 3) := by decide +kernel
theorem dL_law_429 : decode cL_law 429 = .ok (.if_icmp .eq 301, 3) := by decide +kernel
theorem dL_law_432 : decode cL_law 432 = .ok (.iconst 0, 1) := by decide +kernel
theorem dL_law_433 : decode cL_law 433 = .ok (.ireturn, 1) := by decide +kernel
theorem dL_law_434 : decode cL_law 434 = .ok (.aload_n 1, 1) := by decide +kernel
theorem dL_law_435 : decode cL_law 435 = .ok (.invokevirtual 58, 3) := by decide +kernel
theorem dL_law_438 : decode cL_law 438 = .ok (.aload_n 2, 1) := by decide +kernel
theorem dL_law_439 : decode cL_law 439 = .ok (.invokevirtual 61, 3) := by decide +kernel
theorem dL_law_442 : decode cL_law 442 = .ok (.if_icmp .eq 288, 3) := by decide +kernel
theorem dL_law_445 : decode cL_law 445 = .ok (.iconst 0, 1) := by decide +kernel
theorem dL_law_446 : decode cL_law 446 = .ok (.ireturn, 1) := by decide +kernel
theorem dL_law_447 : decode cL_law 447 = .ok (.aload_n 1, 1) := by decide +kernel
theorem dL_law_448 : decode cL_law 448 = .ok (.aload_n 0, 1) := by decide +kernel
theorem dL_law_449 : decode cL_law 449 = .ok (.iload_n 3, 1) := by decide +kernel
theorem dL_law_450 : decode cL_law 450 = .ok (.iconst 1, 1) := by decide +kernel
theorem dL_law_451 : decode cL_law 451 = .ok (.iadd, 1) := by decide +kernel
theorem dL_law_452 : decode cL_law 452 = .ok (.iaload, 1) := by decide +kernel
theorem dL_law_453 : decode cL_law 453 = .ok (.invokevirtual 62, 3) := by decide +kernel
theorem dL_law_456 : decode cL_law 456 = .ok (.aload_n 2, 1) := by decide +kernel
theorem dL_law_457 : decode cL_law 457 = .ok (.aload_n 0, 1) := by decide +kernel
theorem dL_law_458 : decode cL_law 458 = .ok (.iload_n 3, 1) := by decide +kernel
theorem dL_law_459 : decode cL_law 459 = .ok (.iconst 1, 1) := by decide +kernel
theorem dL_law_460 : decode cL_law 460 = .ok (.iadd, 1) := by decide +kernel
theorem dL_law_461 : decode cL_law 461 = .ok (.iaload, 1) := by decide +kernel
theorem dL_law_462 : decode cL_law 462 = .ok (.invokevirtual 65, 3) := by decide +kernel
theorem dL_law_465 : decode cL_law 465 = .ok (.if_icmp .eq 265, 3) := by decide +kernel
theorem dL_law_468 : decode cL_law 468 = .ok (.iconst 0, 1) := by decide +kernel
theorem dL_law_469 : decode cL_law 469 = .ok (.ireturn, 1) := by decide +kernel
theorem dL_law_470 : decode cL_law 470 = .ok (.aload_n 1, 1) := by decide +kernel
theorem dL_law_471 : decode cL_law 471 = .ok (.aload_n 0, 1) := by decide +kernel
theorem dL_law_472 : decode cL_law 472 = .ok (.iload_n 3, 1) := by decide +kernel
theorem dL_law_473 : decode cL_law 473 = .ok (.iconst 1, 1) := by decide +kernel
theorem dL_law_474 : decode cL_law 474 = .ok (.iadd, 1) := by decide +kernel
theorem dL_law_475 : decode cL_law 475 = .ok (.iaload, 1) := by decide +kernel
theorem dL_law_476 : decode cL_law 476 = .ok (.aload_n 0, 1) := by decide +kernel
theorem dL_law_477 : decode cL_law 477 = .ok (.iload_n 3, 1) := by decide +kernel
theorem dL_law_478 : decode cL_law 478 = .ok (.iconst 2, 1) := by decide +kernel
theorem dL_law_479 : decode cL_law 479 = .ok (.iadd, 1) := by decide +kernel
theorem dL_law_480 : decode cL_law 480 = .ok (.iaload, 1) := by decide +kernel
theorem dL_law_481 : decode cL_law 481 = .ok (.invokevirtual 66, 3) := by decide +kernel
theorem dL_law_484 : decode cL_law 484 = .ok (.aload_n 2, 1) := by decide +kernel
theorem dL_law_485 : decode cL_law 485 = .ok (.aload_n 0, 1) := by decide +kernel
theorem dL_law_486 : decode cL_law 486 = .ok (.iload_n 3, 1) := by decide +kernel
theorem dL_law_487 : decode cL_law 487 = .ok (.iconst 1, 1) := by decide +kernel
theorem dL_law_488 : decode cL_law 488 = .ok (.iadd, 1) := by decide +kernel
theorem dL_law_489 : decode cL_law 489 = .ok (.iaload, 1) := by decide +kernel
theorem dL_law_490 : decode cL_law 490 = .ok (.aload_n 0, 1) := by decide +kernel
theorem dL_law_491 : decode cL_law 491 = .ok (.iload_n 3, 1) := by decide +kernel
theorem dL_law_492 : decode cL_law 492 = .ok (.iconst 2, 1) := by decide +kernel
theorem dL_law_493 : decode cL_law 493 = .ok (.iadd, 1) := by decide +kernel
theorem dL_law_494 : decode cL_law 494 = .ok (.iaload, 1) := by decide +kernel
theorem dL_law_495 : decode cL_law 495 = .ok (.invokevirtual 69, 3) := by decide +kernel
theorem dL_law_498 : decode cL_law 498 = .ok (.if_icmp .eq 232, 3) := by decide +kernel
theorem dL_law_501 : decode cL_law 501 = .ok (.iconst 0, 1) := by decide +kernel
theorem dL_law_502 : decode cL_law 502 = .ok (.ireturn, 1) := by decide +kernel
theorem dL_law_503 : decode cL_law 503 = .ok (.aload_n 1, 1) := by decide +kernel
theorem dL_law_504 : decode cL_law 504 = .ok (.aload_n 0, 1) := by decide +kernel
theorem dL_law_505 : decode cL_law 505 = .ok (.iload_n 3, 1) := by decide +kernel
theorem dL_law_506 : decode cL_law 506 = .ok (.iconst 1, 1) := by decide +kernel
theorem dL_law_507 : decode cL_law 507 = .ok (.iadd, 1) := by decide +kernel
theorem dL_law_508 : decode cL_law 508 = .ok (.iaload, 1) := by decide +kernel
theorem dL_law_509 : decode cL_law 509 = .ok (.invokevirtual 70, 3) := by decide +kernel
theorem dL_law_512 : decode cL_law 512 = .ok (.aload_n 2, 1) := by decide +kernel
theorem dL_law_513 : decode cL_law 513 = .ok (.aload_n 0, 1) := by decide +kernel
theorem dL_law_514 : decode cL_law 514 = .ok (.iload_n 3, 1) := by decide +kernel
theorem dL_law_515 : decode cL_law 515 = .ok (.iconst 1, 1) := by decide +kernel
theorem dL_law_516 : decode cL_law 516 = .ok (.iadd, 1) := by decide +kernel
theorem dL_law_517 : decode cL_law 517 = .ok (.iaload, 1) := by decide +kernel
theorem dL_law_518 : decode cL_law 518 = .ok (.invokevirtual 73, 3) := by decide +kernel
theorem dL_law_521 : decode cL_law 521 = .ok (.if_icmp .eq 209, 3) := by decide +kernel
theorem dL_law_524 : decode cL_law 524 = .ok (.iconst 0, 1) := by decide +kernel
theorem dL_law_525 : decode cL_law 525 = .ok (.ireturn, 1) := by decide +kernel
theorem dL_law_526 : decode cL_law 526 = .ok (.aload_n 1, 1) := by decide +kernel
theorem dL_law_527 : decode cL_law 527 = .ok (.invokevirtual 74, 3) := by decide +kernel
theorem dL_law_530 : decode cL_law 530 = .ok (.aload_n 2, 1) := by decide +kernel
theorem dL_law_531 : decode cL_law 531 = .ok (.invokevirtual 77, 3) := by decide +kernel
theorem dL_law_534 : decode cL_law 534 = .ok (.if_icmp .eq 196, 3) := by decide +kernel
theorem dL_law_537 : decode cL_law 537 = .ok (.iconst 0, 1) := by decide +kernel
theorem dL_law_538 : decode cL_law 538 = .ok (.ireturn, 1) := by decide +kernel
theorem dL_law_539 : decode cL_law 539 = .ok (.aload_n 1, 1) := by decide +kernel
theorem dL_law_540 : decode cL_law 540 = .ok (.invokevirtual 78, 3) := by decide +kernel
theorem dL_law_543 : decode cL_law 543 = .ok (.aload_n 2, 1) := by decide +kernel
theorem dL_law_544 : decode cL_law 544 = .ok (.invokevirtual 81, 3) := by decide +kernel
theorem dL_law_547 : decode cL_law 547 = .ok (.if_icmp .eq 183, 3) := by decide +kernel
theorem dL_law_550 : decode cL_law 550 = .ok (.iconst 0, 1) := by decide +kernel
theorem dL_law_551 : decode cL_law 551 = .ok (.ireturn, 1) := by decide +kernel
theorem dL_law_552 : decode cL_law 552 = .ok (.aload_n 1, 1) := by decide +kernel
theorem dL_law_553 : decode cL_law 553 = .ok (.aload_n 0, 1) := by decide +kernel
theorem dL_law_554 : decode cL_law 554 = .ok (.iload_n 3, 1) := by decide +kernel
theorem dL_law_555 : decode cL_law 555 = .ok (.iconst 1, 1) := by decide +kernel
theorem dL_law_556 : decode cL_law 556 = .ok (.iadd, 1) := by decide +kernel
theorem dL_law_557 : decode cL_law 557 = .ok (.iaload, 1) := by decide +kernel
theorem dL_law_558 : decode cL_law 558 = .ok (.invokevirtual 82, 3) := by decide +kernel
theorem dL_law_561 : decode cL_law 561 = .ok (.aload_n 2, 1) := by decide +kernel
theorem dL_law_562 : decode cL_law 562 = .ok (.aload_n 0, 1) := by decide +kernel
theorem dL_law_563 : decode cL_law 563 = .ok (.iload_n 3, 1) := by decide +kernel
theorem dL_law_564 : decode cL_law 564 = .ok (.iconst 1, 1) := by decide +kernel
theorem dL_law_565 : decode cL_law 565 = .ok (.iadd, 1) := by decide +kernel
theorem dL_law_566 : decode cL_law 566 = .ok (.iaload, 1) := by decide +kernel
theorem dL_law_567 : decode cL_law 567 = .ok (.invokevirtual 85, 3) := by decide +kernel
theorem dL_law_570 : decode cL_law 570 = .ok (.if_icmp .eq 160, 3) := by decide +kernel
theorem dL_law_573 : decode cL_law 573 = .ok (.iconst 0, 1) := by decide +kernel
theorem dL_law_574 : decode cL_law 574 = .ok (.ireturn, 1) := by decide +kernel
theorem dL_law_575 : decode cL_law 575 = .ok (.aload_n 1, 1) := by decide +kernel
theorem dL_law_576 : decode cL_law 576 = .ok (.invokevirtual 86, 3) := by decide +kernel
theorem dL_law_579 : decode cL_law 579 = .ok (.aload_n 2, 1) := by decide +kernel
theorem dL_law_580 : decode cL_law 580 = .ok (.invokevirtual 89, 3) := by decide +kernel
theorem dL_law_583 : decode cL_law 583 = .ok (.if_icmp .eq 147, 3) := by decide +kernel
theorem dL_law_586 : decode cL_law 586 = .ok (.iconst 0, 1) := by decide +kernel
theorem dL_law_587 : decode cL_law 587 = .ok (.ireturn, 1) := by decide +kernel
theorem dL_law_588 : decode cL_law 588 = .ok (.aload_n 1, 1) := by decide +kernel
theorem dL_law_589 : decode cL_law 589 = .ok (.invokevirtual 90, 3) := by decide +kernel
theorem dL_law_592 : decode cL_law 592 = .ok (.aload_n 2, 1) := by decide +kernel
theorem dL_law_593 : decode cL_law 593 = .ok (.invokevirtual 93, 3) := by decide +kernel
theorem dL_law_596 : decode cL_law 596 = .ok (.if_icmp .eq 134, 3) := by decide +kernel
theorem dL_law_599 : decode cL_law 599 = .ok (.iconst 0, 1) := by decide +kernel
theorem dL_law_600 : decode cL_law 600 = .ok (.ireturn, 1) := by decide +kernel
theorem dL_law_601 : decode cL_law 601 = .ok (.aload_n 1, 1) := by decide +kernel
theorem dL_law_602 : decode cL_law 602 = .ok (.aload_n 0, 1) := by decide +kernel
theorem dL_law_603 : decode cL_law 603 = .ok (.iload_n 3, 1) := by decide +kernel
theorem dL_law_604 : decode cL_law 604 = .ok (.iconst 1, 1) := by decide +kernel
theorem dL_law_605 : decode cL_law 605 = .ok (.iadd, 1) := by decide +kernel
theorem dL_law_606 : decode cL_law 606 = .ok (.iaload, 1) := by decide +kernel
theorem dL_law_607 : decode cL_law 607 = .ok (.invokevirtual 94, 3) := by decide +kernel
theorem dL_law_610 : decode cL_law 610 = .ok (.aload_n 2, 1) := by decide +kernel
theorem dL_law_611 : decode cL_law 611 = .ok (.aload_n 0, 1) := by decide +kernel
theorem dL_law_612 : decode cL_law 612 = .ok (.iload_n 3, 1) := by decide +kernel
theorem dL_law_613 : decode cL_law 613 = .ok (.iconst 1, 1) := by decide +kernel
theorem dL_law_614 : decode cL_law 614 = .ok (.iadd, 1) := by decide +kernel
theorem dL_law_615 : decode cL_law 615 = .ok (.iaload, 1) := by decide +kernel
theorem dL_law_616 : decode cL_law 616 = .ok (.invokevirtual 97, 3) := by decide +kernel
theorem dL_law_619 : decode cL_law 619 = .ok (.if_icmp .eq 111, 3) := by decide +kernel
theorem dL_law_622 : decode cL_law 622 = .ok (.iconst 0, 1) := by decide +kernel
theorem dL_law_623 : decode cL_law 623 = .ok (.ireturn, 1) := by decide +kernel
theorem dL_law_624 : decode cL_law 624 = .ok (.aload_n 1, 1) := by decide +kernel
theorem dL_law_625 : decode cL_law 625 = .ok (.aload_n 0, 1) := by decide +kernel
theorem dL_law_626 : decode cL_law 626 = .ok (.iload_n 3, 1) := by decide +kernel
theorem dL_law_627 : decode cL_law 627 = .ok (.iconst 1, 1) := by decide +kernel
theorem dL_law_628 : decode cL_law 628 = .ok (.iadd, 1) := by decide +kernel
theorem dL_law_629 : decode cL_law 629 = .ok (.iaload, 1) := by decide +kernel
theorem dL_law_630 : decode cL_law 630 = .ok (.aload_n 0, 1) := by decide +kernel
theorem dL_law_631 : decode cL_law 631 = .ok (.iload_n 3, 1) := by decide +kernel
theorem dL_law_632 : decode cL_law 632 = .ok (.iconst 2, 1) := by decide +kernel
theorem dL_law_633 : decode cL_law 633 = .ok (.iadd, 1) := by decide +kernel
theorem dL_law_634 : decode cL_law 634 = .ok (.iaload, 1) := by decide +kernel
theorem dL_law_635 : decode cL_law 635 = .ok (.aload_n 0, 1) := by decide +kernel
theorem dL_law_636 : decode cL_law 636 = .ok (.iload_n 3, 1) := by decide +kernel
theorem dL_law_637 : decode cL_law 637 = .ok (.iconst 3, 1) := by decide +kernel
theorem dL_law_638 : decode cL_law 638 = .ok (.iadd, 1) := by decide +kernel
theorem dL_law_639 : decode cL_law 639 = .ok (.iaload, 1) := by decide +kernel
theorem dL_law_640 : decode cL_law 640 = .ok (.invokevirtual 98, 3) := by decide +kernel
theorem dL_law_643 : decode cL_law 643 = .ok (.aload_n 2, 1) := by decide +kernel
theorem dL_law_644 : decode cL_law 644 = .ok (.aload_n 0, 1) := by decide +kernel
theorem dL_law_645 : decode cL_law 645 = .ok (.iload_n 3, 1) := by decide +kernel
theorem dL_law_646 : decode cL_law 646 = .ok (.iconst 1, 1) := by decide +kernel
theorem dL_law_647 : decode cL_law 647 = .ok (.iadd, 1) := by decide +kernel
theorem dL_law_648 : decode cL_law 648 = .ok (.iaload, 1) := by decide +kernel
theorem dL_law_649 : decode cL_law 649 = .ok (.aload_n 0, 1) := by decide +kernel
theorem dL_law_650 : decode cL_law 650 = .ok (.iload_n 3, 1) := by decide +kernel
theorem dL_law_651 : decode cL_law 651 = .ok (.iconst 2, 1) := by decide +kernel
theorem dL_law_652 : decode cL_law 652 = .ok (.iadd, 1) := by decide +kernel
theorem dL_law_653 : decode cL_law 653 = .ok (.iaload, 1) := by decide +kernel
theorem dL_law_654 : decode cL_law 654 = .ok (.aload_n 0, 1) := by decide +kernel
theorem dL_law_655 : decode cL_law 655 = .ok (.iload_n 3, 1) := by decide +kernel
theorem dL_law_656 : decode cL_law 656 = .ok (.iconst 3, 1) := by decide +kernel
theorem dL_law_657 : decode cL_law 657 = .ok (.iadd, 1) := by decide +kernel
theorem dL_law_658 : decode cL_law 658 = .ok (.iaload, 1) := by decide +kernel
theorem dL_law_659 : decode cL_law 659 = .ok (.invokevirtual 101, 3) := by decide +kernel
theorem dL_law_662 : decode cL_law 662 = .ok (.if_icmp .eq 68, 3) := by decide +kernel
theorem dL_law_665 : decode cL_law 665 = .ok (.iconst 0, 1) := by decide +kernel
theorem dL_law_666 : decode cL_law 666 = .ok (.ireturn, 1) := by decide +kernel
theorem dL_law_667 : decode cL_law 667 = .ok (.aload_n 1, 1) := by decide +kernel
theorem dL_law_668 : decode cL_law 668 = .ok (.invokevirtual 102, 3) := by decide +kernel
theorem dL_law_671 : decode cL_law 671 = .ok (.aload_n 2, 1) := by decide +kernel
theorem dL_law_672 : decode cL_law 672 = .ok (.invokevirtual 105, 3) := by decide +kernel
theorem dL_law_675 : decode cL_law 675 = .ok (.if_icmp .eq 55, 3) := by decide +kernel
theorem dL_law_678 : decode cL_law 678 = .ok (.iconst 0, 1) := by decide +kernel
theorem dL_law_679 : decode cL_law 679 = .ok (.ireturn, 1) := by decide +kernel
theorem dL_law_680 : decode cL_law 680 = .ok (.aload_n 1, 1) := by decide +kernel
theorem dL_law_681 : decode cL_law 681 = .ok (.invokevirtual 106, 3) := by decide +kernel
theorem dL_law_684 : decode cL_law 684 = .ok (.aload_n 2, 1) := by decide +kernel
theorem dL_law_685 : decode cL_law 685 = .ok (.invokevirtual 109, 3) := by decide +kernel
theorem dL_law_688 : decode cL_law 688 = .ok (.if_icmp .eq 42, 3) := by decide +kernel
theorem dL_law_691 : decode cL_law 691 = .ok (.iconst 0, 1) := by decide +kernel
theorem dL_law_692 : decode cL_law 692 = .ok (.ireturn, 1) := by decide +kernel
theorem dL_law_693 : decode cL_law 693 = .ok (.aload_n 1, 1) := by decide +kernel
theorem dL_law_694 : decode cL_law 694 = .ok (.aload_n 0, 1) := by decide +kernel
theorem dL_law_695 : decode cL_law 695 = .ok (.iload_n 3, 1) := by decide +kernel
theorem dL_law_696 : decode cL_law 696 = .ok (.iconst 1, 1) := by decide +kernel
theorem dL_law_697 : decode cL_law 697 = .ok (.iadd, 1) := by decide +kernel
theorem dL_law_698 : decode cL_law 698 = .ok (.iaload, 1) := by decide +kernel
theorem dL_law_699 : decode cL_law 699 = .ok (.invokevirtual 110, 3) := by decide +kernel
theorem dL_law_702 : decode cL_law 702 = .ok (.aload_n 2, 1) := by decide +kernel
theorem dL_law_703 : decode cL_law 703 = .ok (.aload_n 0, 1) := by decide +kernel
theorem dL_law_704 : decode cL_law 704 = .ok (.iload_n 3, 1) := by decide +kernel
theorem dL_law_705 : decode cL_law 705 = .ok (.iconst 1, 1) := by decide +kernel
theorem dL_law_706 : decode cL_law 706 = .ok (.iadd, 1) := by decide +kernel
theorem dL_law_707 : decode cL_law 707 = .ok (.iaload, 1) := by decide +kernel
theorem dL_law_708 : decode cL_law 708 = .ok (.invokevirtual 113, 3) := by decide +kernel
theorem dL_law_711 : decode cL_law 711 = .ok (.if_icmp .eq 19, 3) := by decide +kernel
theorem dL_law_714 : decode cL_law 714 = .ok (.iconst 0, 1) := by decide +kernel
theorem dL_law_715 : decode cL_law 715 = .ok (.ireturn, 1) := by decide +kernel
theorem dL_law_716 : decode cL_law 716 = .ok (.aload_n 1, 1) := by decide +kernel
theorem dL_law_717 : decode cL_law 717 = .ok (.invokevirtual 114, 3) := by decide +kernel
theorem dL_law_720 : decode cL_law 720 = .ok (.aload_n 2, 1) := by decide +kernel
theorem dL_law_721 : decode cL_law 721 = .ok (.invokevirtual 118, 3) := by decide +kernel
theorem dL_law_724 : decode cL_law 724 = .ok (.lcmp, 1) := by decide +kernel
theorem dL_law_725 : decode cL_law 725 = .ok (.ifCond .eq 5, 3) := by decide +kernel
theorem dL_law_728 : decode cL_law 728 = .ok (.iconst 0, 1) := by decide +kernel
theorem dL_law_729 : decode cL_law 729 = .ok (.ireturn, 1) := by decide +kernel
theorem dL_law_730 : decode cL_law 730 = .ok (.iinc 3 4, 3) := by decide +kernel
theorem dL_law_733 : decode cL_law 733 = .ok (.goto (-715), 3) := by decide +kernel
theorem dL_law_736 : decode cL_law 736 = .ok (.iconst 1, 1) := by decide +kernel
theorem dL_law_737 : decode cL_law 737 = .ok (.ireturn, 1) := by decide +kernel
