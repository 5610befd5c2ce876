/-! what each instruction is (rows that TURN printed) -/
theorem dX0_init_0 : decode cX0_init 0 = .ok (.aload_n 0, 1) := by decide +kernel
theorem dX0_init_1 : decode cX0_init 1 = .ok (.invokespecial 3, 3) := by decide +kernel
theorem dX0_init_4 : decode cX0_init 4 = .ok (.aload_n 0, 1) := by decide +kernel
theorem dX0_init_5 : decode cX0_init 5 = .ok (.bipush 50, 2) := by decide +kernel
theorem dX0_init_7 : decode cX0_init 7 = .ok (.newarray .int, 2) := by decide +kernel
theorem dX0_init_9 : decode cX0_init 9 = .ok (.putfield 11, 3) := by decide +kernel
theorem dX0_init_12 : decode cX0_init 12 = .ok (.aload_n 0, 1) := by decide +kernel
theorem dX0_init_13 : decode cX0_init 13 = .ok (.iconst 0, 1) := by decide +kernel
theorem dX0_init_14 : decode cX0_init 14 = .ok (.putfield 15, 3) := by decide +kernel
theorem dX0_init_17 : decode cX0_init 17 = .ok (.aload_n 0, 1) := by decide +kernel
theorem dX0_init_18 : decode cX0_init 18 = .ok (.bipush 24, 2) := by decide +kernel
theorem dX0_init_20 : decode cX0_init 20 = .ok (.newarray .int, 2) := by decide +kernel
theorem dX0_init_22 : decode cX0_init 22 = .ok (.putfield 19, 3) := by decide +kernel
theorem dX0_init_25 : decode cX0_init 25 = .ok (.aload_n 0, 1) := by decide +kernel
theorem dX0_init_26 : decode cX0_init 26 = .ok (.iconst 0, 1) := by decide +kernel
theorem dX0_init_27 : decode cX0_init 27 = .ok (.putfield 22, 3) := by decide +kernel
theorem dX0_init_30 : decode cX0_init 30 = .ok (.aload_n 0, 1) := by decide +kernel
theorem dX0_init_31 : decode cX0_init 31 = .ok (.iconst 0, 1) := by decide +kernel
theorem dX0_init_32 : decode cX0_init 32 = .ok (.putfield 25, 3) := by decide +kernel
theorem dX0_init_35 : decode cX0_init 35 = .ok (.return_, 1) := by decide +kernel
theorem dX0_hasBody_0 : decode cX0_hasBody 0 = .ok (.iload_n 1, 1) := by decide +kernel
theorem dX0_hasBody_1 : decode cX0_hasBody 1 = .ok (.ifCond .lt 15, 3) := by decide +kernel
theorem dX0_hasBody_4 : decode cX0_hasBody 4 = .ok (.iload_n 1, 1) := by decide +kernel
theorem dX0_hasBody_5 : decode cX0_hasBody 5 = .ok (.aload_n 0, 1) := by decide +kernel
theorem dX0_hasBody_6 : decode cX0_hasBody 6 = .ok (.getfield 15, 3) := by decide +kernel
theorem dX0_hasBody_9 : decode cX0_hasBody 9 = .ok (.if_icmp .ge 7, 3) := by decide +kernel
theorem dX0_hasBody_12 : decode cX0_hasBody 12 = .ok (.iconst 1, 1) := by decide +kernel
theorem dX0_hasBody_13 : decode cX0_hasBody 13 = .ok (.goto 4, 3) := by decide +kernel
theorem dX0_hasBody_16 : decode cX0_hasBody 16 = .ok (.iconst 0, 1) := by decide +kernel
theorem dX0_hasBody_17 : decode cX0_hasBody 17 = .ok (.ireturn, 1) := by decide +kernel
theorem dX0_addBody_0 : decode cX0_addBody 0 = .ok (.aload_n 0, 1) := by decide +kernel
theorem dX0_addBody_1 : decode cX0_addBody 1 = .ok (.getfield 15, 3) := by decide +kernel
theorem dX0_addBody_4 : decode cX0_addBody 4 = .ok (.bipush 50, 2) := by decide +kernel
theorem dX0_addBody_6 : decode cX0_addBody 6 = .ok (.if_icmp .lt 6, 3) := by decide +kernel
theorem dX0_addBody_9 : decode cX0_addBody 9 = .ok (.bipush (-3), 2) := by decide +kernel
theorem dX0_addBody_11 : decode cX0_addBody 11 = .ok (.ireturn, 1) := by decide +kernel
theorem dX0_addBody_12 : decode cX0_addBody 12 = .ok (.aload_n 0, 1) := by decide +kernel
theorem dX0_addBody_13 : decode cX0_addBody 13 = .ok (.getfield 11, 3) := by decide +kernel
theorem dX0_addBody_16 : decode cX0_addBody 16 = .ok (.aload_n 0, 1) := by decide +kernel
theorem dX0_addBody_17 : decode cX0_addBody 17 = .ok (.getfield 15, 3) := by decide +kernel
theorem dX0_addBody_20 : decode cX0_addBody 20 = .ok (.iload_n 1, 1) := by decide +kernel
theorem dX0_addBody_21 : decode cX0_addBody 21 = .ok (.iastore, 1) := by decide +kernel
theorem dX0_addBody_22 : decode cX0_addBody 22 = .ok (.aload_n 0, 1) := by decide +kernel
theorem dX0_addBody_23 : decode cX0_addBody 23 = .ok (.dup, 1) := by decide +kernel
theorem dX0_addBody_24 : decode cX0_addBody 24 = .ok (.getfield 15, 3) := by decide +kernel
theorem dX0_addBody_27 : decode cX0_addBody 27 = .ok (.iconst 1, 1) := by decide +kernel
theorem dX0_addBody_28 : decode cX0_addBody 28 = .ok (.iadd, 1) := by decide +kernel
theorem dX0_addBody_29 : decode cX0_addBody 29 = .ok (.putfield 15, 3) := by decide +kernel
theorem dX0_addBody_32 : decode cX0_addBody 32 = .ok (.aload_n 0, 1) := by decide +kernel
theorem dX0_addBody_33 : decode cX0_addBody 33 = .ok (.getfield 15, 3) := by decide +kernel
theorem dX0_addBody_36 : decode cX0_addBody 36 = .ok (.iconst 1, 1) := by decide +kernel
theorem dX0_addBody_37 : decode cX0_addBody 37 = .ok (.isub, 1) := by decide +kernel
theorem dX0_addBody_38 : decode cX0_addBody 38 = .ok (.ireturn, 1) := by decide +kernel
theorem dX0_kindOf_0 : decode cX0_kindOf 0 = .ok (.aload_n 0, 1) := by decide +kernel
theorem dX0_kindOf_1 : decode cX0_kindOf 1 = .ok (.iload_n 1, 1) := by decide +kernel
theorem dX0_kindOf_2 : decode cX0_kindOf 2 = .ok (.invokevirtual 28, 3) := by decide +kernel
theorem dX0_kindOf_5 : decode cX0_kindOf 5 = .ok (.ifCond .eq 12, 3) := by decide +kernel
theorem dX0_kindOf_8 : decode cX0_kindOf 8 = .ok (.aload_n 0, 1) := by decide +kernel
theorem dX0_kindOf_9 : decode cX0_kindOf 9 = .ok (.getfield 11, 3) := by decide +kernel
theorem dX0_kindOf_12 : decode cX0_kindOf 12 = .ok (.iload_n 1, 1) := by decide +kernel
theorem dX0_kindOf_13 : decode cX0_kindOf 13 = .ok (.iaload, 1) := by decide +kernel
theorem dX0_kindOf_14 : decode cX0_kindOf 14 = .ok (.goto 4, 3) := by decide +kernel
theorem dX0_kindOf_17 : decode cX0_kindOf 17 = .ok (.iconst (-1), 1) := by decide +kernel
theorem dX0_kindOf_18 : decode cX0_kindOf 18 = .ok (.ireturn, 1) := by decide +kernel
theorem dX0_isUnder_0 : decode cX0_isUnder 0 = .ok (.iload_n 0, 1) := by decide +kernel
theorem dX0_isUnder_1 : decode cX0_isUnder 1 = .ok (.istore_n 2, 1) := by decide +kernel
theorem dX0_isUnder_2 : decode cX0_isUnder 2 = .ok (.iload_n 2, 1) := by decide +kernel
theorem dX0_isUnder_3 : decode cX0_isUnder 3 = .ok (.iload_n 1, 1) := by decide +kernel
theorem dX0_isUnder_4 : decode cX0_isUnder 4 = .ok (.if_icmp .le 18, 3) := by decide +kernel
theorem dX0_isUnder_7 : decode cX0_isUnder 7 = .ok (.iload_n 2, 1) := by decide +kernel
theorem dX0_isUnder_8 : decode cX0_isUnder 8 = .ok (.bipush 8, 2) := by decide +kernel
theorem dX0_isUnder_10 : decode cX0_isUnder 10 = .ok (.if_icmp .ge 12, 3) := by decide +kernel
theorem dX0_isUnder_13 : decode cX0_isUnder 13 = .ok (.getstatic 32, 3) := by decide +kernel
theorem dX0_isUnder_16 : decode cX0_isUnder 16 = .ok (.iload_n 2, 1) := by decide +kernel
theorem dX0_isUnder_17 : decode cX0_isUnder 17 = .ok (.iaload, 1) := by decide +kernel
theorem dX0_isUnder_18 : decode cX0_isUnder 18 = .ok (.istore_n 2, 1) := by decide +kernel
theorem dX0_isUnder_19 : decode cX0_isUnder 19 = .ok (.goto (-17), 3) := by decide +kernel
theorem dX0_isUnder_22 : decode cX0_isUnder 22 = .ok (.iload_n 2, 1) := by decide +kernel
theorem dX0_isUnder_23 : decode cX0_isUnder 23 = .ok (.iload_n 1, 1) := by decide +kernel
theorem dX0_isUnder_24 : decode cX0_isUnder 24 = .ok (.if_icmp .ne 7, 3) := by decide +kernel
theorem dX0_isUnder_27 : decode cX0_isUnder 27 = .ok (.iconst 1, 1) := by decide +kernel
theorem dX0_isUnder_28 : decode cX0_isUnder 28 = .ok (.goto 4, 3) := by decide +kernel
theorem dX0_isUnder_31 : decode cX0_isUnder 31 = .ok (.iconst 0, 1) := by decide +kernel
theorem dX0_isUnder_32 : decode cX0_isUnder 32 = .ok (.ireturn, 1) := by decide +kernel
theorem dX0_traced_0 : decode cX0_traced 0 = .ok (.aload_n 0, 1) := by decide +kernel
theorem dX0_traced_1 : decode cX0_traced 1 = .ok (.getfield 22, 3) := by decide +kernel
theorem dX0_traced_4 : decode cX0_traced 4 = .ok (.bipush 24, 2) := by decide +kernel
theorem dX0_traced_6 : decode cX0_traced 6 = .ok (.invokestatic 35, 3) := by decide +kernel
theorem dX0_traced_9 : decode cX0_traced 9 = .ok (.ireturn, 1) := by decide +kernel
theorem dX0_perform_0 : decode cX0_perform 0 = .ok (.aload_n 0, 1) := by decide +kernel
theorem dX0_perform_1 : decode cX0_perform 1 = .ok (.iconst 0, 1) := by decide +kernel
theorem dX0_perform_2 : decode cX0_perform 2 = .ok (.putfield 22, 3) := by decide +kernel
theorem dX0_perform_5 : decode cX0_perform 5 = .ok (.aload_n 0, 1) := by decide +kernel
theorem dX0_perform_6 : decode cX0_perform 6 = .ok (.iload_n 1, 1) := by decide +kernel
theorem dX0_perform_7 : decode cX0_perform 7 = .ok (.invokevirtual 28, 3) := by decide +kernel
theorem dX0_perform_10 : decode cX0_perform 10 = .ok (.ifCond .eq 12, 3) := by decide +kernel
theorem dX0_perform_13 : decode cX0_perform 13 = .ok (.iload_n 2, 1) := by decide +kernel
theorem dX0_perform_14 : decode cX0_perform 14 = .ok (.ifCond .lt 8, 3) := by decide +kernel
theorem dX0_perform_17 : decode cX0_perform 17 = .ok (.iload_n 2, 1) := by decide +kernel
theorem dX0_perform_18 : decode cX0_perform 18 = .ok (.iconst 3, 1) := by decide +kernel
theorem dX0_perform_19 : decode cX0_perform 19 = .ok (.if_icmp .le 5, 3) := by decide +kernel
theorem dX0_perform_22 : decode cX0_perform 22 = .ok (.iconst 0, 1) := by decide +kernel
theorem dX0_perform_23 : decode cX0_perform 23 = .ok (.ireturn, 1) := by decide +kernel
theorem dX0_perform_24 : decode cX0_perform 24 = .ok (.aload_n 0, 1) := by decide +kernel
theorem dX0_perform_25 : decode cX0_perform 25 = .ok (.iload_n 1, 1) := by decide +kernel
theorem dX0_perform_26 : decode cX0_perform 26 = .ok (.putfield 25, 3) := by decide +kernel
theorem dX0_perform_29 : decode cX0_perform 29 = .ok (.aload_n 0, 1) := by decide +kernel
theorem dX0_perform_30 : decode cX0_perform 30 = .ok (.iload_n 2, 1) := by decide +kernel
theorem dX0_perform_31 : decode cX0_perform 31 = .ok (.iload_n 3, 1) := by decide +kernel
theorem dX0_perform_32 : decode cX0_perform 32 = .ok (.iconst 0, 1) := by decide +kernel
theorem dX0_perform_33 : decode cX0_perform 33 = .ok (.invokevirtual 41, 3) := by decide +kernel
theorem dX0_perform_36 : decode cX0_perform 36 = .ok (.ireturn, 1) := by decide +kernel
theorem dX0_own_0 : decode cX0_own 0 = .ok (.aload_n 0, 1) := by decide +kernel
theorem dX0_own_1 : decode cX0_own 1 = .ok (.aload_n 0, 1) := by decide +kernel
theorem dX0_own_2 : decode cX0_own 2 = .ok (.getfield 11, 3) := by decide +kernel
theorem dX0_own_5 : decode cX0_own 5 = .ok (.aload_n 0, 1) := by decide +kernel
theorem dX0_own_6 : decode cX0_own 6 = .ok (.getfield 25, 3) := by decide +kernel
theorem dX0_own_9 : decode cX0_own 9 = .ok (.iaload, 1) := by decide +kernel
theorem dX0_own_10 : decode cX0_own 10 = .ok (.iload_n 1, 1) := by decide +kernel
theorem dX0_own_11 : decode cX0_own 11 = .ok (.iload_n 2, 1) := by decide +kernel
theorem dX0_own_12 : decode cX0_own 12 = .ok (.iload_n 3, 1) := by decide +kernel
theorem dX0_own_13 : decode cX0_own 13 = .ok (.invokevirtual 45, 3) := by decide +kernel
theorem dX0_own_16 : decode cX0_own 16 = .ok (.ireturn, 1) := by decide +kernel
theorem dX0_run_0 : decode cX0_run 0 = .ok (.iload_n 1, 1) := by decide +kernel
theorem dX0_run_1 : decode cX0_run 1 = .ok (.istore 5, 2) := by decide +kernel
theorem dX0_run_3 : decode cX0_run 3 = .ok (.iload 5, 2) := by decide +kernel
theorem dX0_run_5 : decode cX0_run 5 = .ok (.ifCond .le 27, 3) := by decide +kernel
theorem dX0_run_8 : decode cX0_run 8 = .ok (.getstatic 49, 3) := by decide +kernel
theorem dX0_run_11 : decode cX0_run 11 = .ok (.iconst 4, 1) := by decide +kernel
theorem dX0_run_12 : decode cX0_run 12 = .ok (.iload 5, 2) := by decide +kernel
theorem dX0_run_14 : decode cX0_run 14 = .ok (.imul, 1) := by decide +kernel
theorem dX0_run_15 : decode cX0_run 15 = .ok (.iload_n 2, 1) := by decide +kernel
theorem dX0_run_16 : decode cX0_run 16 = .ok (.iadd, 1) := by decide +kernel
theorem dX0_run_17 : decode cX0_run 17 = .ok (.iaload, 1) := by decide +kernel
theorem dX0_run_18 : decode cX0_run 18 = .ok (.ifCond .ne 14, 3) := by decide +kernel
theorem dX0_run_21 : decode cX0_run 21 = .ok (.getstatic 32, 3) := by decide +kernel
theorem dX0_run_24 : decode cX0_run 24 = .ok (.iload 5, 2) := by decide +kernel
theorem dX0_run_26 : decode cX0_run 26 = .ok (.iaload, 1) := by decide +kernel
theorem dX0_run_27 : decode cX0_run 27 = .ok (.istore 5, 2) := by decide +kernel
theorem dX0_run_29 : decode cX0_run 29 = .ok (.goto (-26), 3) := by decide +kernel
theorem dX0_run_32 : decode cX0_run 32 = .ok (.iload 5, 2) := by decide +kernel
theorem dX0_run_34 : decode cX0_run 34 = .ok (.ifCond .lt 10, 3) := by decide +kernel
theorem dX0_run_37 : decode cX0_run 37 = .ok (.iload 4, 2) := by decide +kernel
theorem dX0_run_39 : decode cX0_run 39 = .ok (.bipush 40, 2) := by decide +kernel
theorem dX0_run_41 : decode cX0_run 41 = .ok (.if_icmp .lt 5, 3) := by decide +kernel
theorem dX0_run_44 : decode cX0_run 44 = .ok (.iconst 0, 1) := by decide +kernel
theorem dX0_run_45 : decode cX0_run 45 = .ok (.ireturn, 1) := by decide +kernel
theorem dX0_run_46 : decode cX0_run 46 = .ok (.getstatic 49, 3) := by decide +kernel
theorem dX0_run_49 : decode cX0_run 49 = .ok (.iconst 4, 1) := by decide +kernel
theorem dX0_run_50 : decode cX0_run 50 = .ok (.iload 5, 2) := by decide +kernel
theorem dX0_run_52 : decode cX0_run 52 = .ok (.imul, 1) := by decide +kernel
theorem dX0_run_53 : decode cX0_run 53 = .ok (.iload_n 2, 1) := by decide +kernel
theorem dX0_run_54 : decode cX0_run 54 = .ok (.iadd, 1) := by decide +kernel
theorem dX0_run_55 : decode cX0_run 55 = .ok (.iaload, 1) := by decide +kernel
theorem dX0_run_56 : decode cX0_run 56 = .ok (.istore 6, 2) := by decide +kernel
theorem dX0_run_58 : decode cX0_run 58 = .ok (.aload_n 0, 1) := by decide +kernel
theorem dX0_run_59 : decode cX0_run 59 = .ok (.iload 6, 2) := by decide +kernel
theorem dX0_run_61 : decode cX0_run 61 = .ok (.invokevirtual 52, 3) := by decide +kernel
theorem dX0_run_64 : decode cX0_run 64 = .ok (.iload 6, 2) := by decide +kernel
theorem dX0_run_66 : decode cX0_run 66 = .ok (.bipush 40, 2) := by decide +kernel
theorem dX0_run_68 : decode cX0_run 68 = .ok (.if_icmp .ge 17, 3) := by decide +kernel
theorem dX0_run_71 : decode cX0_run 71 = .ok (.aload_n 0, 1) := by decide +kernel
theorem dX0_run_72 : decode cX0_run 72 = .ok (.iload 6, 2) := by decide +kernel
theorem dX0_run_74 : decode cX0_run 74 = .ok (.iload_n 3, 1) := by decide +kernel
theorem dX0_run_75 : decode cX0_run 75 = .ok (.iload 4, 2) := by decide +kernel
theorem dX0_run_77 : decode cX0_run 77 = .ok (.iconst 1, 1) := by decide +kernel
theorem dX0_run_78 : decode cX0_run 78 = .ok (.iadd, 1) := by decide +kernel
theorem dX0_run_79 : decode cX0_run 79 = .ok (.invokevirtual 56, 3) := by decide +kernel
theorem dX0_run_82 : decode cX0_run 82 = .ok (.goto 14, 3) := by decide +kernel
theorem dX0_run_85 : decode cX0_run 85 = .ok (.aload_n 0, 1) := by decide +kernel
theorem dX0_run_86 : decode cX0_run 86 = .ok (.iload 6, 2) := by decide +kernel
theorem dX0_run_88 : decode cX0_run 88 = .ok (.iload_n 3, 1) := by decide +kernel
theorem dX0_run_89 : decode cX0_run 89 = .ok (.iload 4, 2) := by decide +kernel
theorem dX0_run_91 : decode cX0_run 91 = .ok (.iconst 1, 1) := by decide +kernel
theorem dX0_run_92 : decode cX0_run 92 = .ok (.iadd, 1) := by decide +kernel
theorem dX0_run_93 : decode cX0_run 93 = .ok (.invokevirtual 59, 3) := by decide +kernel
theorem dX0_run_96 : decode cX0_run 96 = .ok (.ireturn, 1) := by decide +kernel
theorem dX0_note_0 : decode cX0_note 0 = .ok (.aload_n 0, 1) := by decide +kernel
theorem dX0_note_1 : decode cX0_note 1 = .ok (.getfield 22, 3) := by decide +kernel
theorem dX0_note_4 : decode cX0_note 4 = .ok (.bipush 24, 2) := by decide +kernel
theorem dX0_note_6 : decode cX0_note 6 = .ok (.if_icmp .ge 13, 3) := by decide +kernel
theorem dX0_note_9 : decode cX0_note 9 = .ok (.aload_n 0, 1) := by decide +kernel
theorem dX0_note_10 : decode cX0_note 10 = .ok (.getfield 19, 3) := by decide +kernel
theorem dX0_note_13 : decode cX0_note 13 = .ok (.aload_n 0, 1) := by decide +kernel
theorem dX0_note_14 : decode cX0_note 14 = .ok (.getfield 22, 3) := by decide +kernel
theorem dX0_note_17 : decode cX0_note 17 = .ok (.iload_n 1, 1) := by decide +kernel
theorem dX0_note_18 : decode cX0_note 18 = .ok (.iastore, 1) := by decide +kernel
theorem dX0_note_19 : decode cX0_note 19 = .ok (.aload_n 0, 1) := by decide +kernel
theorem dX0_note_20 : decode cX0_note 20 = .ok (.dup, 1) := by decide +kernel
theorem dX0_note_21 : decode cX0_note 21 = .ok (.getfield 22, 3) := by decide +kernel
theorem dX0_note_24 : decode cX0_note 24 = .ok (.iconst 1, 1) := by decide +kernel
theorem dX0_note_25 : decode cX0_note 25 = .ok (.iadd, 1) := by decide +kernel
theorem dX0_note_26 : decode cX0_note 26 = .ok (.putfield 22, 3) := by decide +kernel
theorem dX0_note_29 : decode cX0_note 29 = .ok (.return_, 1) := by decide +kernel
theorem dX0_runUpper_0 : decode cX0_runUpper 0 = .ok (.iload_n 1, 1) := by decide +kernel
theorem dX0_runUpper_1 : decode cX0_runUpper 1 = .ok (.lookupswitch 106 #[(1, 51), (2, 58), (10, 74), (11, 84), (20, 91)], 51) := by decide +kernel
theorem dX0_runUpper_52 : decode cX0_runUpper 52 = .ok (.iload_n 2, 1) := by decide +kernel
theorem dX0_runUpper_53 : decode cX0_runUpper 53 = .ok (.aload_n 0, 1) := by decide +kernel
theorem dX0_runUpper_54 : decode cX0_runUpper 54 = .ok (.getfield 25, 3) := by decide +kernel
theorem dX0_runUpper_57 : decode cX0_runUpper 57 = .ok (.iadd, 1) := by decide +kernel
theorem dX0_runUpper_58 : decode cX0_runUpper 58 = .ok (.ireturn, 1) := by decide +kernel
theorem dX0_runUpper_59 : decode cX0_runUpper 59 = .ok (.aload_n 0, 1) := by decide +kernel
theorem dX0_runUpper_60 : decode cX0_runUpper 60 = .ok (.iconst 1, 1) := by decide +kernel
theorem dX0_runUpper_61 : decode cX0_runUpper 61 = .ok (.iload_n 2, 1) := by decide +kernel
theorem dX0_runUpper_62 : decode cX0_runUpper 62 = .ok (.iload_n 3, 1) := by decide +kernel
theorem dX0_runUpper_63 : decode cX0_runUpper 63 = .ok (.invokevirtual 41, 3) := by decide +kernel
theorem dX0_runUpper_66 : decode cX0_runUpper 66 = .ok (.aload_n 0, 1) := by decide +kernel
theorem dX0_runUpper_67 : decode cX0_runUpper 67 = .ok (.iconst 2, 1) := by decide +kernel
theorem dX0_runUpper_68 : decode cX0_runUpper 68 = .ok (.iconst 1, 1) := by decide +kernel
theorem dX0_runUpper_69 : decode cX0_runUpper 69 = .ok (.iload_n 3, 1) := by decide +kernel
theorem dX0_runUpper_70 : decode cX0_runUpper 70 = .ok (.invokevirtual 41, 3) := by decide +kernel
theorem dX0_runUpper_73 : decode cX0_runUpper 73 = .ok (.isub, 1) := by decide +kernel
theorem dX0_runUpper_74 : decode cX0_runUpper 74 = .ok (.ireturn, 1) := by decide +kernel
theorem dX0_runUpper_75 : decode cX0_runUpper 75 = .ok (.aload_n 0, 1) := by decide +kernel
theorem dX0_runUpper_76 : decode cX0_runUpper 76 = .ok (.iconst 0, 1) := by decide +kernel
theorem dX0_runUpper_77 : decode cX0_runUpper 77 = .ok (.iload_n 2, 1) := by decide +kernel
theorem dX0_runUpper_78 : decode cX0_runUpper 78 = .ok (.iload_n 3, 1) := by decide +kernel
theorem dX0_runUpper_79 : decode cX0_runUpper 79 = .ok (.invokevirtual 41, 3) := by decide +kernel
theorem dX0_runUpper_82 : decode cX0_runUpper 82 = .ok (.iconst 2, 1) := by decide +kernel
theorem dX0_runUpper_83 : decode cX0_runUpper 83 = .ok (.imul, 1) := by decide +kernel
theorem dX0_runUpper_84 : decode cX0_runUpper 84 = .ok (.ireturn, 1) := by decide +kernel
theorem dX0_runUpper_85 : decode cX0_runUpper 85 = .ok (.iload_n 2, 1) := by decide +kernel
theorem dX0_runUpper_86 : decode cX0_runUpper 86 = .ok (.aload_n 0, 1) := by decide +kernel
theorem dX0_runUpper_87 : decode cX0_runUpper 87 = .ok (.getfield 25, 3) := by decide +kernel
theorem dX0_runUpper_90 : decode cX0_runUpper 90 = .ok (.ixor, 1) := by decide +kernel
theorem dX0_runUpper_91 : decode cX0_runUpper 91 = .ok (.ireturn, 1) := by decide +kernel
theorem dX0_runUpper_92 : decode cX0_runUpper 92 = .ok (.aload_n 0, 1) := by decide +kernel
theorem dX0_runUpper_93 : decode cX0_runUpper 93 = .ok (.getstatic 32, 3) := by decide +kernel
theorem dX0_runUpper_96 : decode cX0_runUpper 96 = .ok (.iconst 1, 1) := by decide +kernel
theorem dX0_runUpper_97 : decode cX0_runUpper 97 = .ok (.iaload, 1) := by decide +kernel
theorem dX0_runUpper_98 : decode cX0_runUpper 98 = .ok (.iconst 0, 1) := by decide +kernel
theorem dX0_runUpper_99 : decode cX0_runUpper 99 = .ok (.iload_n 2, 1) := by decide +kernel
theorem dX0_runUpper_100 : decode cX0_runUpper 100 = .ok (.iload_n 3, 1) := by decide +kernel
theorem dX0_runUpper_101 : decode cX0_runUpper 101 = .ok (.invokevirtual 45, 3) := by decide +kernel
theorem dX0_runUpper_104 : decode cX0_runUpper 104 = .ok (.iconst 3, 1) := by decide +kernel
theorem dX0_runUpper_105 : decode cX0_runUpper 105 = .ok (.iadd, 1) := by decide +kernel
theorem dX0_runUpper_106 : decode cX0_runUpper 106 = .ok (.ireturn, 1) := by decide +kernel
theorem dX0_runUpper_107 : decode cX0_runUpper 107 = .ok (.aload_n 0, 1) := by decide +kernel
theorem dX0_runUpper_108 : decode cX0_runUpper 108 = .ok (.getstatic 32, 3) := by decide +kernel
theorem dX0_runUpper_111 : decode cX0_runUpper 111 = .ok (.iconst 2, 1) := by decide +kernel
theorem dX0_runUpper_112 : decode cX0_runUpper 112 = .ok (.iaload, 1) := by decide +kernel
theorem dX0_runUpper_113 : decode cX0_runUpper 113 = .ok (.iconst 1, 1) := by decide +kernel
theorem dX0_runUpper_114 : decode cX0_runUpper 114 = .ok (.iload_n 2, 1) := by decide +kernel
theorem dX0_runUpper_115 : decode cX0_runUpper 115 = .ok (.iload_n 3, 1) := by decide +kernel
theorem dX0_runUpper_116 : decode cX0_runUpper 116 = .ok (.invokevirtual 45, 3) := by decide +kernel
theorem dX0_runUpper_119 : decode cX0_runUpper 119 = .ok (.ineg, 1) := by decide +kernel
theorem dX0_runUpper_120 : decode cX0_runUpper 120 = .ok (.ireturn, 1) := by decide +kernel
theorem dX0_runLower_0 : decode cX0_runLower 0 = .ok (.iload_n 1, 1) := by decide +kernel
theorem dX0_runLower_1 : decode cX0_runLower 1 = .ok (.lookupswitch 186 #[(40, 67), (41, 82), (50, 97), (60, 112), (61, 133), (70, 148), (80, 164)], 67) := by decide +kernel
theorem dX0_runLower_68 : decode cX0_runLower 68 = .ok (.aload_n 0, 1) := by decide +kernel
theorem dX0_runLower_69 : decode cX0_runLower 69 = .ok (.getstatic 32, 3) := by decide +kernel
theorem dX0_runLower_72 : decode cX0_runLower 72 = .ok (.iconst 3, 1) := by decide +kernel
theorem dX0_runLower_73 : decode cX0_runLower 73 = .ok (.iaload, 1) := by decide +kernel
theorem dX0_runLower_74 : decode cX0_runLower 74 = .ok (.iconst 2, 1) := by decide +kernel
theorem dX0_runLower_75 : decode cX0_runLower 75 = .ok (.iload_n 2, 1) := by decide +kernel
theorem dX0_runLower_76 : decode cX0_runLower 76 = .ok (.iload_n 3, 1) := by decide +kernel
theorem dX0_runLower_77 : decode cX0_runLower 77 = .ok (.invokevirtual 45, 3) := by decide +kernel
theorem dX0_runLower_80 : decode cX0_runLower 80 = .ok (.iconst 3, 1) := by decide +kernel
theorem dX0_runLower_81 : decode cX0_runLower 81 = .ok (.imul, 1) := by decide +kernel
theorem dX0_runLower_82 : decode cX0_runLower 82 = .ok (.ireturn, 1) := by decide +kernel
theorem dX0_runLower_83 : decode cX0_runLower 83 = .ok (.aload_n 0, 1) := by decide +kernel
theorem dX0_runLower_84 : decode cX0_runLower 84 = .ok (.getstatic 32, 3) := by decide +kernel
theorem dX0_runLower_87 : decode cX0_runLower 87 = .ok (.iconst 3, 1) := by decide +kernel
theorem dX0_runLower_88 : decode cX0_runLower 88 = .ok (.iaload, 1) := by decide +kernel
theorem dX0_runLower_89 : decode cX0_runLower 89 = .ok (.iconst 1, 1) := by decide +kernel
theorem dX0_runLower_90 : decode cX0_runLower 90 = .ok (.iload_n 2, 1) := by decide +kernel
theorem dX0_runLower_91 : decode cX0_runLower 91 = .ok (.iconst 1, 1) := by decide +kernel
theorem dX0_runLower_92 : decode cX0_runLower 92 = .ok (.iadd, 1) := by decide +kernel
theorem dX0_runLower_93 : decode cX0_runLower 93 = .ok (.iload_n 3, 1) := by decide +kernel
theorem dX0_runLower_94 : decode cX0_runLower 94 = .ok (.invokevirtual 45, 3) := by decide +kernel
theorem dX0_runLower_97 : decode cX0_runLower 97 = .ok (.ireturn, 1) := by decide +kernel
theorem dX0_runLower_98 : decode cX0_runLower 98 = .ok (.aload_n 0, 1) := by decide +kernel
theorem dX0_runLower_99 : decode cX0_runLower 99 = .ok (.getstatic 32, 3) := by decide +kernel
theorem dX0_runLower_102 : decode cX0_runLower 102 = .ok (.iconst 4, 1) := by decide +kernel
theorem dX0_runLower_103 : decode cX0_runLower 103 = .ok (.iaload, 1) := by decide +kernel
theorem dX0_runLower_104 : decode cX0_runLower 104 = .ok (.iconst 3, 1) := by decide +kernel
theorem dX0_runLower_105 : decode cX0_runLower 105 = .ok (.iload_n 2, 1) := by decide +kernel
theorem dX0_runLower_106 : decode cX0_runLower 106 = .ok (.iload_n 3, 1) := by decide +kernel
theorem dX0_runLower_107 : decode cX0_runLower 107 = .ok (.invokevirtual 45, 3) := by decide +kernel
theorem dX0_runLower_110 : decode cX0_runLower 110 = .ok (.iconst 5, 1) := by decide +kernel
theorem dX0_runLower_111 : decode cX0_runLower 111 = .ok (.ixor, 1) := by decide +kernel
theorem dX0_runLower_112 : decode cX0_runLower 112 = .ok (.ireturn, 1) := by decide +kernel
theorem dX0_runLower_113 : decode cX0_runLower 113 = .ok (.aload_n 0, 1) := by decide +kernel
theorem dX0_runLower_114 : decode cX0_runLower 114 = .ok (.getstatic 32, 3) := by decide +kernel
theorem dX0_runLower_117 : decode cX0_runLower 117 = .ok (.iconst 5, 1) := by decide +kernel
theorem dX0_runLower_118 : decode cX0_runLower 118 = .ok (.iaload, 1) := by decide +kernel
theorem dX0_runLower_119 : decode cX0_runLower 119 = .ok (.iconst 2, 1) := by decide +kernel
theorem dX0_runLower_120 : decode cX0_runLower 120 = .ok (.iload_n 2, 1) := by decide +kernel
theorem dX0_runLower_121 : decode cX0_runLower 121 = .ok (.iload_n 3, 1) := by decide +kernel
theorem dX0_runLower_122 : decode cX0_runLower 122 = .ok (.invokevirtual 45, 3) := by decide +kernel
theorem dX0_runLower_125 : decode cX0_runLower 125 = .ok (.aload_n 0, 1) := by decide +kernel
theorem dX0_runLower_126 : decode cX0_runLower 126 = .ok (.iconst 0, 1) := by decide +kernel
theorem dX0_runLower_127 : decode cX0_runLower 127 = .ok (.iconst 2, 1) := by decide +kernel
theorem dX0_runLower_128 : decode cX0_runLower 128 = .ok (.iload_n 3, 1) := by decide +kernel
theorem dX0_runLower_129 : decode cX0_runLower 129 = .ok (.invokevirtual 41, 3) := by decide +kernel
theorem dX0_runLower_132 : decode cX0_runLower 132 = .ok (.isub, 1) := by decide +kernel
theorem dX0_runLower_133 : decode cX0_runLower 133 = .ok (.ireturn, 1) := by decide +kernel
theorem dX0_runLower_134 : decode cX0_runLower 134 = .ok (.aload_n 0, 1) := by decide +kernel
theorem dX0_runLower_135 : decode cX0_runLower 135 = .ok (.getstatic 32, 3) := by decide +kernel
theorem dX0_runLower_138 : decode cX0_runLower 138 = .ok (.iconst 5, 1) := by decide +kernel
theorem dX0_runLower_139 : decode cX0_runLower 139 = .ok (.iaload, 1) := by decide +kernel
theorem dX0_runLower_140 : decode cX0_runLower 140 = .ok (.iconst 3, 1) := by decide +kernel
theorem dX0_runLower_141 : decode cX0_runLower 141 = .ok (.iload_n 2, 1) := by decide +kernel
theorem dX0_runLower_142 : decode cX0_runLower 142 = .ok (.iload_n 3, 1) := by decide +kernel
theorem dX0_runLower_143 : decode cX0_runLower 143 = .ok (.invokevirtual 45, 3) := by decide +kernel
theorem dX0_runLower_146 : decode cX0_runLower 146 = .ok (.iconst 1, 1) := by decide +kernel
theorem dX0_runLower_147 : decode cX0_runLower 147 = .ok (.iadd, 1) := by decide +kernel
theorem dX0_runLower_148 : decode cX0_runLower 148 = .ok (.ireturn, 1) := by decide +kernel
theorem dX0_runLower_149 : decode cX0_runLower 149 = .ok (.aload_n 0, 1) := by decide +kernel
theorem dX0_runLower_150 : decode cX0_runLower 150 = .ok (.getstatic 32, 3) := by decide +kernel
theorem dX0_runLower_153 : decode cX0_runLower 153 = .ok (.bipush 6, 2) := by decide +kernel
theorem dX0_runLower_155 : decode cX0_runLower 155 = .ok (.iaload, 1) := by decide +kernel
theorem dX0_runLower_156 : decode cX0_runLower 156 = .ok (.iconst 0, 1) := by decide +kernel
theorem dX0_runLower_157 : decode cX0_runLower 157 = .ok (.iload_n 2, 1) := by decide +kernel
theorem dX0_runLower_158 : decode cX0_runLower 158 = .ok (.iload_n 3, 1) := by decide +kernel
theorem dX0_runLower_159 : decode cX0_runLower 159 = .ok (.invokevirtual 45, 3) := by decide +kernel
theorem dX0_runLower_162 : decode cX0_runLower 162 = .ok (.iconst 2, 1) := by decide +kernel
theorem dX0_runLower_163 : decode cX0_runLower 163 = .ok (.imul, 1) := by decide +kernel
theorem dX0_runLower_164 : decode cX0_runLower 164 = .ok (.ireturn, 1) := by decide +kernel
theorem dX0_runLower_165 : decode cX0_runLower 165 = .ok (.aload_n 0, 1) := by decide +kernel
theorem dX0_runLower_166 : decode cX0_runLower 166 = .ok (.getstatic 32, 3) := by decide +kernel
theorem dX0_runLower_169 : decode cX0_runLower 169 = .ok (.bipush 7, 2) := by decide +kernel
theorem dX0_runLower_171 : decode cX0_runLower 171 = .ok (.iaload, 1) := by decide +kernel
theorem dX0_runLower_172 : decode cX0_runLower 172 = .ok (.iconst 1, 1) := by decide +kernel
theorem dX0_runLower_173 : decode cX0_runLower 173 = .ok (.iload_n 2, 1) := by decide +kernel
theorem dX0_runLower_174 : decode cX0_runLower 174 = .ok (.iload_n 3, 1) := by decide +kernel
theorem dX0_runLower_175 : decode cX0_runLower 175 = .ok (.invokevirtual 45, 3) := by decide +kernel
theorem dX0_runLower_178 : decode cX0_runLower 178 = .ok (.aload_n 0, 1) := by decide +kernel
theorem dX0_runLower_179 : decode cX0_runLower 179 = .ok (.iconst 2, 1) := by decide +kernel
theorem dX0_runLower_180 : decode cX0_runLower 180 = .ok (.iconst 2, 1) := by decide +kernel
theorem dX0_runLower_181 : decode cX0_runLower 181 = .ok (.iload_n 3, 1) := by decide +kernel
theorem dX0_runLower_182 : decode cX0_runLower 182 = .ok (.invokevirtual 41, 3) := by decide +kernel
theorem dX0_runLower_185 : decode cX0_runLower 185 = .ok (.iadd, 1) := by decide +kernel
theorem dX0_runLower_186 : decode cX0_runLower 186 = .ok (.ireturn, 1) := by decide +kernel
theorem dX0_runLower_187 : decode cX0_runLower 187 = .ok (.aload_n 0, 1) := by decide +kernel
theorem dX0_runLower_188 : decode cX0_runLower 188 = .ok (.getstatic 32, 3) := by decide +kernel
theorem dX0_runLower_191 : decode cX0_runLower 191 = .ok (.bipush 7, 2) := by decide +kernel
theorem dX0_runLower_193 : decode cX0_runLower 193 = .ok (.iaload, 1) := by decide +kernel
theorem dX0_runLower_194 : decode cX0_runLower 194 = .ok (.iconst 0, 1) := by decide +kernel
theorem dX0_runLower_195 : decode cX0_runLower 195 = .ok (.iload_n 2, 1) := by decide +kernel
theorem dX0_runLower_196 : decode cX0_runLower 196 = .ok (.iload_n 3, 1) := by decide +kernel
theorem dX0_runLower_197 : decode cX0_runLower 197 = .ok (.invokevirtual 45, 3) := by decide +kernel
theorem dX0_runLower_200 : decode cX0_runLower 200 = .ok (.iconst 1, 1) := by decide +kernel
theorem dX0_runLower_201 : decode cX0_runLower 201 = .ok (.isub, 1) := by decide +kernel
theorem dX0_runLower_202 : decode cX0_runLower 202 = .ok (.ireturn, 1) := by decide +kernel
theorem dX1_init_0 : decode cX1_init 0 = .ok (.aload_n 0, 1) := by decide +kernel
theorem dX1_init_1 : decode cX1_init 1 = .ok (.invokespecial 3, 3) := by decide +kernel
theorem dX1_init_4 : decode cX1_init 4 = .ok (.aload_n 0, 1) := by decide +kernel
theorem dX1_init_5 : decode cX1_init 5 = .ok (.iconst 0, 1) := by decide +kernel
theorem dX1_init_6 : decode cX1_init 6 = .ok (.putfield 9, 3) := by decide +kernel
theorem dX1_init_9 : decode cX1_init 9 = .ok (.aload_n 0, 1) := by decide +kernel
theorem dX1_init_10 : decode cX1_init 10 = .ok (.iconst 0, 1) := by decide +kernel
theorem dX1_init_11 : decode cX1_init 11 = .ok (.putfield 15, 3) := by decide +kernel
theorem dX1_init_14 : decode cX1_init 14 = .ok (.aload_n 0, 1) := by decide +kernel
theorem dX1_init_15 : decode cX1_init 15 = .ok (.iconst 0, 1) := by decide +kernel
theorem dX1_init_16 : decode cX1_init 16 = .ok (.putfield 18, 3) := by decide +kernel
theorem dX1_init_19 : decode cX1_init 19 = .ok (.aload_n 0, 1) := by decide +kernel
theorem dX1_init_20 : decode cX1_init 20 = .ok (.bipush (-2), 2) := by decide +kernel
theorem dX1_init_22 : decode cX1_init 22 = .ok (.putfield 21, 3) := by decide +kernel
theorem dX1_init_25 : decode cX1_init 25 = .ok (.return_, 1) := by decide +kernel
theorem dX1_pass_0 : decode cX1_pass 0 = .ok (.aload_n 0, 1) := by decide +kernel
theorem dX1_pass_1 : decode cX1_pass 1 = .ok (.iload_n 3, 1) := by decide +kernel
theorem dX1_pass_2 : decode cX1_pass 2 = .ok (.putfield 9, 3) := by decide +kernel
theorem dX1_pass_5 : decode cX1_pass 5 = .ok (.aload_n 0, 1) := by decide +kernel
theorem dX1_pass_6 : decode cX1_pass 6 = .ok (.iload 5, 2) := by decide +kernel
theorem dX1_pass_8 : decode cX1_pass 8 = .ok (.putfield 15, 3) := by decide +kernel
theorem dX1_pass_11 : decode cX1_pass 11 = .ok (.aload_n 0, 1) := by decide +kernel
theorem dX1_pass_12 : decode cX1_pass 12 = .ok (.iconst 0, 1) := by decide +kernel
theorem dX1_pass_13 : decode cX1_pass 13 = .ok (.putfield 18, 3) := by decide +kernel
theorem dX1_pass_16 : decode cX1_pass 16 = .ok (.aload_n 2, 1) := by decide +kernel
theorem dX1_pass_17 : decode cX1_pass 17 = .ok (.aload_n 1, 1) := by decide +kernel
theorem dX1_pass_18 : decode cX1_pass 18 = .ok (.aload_n 0, 1) := by decide +kernel
theorem dX1_pass_19 : decode cX1_pass 19 = .ok (.getfield 15, 3) := by decide +kernel
theorem dX1_pass_22 : decode cX1_pass 22 = .ok (.invokevirtual 24, 3) := by decide +kernel
theorem dX1_pass_25 : decode cX1_pass 25 = .ok (.aload_n 0, 1) := by decide +kernel
theorem dX1_pass_26 : decode cX1_pass 26 = .ok (.aload_n 2, 1) := by decide +kernel
theorem dX1_pass_27 : decode cX1_pass 27 = .ok (.getfield 30, 3) := by decide +kernel
theorem dX1_pass_30 : decode cX1_pass 30 = .ok (.ifCond .ne 7, 3) := by decide +kernel
theorem dX1_pass_33 : decode cX1_pass 33 = .ok (.iconst 0, 1) := by decide +kernel
theorem dX1_pass_34 : decode cX1_pass 34 = .ok (.goto 5, 3) := by decide +kernel
theorem dX1_pass_37 : decode cX1_pass 37 = .ok (.bipush (-2), 2) := by decide +kernel
theorem dX1_pass_39 : decode cX1_pass 39 = .ok (.putfield 21, 3) := by decide +kernel
theorem dX1_pass_42 : decode cX1_pass 42 = .ok (.iconst 1, 1) := by decide +kernel
theorem dX1_pass_43 : decode cX1_pass 43 = .ok (.istore 6, 2) := by decide +kernel
theorem dX1_pass_45 : decode cX1_pass 45 = .ok (.iload 6, 2) := by decide +kernel
theorem dX1_pass_47 : decode cX1_pass 47 = .ok (.iload 4, 2) := by decide +kernel
theorem dX1_pass_49 : decode cX1_pass 49 = .ok (.if_icmp .gt 54, 3) := by decide +kernel
theorem dX1_pass_52 : decode cX1_pass 52 = .ok (.aload_n 0, 1) := by decide +kernel
theorem dX1_pass_53 : decode cX1_pass 53 = .ok (.aload_n 1, 1) := by decide +kernel
theorem dX1_pass_54 : decode cX1_pass 54 = .ok (.aload_n 2, 1) := by decide +kernel
theorem dX1_pass_55 : decode cX1_pass 55 = .ok (.invokevirtual 33, 3) := by decide +kernel
theorem dX1_pass_58 : decode cX1_pass 58 = .ok (.ifCond .eq 39, 3) := by decide +kernel
theorem dX1_pass_61 : decode cX1_pass 61 = .ok (.aload_n 0, 1) := by decide +kernel
theorem dX1_pass_62 : decode cX1_pass 62 = .ok (.getfield 21, 3) := by decide +kernel
theorem dX1_pass_65 : decode cX1_pass 65 = .ok (.bipush (-2), 2) := by decide +kernel
theorem dX1_pass_67 : decode cX1_pass 67 = .ok (.if_icmp .ne 30, 3) := by decide +kernel
theorem dX1_pass_70 : decode cX1_pass 70 = .ok (.aload_n 2, 1) := by decide +kernel
theorem dX1_pass_71 : decode cX1_pass 71 = .ok (.aload_n 1, 1) := by decide +kernel
theorem dX1_pass_72 : decode cX1_pass 72 = .ok (.aload_n 0, 1) := by decide +kernel
theorem dX1_pass_73 : decode cX1_pass 73 = .ok (.getfield 15, 3) := by decide +kernel
theorem dX1_pass_76 : decode cX1_pass 76 = .ok (.invokevirtual 24, 3) := by decide +kernel
theorem dX1_pass_79 : decode cX1_pass 79 = .ok (.aload_n 0, 1) := by decide +kernel
theorem dX1_pass_80 : decode cX1_pass 80 = .ok (.aload_n 2, 1) := by decide +kernel
theorem dX1_pass_81 : decode cX1_pass 81 = .ok (.getfield 30, 3) := by decide +kernel
theorem dX1_pass_84 : decode cX1_pass 84 = .ok (.ifCond .ne 8, 3) := by decide +kernel
theorem dX1_pass_87 : decode cX1_pass 87 = .ok (.iload 6, 2) := by decide +kernel
theorem dX1_pass_89 : decode cX1_pass 89 = .ok (.goto 5, 3) := by decide +kernel
theorem dX1_pass_92 : decode cX1_pass 92 = .ok (.bipush (-2), 2) := by decide +kernel
theorem dX1_pass_94 : decode cX1_pass 94 = .ok (.putfield 21, 3) := by decide +kernel
theorem dX1_pass_97 : decode cX1_pass 97 = .ok (.iinc 6 1, 3) := by decide +kernel
theorem dX1_pass_100 : decode cX1_pass 100 = .ok (.goto (-55), 3) := by decide +kernel
theorem dX1_pass_103 : decode cX1_pass 103 = .ok (.return_, 1) := by decide +kernel
theorem dX1_tryOne_0 : decode cX1_tryOne 0 = .ok (.aload_n 0, 1) := by decide +kernel
theorem dX1_tryOne_1 : decode cX1_tryOne 1 = .ok (.aload_n 1, 1) := by decide +kernel
theorem dX1_tryOne_2 : decode cX1_tryOne 2 = .ok (.getfield 37, 3) := by decide +kernel
theorem dX1_tryOne_5 : decode cX1_tryOne 5 = .ok (.getfield 43, 3) := by decide +kernel
theorem dX1_tryOne_8 : decode cX1_tryOne 8 = .ok (.invokevirtual 48, 3) := by decide +kernel
theorem dX1_tryOne_11 : decode cX1_tryOne 11 = .ok (.istore_n 3, 1) := by decide +kernel
theorem dX1_tryOne_12 : decode cX1_tryOne 12 = .ok (.aload_n 2, 1) := by decide +kernel
theorem dX1_tryOne_13 : decode cX1_tryOne 13 = .ok (.aload_n 1, 1) := by decide +kernel
theorem dX1_tryOne_14 : decode cX1_tryOne 14 = .ok (.getfield 37, 3) := by decide +kernel
theorem dX1_tryOne_17 : decode cX1_tryOne 17 = .ok (.getfield 52, 3) := by decide +kernel
theorem dX1_tryOne_20 : decode cX1_tryOne 20 = .ok (.aload_n 0, 1) := by decide +kernel
theorem dX1_tryOne_21 : decode cX1_tryOne 21 = .ok (.getfield 15, 3) := by decide +kernel
theorem dX1_tryOne_24 : decode cX1_tryOne 24 = .ok (.invokevirtual 55, 3) := by decide +kernel
theorem dX1_tryOne_27 : decode cX1_tryOne 27 = .ok (.aload_n 2, 1) := by decide +kernel
theorem dX1_tryOne_28 : decode cX1_tryOne 28 = .ok (.getfield 59, 3) := by decide +kernel
theorem dX1_tryOne_31 : decode cX1_tryOne 31 = .ok (.aload_n 1, 1) := by decide +kernel
theorem dX1_tryOne_32 : decode cX1_tryOne 32 = .ok (.getfield 63, 3) := by decide +kernel
theorem dX1_tryOne_35 : decode cX1_tryOne 35 = .ok (.iload_n 3, 1) := by decide +kernel
theorem dX1_tryOne_36 : decode cX1_tryOne 36 = .ok (.iaload, 1) := by decide +kernel
theorem dX1_tryOne_37 : decode cX1_tryOne 37 = .ok (.iaload, 1) := by decide +kernel
theorem dX1_tryOne_38 : decode cX1_tryOne 38 = .ok (.istore 4, 2) := by decide +kernel
theorem dX1_tryOne_40 : decode cX1_tryOne 40 = .ok (.aload_n 2, 1) := by decide +kernel
theorem dX1_tryOne_41 : decode cX1_tryOne 41 = .ok (.getfield 59, 3) := by decide +kernel
theorem dX1_tryOne_44 : decode cX1_tryOne 44 = .ok (.aload_n 1, 1) := by decide +kernel
theorem dX1_tryOne_45 : decode cX1_tryOne 45 = .ok (.getfield 66, 3) := by decide +kernel
theorem dX1_tryOne_48 : decode cX1_tryOne 48 = .ok (.iload_n 3, 1) := by decide +kernel
theorem dX1_tryOne_49 : decode cX1_tryOne 49 = .ok (.iaload, 1) := by decide +kernel
theorem dX1_tryOne_50 : decode cX1_tryOne 50 = .ok (.iaload, 1) := by decide +kernel
theorem dX1_tryOne_51 : decode cX1_tryOne 51 = .ok (.istore 5, 2) := by decide +kernel
theorem dX1_tryOne_53 : decode cX1_tryOne 53 = .ok (.iload 4, 2) := by decide +kernel
theorem dX1_tryOne_55 : decode cX1_tryOne 55 = .ok (.ifCond .eq 8, 3) := by decide +kernel
theorem dX1_tryOne_58 : decode cX1_tryOne 58 = .ok (.iload 5, 2) := by decide +kernel
theorem dX1_tryOne_60 : decode cX1_tryOne 60 = .ok (.ifCond .ne 5, 3) := by decide +kernel
theorem dX1_tryOne_63 : decode cX1_tryOne 63 = .ok (.iconst 0, 1) := by decide +kernel
theorem dX1_tryOne_64 : decode cX1_tryOne 64 = .ok (.ireturn, 1) := by decide +kernel
theorem dX1_tryOne_65 : decode cX1_tryOne 65 = .ok (.iload 4, 2) := by decide +kernel
theorem dX1_tryOne_67 : decode cX1_tryOne 67 = .ok (.aload_n 0, 1) := by decide +kernel
theorem dX1_tryOne_68 : decode cX1_tryOne 68 = .ok (.iload 4, 2) := by decide +kernel
theorem dX1_tryOne_70 : decode cX1_tryOne 70 = .ok (.invokestatic 69, 3) := by decide +kernel
theorem dX1_tryOne_73 : decode cX1_tryOne 73 = .ok (.invokevirtual 48, 3) := by decide +kernel
theorem dX1_tryOne_76 : decode cX1_tryOne 76 = .ok (.invokestatic 74, 3) := by decide +kernel
theorem dX1_tryOne_79 : decode cX1_tryOne 79 = .ok (.istore 6, 2) := by decide +kernel
theorem dX1_tryOne_81 : decode cX1_tryOne 81 = .ok (.iload 5, 2) := by decide +kernel
theorem dX1_tryOne_83 : decode cX1_tryOne 83 = .ok (.aload_n 0, 1) := by decide +kernel
theorem dX1_tryOne_84 : decode cX1_tryOne 84 = .ok (.iload 5, 2) := by decide +kernel
theorem dX1_tryOne_86 : decode cX1_tryOne 86 = .ok (.invokestatic 69, 3) := by decide +kernel
theorem dX1_tryOne_89 : decode cX1_tryOne 89 = .ok (.invokevirtual 48, 3) := by decide +kernel
theorem dX1_tryOne_92 : decode cX1_tryOne 92 = .ok (.invokestatic 74, 3) := by decide +kernel
theorem dX1_tryOne_95 : decode cX1_tryOne 95 = .ok (.istore 7, 2) := by decide +kernel
theorem dX1_tryOne_97 : decode cX1_tryOne 97 = .ok (.iload 6, 2) := by decide +kernel
theorem dX1_tryOne_99 : decode cX1_tryOne 99 = .ok (.ifCond .lt 28, 3) := by decide +kernel
theorem dX1_tryOne_102 : decode cX1_tryOne 102 = .ok (.iload 7, 2) := by decide +kernel
theorem dX1_tryOne_104 : decode cX1_tryOne 104 = .ok (.ifCond .lt 23, 3) := by decide +kernel
theorem dX1_tryOne_107 : decode cX1_tryOne 107 = .ok (.aload_n 1, 1) := by decide +kernel
theorem dX1_tryOne_108 : decode cX1_tryOne 108 = .ok (.getfield 78, 3) := by decide +kernel
theorem dX1_tryOne_111 : decode cX1_tryOne 111 = .ok (.iload_n 3, 1) := by decide +kernel
theorem dX1_tryOne_112 : decode cX1_tryOne 112 = .ok (.bipush 7, 2) := by decide +kernel
theorem dX1_tryOne_114 : decode cX1_tryOne 114 = .ok (.imul, 1) := by decide +kernel
theorem dX1_tryOne_115 : decode cX1_tryOne 115 = .ok (.iload 6, 2) := by decide +kernel
theorem dX1_tryOne_117 : decode cX1_tryOne 117 = .ok (.iadd, 1) := by decide +kernel
theorem dX1_tryOne_118 : decode cX1_tryOne 118 = .ok (.iaload, 1) := by decide +kernel
theorem dX1_tryOne_119 : decode cX1_tryOne 119 = .ok (.iload 7, 2) := by decide +kernel
theorem dX1_tryOne_121 : decode cX1_tryOne 121 = .ok (.ishr, 1) := by decide +kernel
theorem dX1_tryOne_122 : decode cX1_tryOne 122 = .ok (.iconst 1, 1) := by decide +kernel
theorem dX1_tryOne_123 : decode cX1_tryOne 123 = .ok (.iand, 1) := by decide +kernel
theorem dX1_tryOne_124 : decode cX1_tryOne 124 = .ok (.ifCond .ne 5, 3) := by decide +kernel
theorem dX1_tryOne_127 : decode cX1_tryOne 127 = .ok (.iconst 0, 1) := by decide +kernel
theorem dX1_tryOne_128 : decode cX1_tryOne 128 = .ok (.ireturn, 1) := by decide +kernel
theorem dX1_tryOne_129 : decode cX1_tryOne 129 = .ok (.aload_n 0, 1) := by decide +kernel
theorem dX1_tryOne_130 : decode cX1_tryOne 130 = .ok (.aload_n 1, 1) := by decide +kernel
theorem dX1_tryOne_131 : decode cX1_tryOne 131 = .ok (.aload_n 0, 1) := by decide +kernel
theorem dX1_tryOne_132 : decode cX1_tryOne 132 = .ok (.getfield 15, 3) := by decide +kernel
theorem dX1_tryOne_135 : decode cX1_tryOne 135 = .ok (.iload_n 3, 1) := by decide +kernel
theorem dX1_tryOne_136 : decode cX1_tryOne 136 = .ok (.iload 6, 2) := by decide +kernel
theorem dX1_tryOne_138 : decode cX1_tryOne 138 = .ok (.iload 7, 2) := by decide +kernel
theorem dX1_tryOne_140 : decode cX1_tryOne 140 = .ok (.invokevirtual 81, 3) := by decide +kernel
theorem dX1_tryOne_143 : decode cX1_tryOne 143 = .ok (.putfield 15, 3) := by decide +kernel
theorem dX1_tryOne_146 : decode cX1_tryOne 146 = .ok (.aload_n 0, 1) := by decide +kernel
theorem dX1_tryOne_147 : decode cX1_tryOne 147 = .ok (.dup, 1) := by decide +kernel
theorem dX1_tryOne_148 : decode cX1_tryOne 148 = .ok (.getfield 18, 3) := by decide +kernel
theorem dX1_tryOne_151 : decode cX1_tryOne 151 = .ok (.iconst 1, 1) := by decide +kernel
theorem dX1_tryOne_152 : decode cX1_tryOne 152 = .ok (.iadd, 1) := by decide +kernel
theorem dX1_tryOne_153 : decode cX1_tryOne 153 = .ok (.putfield 18, 3) := by decide +kernel
theorem dX1_tryOne_156 : decode cX1_tryOne 156 = .ok (.iconst 1, 1) := by decide +kernel
theorem dX1_tryOne_157 : decode cX1_tryOne 157 = .ok (.ireturn, 1) := by decide +kernel
theorem dX1_draw_0 : decode cX1_draw 0 = .ok (.aload_n 0, 1) := by decide +kernel
theorem dX1_draw_1 : decode cX1_draw 1 = .ok (.aload_n 0, 1) := by decide +kernel
theorem dX1_draw_2 : decode cX1_draw 2 = .ok (.getfield 9, 3) := by decide +kernel
theorem dX1_draw_5 : decode cX1_draw 5 = .ok (.ldc 84, 2) := by decide +kernel
theorem dX1_draw_7 : decode cX1_draw 7 = .ok (.imul, 1) := by decide +kernel
theorem dX1_draw_8 : decode cX1_draw 8 = .ok (.sipush 12345, 3) := by decide +kernel
theorem dX1_draw_11 : decode cX1_draw 11 = .ok (.iadd, 1) := by decide +kernel
theorem dX1_draw_12 : decode cX1_draw 12 = .ok (.putfield 9, 3) := by decide +kernel
theorem dX1_draw_15 : decode cX1_draw 15 = .ok (.iload_n 1, 1) := by decide +kernel
theorem dX1_draw_16 : decode cX1_draw 16 = .ok (.ifCond .gt 7, 3) := by decide +kernel
theorem dX1_draw_19 : decode cX1_draw 19 = .ok (.iconst 0, 1) := by decide +kernel
theorem dX1_draw_20 : decode cX1_draw 20 = .ok (.goto 12, 3) := by decide +kernel
theorem dX1_draw_23 : decode cX1_draw 23 = .ok (.aload_n 0, 1) := by decide +kernel
theorem dX1_draw_24 : decode cX1_draw 24 = .ok (.getfield 9, 3) := by decide +kernel
theorem dX1_draw_27 : decode cX1_draw 27 = .ok (.bipush 8, 2) := by decide +kernel
theorem dX1_draw_29 : decode cX1_draw 29 = .ok (.iushr, 1) := by decide +kernel
theorem dX1_draw_30 : decode cX1_draw 30 = .ok (.iload_n 1, 1) := by decide +kernel
theorem dX1_draw_31 : decode cX1_draw 31 = .ok (.irem, 1) := by decide +kernel
theorem dX1_draw_32 : decode cX1_draw 32 = .ok (.ireturn, 1) := by decide +kernel
theorem dX1_oneOf_0 : decode cX1_oneOf 0 = .ok (.iload_n 1, 1) := by decide +kernel
theorem dX1_oneOf_1 : decode cX1_oneOf 1 = .ok (.istore_n 2, 1) := by decide +kernel
theorem dX1_oneOf_2 : decode cX1_oneOf 2 = .ok (.iconst 0, 1) := by decide +kernel
theorem dX1_oneOf_3 : decode cX1_oneOf 3 = .ok (.istore_n 3, 1) := by decide +kernel
theorem dX1_oneOf_4 : decode cX1_oneOf 4 = .ok (.iload_n 3, 1) := by decide +kernel
theorem dX1_oneOf_5 : decode cX1_oneOf 5 = .ok (.bipush 7, 2) := by decide +kernel
theorem dX1_oneOf_7 : decode cX1_oneOf 7 = .ok (.if_icmp .ge 26, 3) := by decide +kernel
theorem dX1_oneOf_10 : decode cX1_oneOf 10 = .ok (.iload_n 0, 1) := by decide +kernel
theorem dX1_oneOf_11 : decode cX1_oneOf 11 = .ok (.iload_n 3, 1) := by decide +kernel
theorem dX1_oneOf_12 : decode cX1_oneOf 12 = .ok (.ishr, 1) := by decide +kernel
theorem dX1_oneOf_13 : decode cX1_oneOf 13 = .ok (.iconst 1, 1) := by decide +kernel
theorem dX1_oneOf_14 : decode cX1_oneOf 14 = .ok (.iand, 1) := by decide +kernel
theorem dX1_oneOf_15 : decode cX1_oneOf 15 = .ok (.ifCond .eq 12, 3) := by decide +kernel
theorem dX1_oneOf_18 : decode cX1_oneOf 18 = .ok (.iload_n 2, 1) := by decide +kernel
theorem dX1_oneOf_19 : decode cX1_oneOf 19 = .ok (.ifCond .ne 5, 3) := by decide +kernel
theorem dX1_oneOf_22 : decode cX1_oneOf 22 = .ok (.iload_n 3, 1) := by decide +kernel
theorem dX1_oneOf_23 : decode cX1_oneOf 23 = .ok (.ireturn, 1) := by decide +kernel
theorem dX1_oneOf_24 : decode cX1_oneOf 24 = .ok (.iinc 2 (-1), 3) := by decide +kernel
theorem dX1_oneOf_27 : decode cX1_oneOf 27 = .ok (.iinc 3 1, 3) := by decide +kernel
theorem dX1_oneOf_30 : decode cX1_oneOf 30 = .ok (.goto (-26), 3) := by decide +kernel
theorem dX1_oneOf_33 : decode cX1_oneOf 33 = .ok (.iconst (-1), 1) := by decide +kernel
theorem dX1_oneOf_34 : decode cX1_oneOf 34 = .ok (.ireturn, 1) := by decide +kernel
theorem dX2_init_0 : decode cX2_init 0 = .ok (.aload_n 0, 1) := by decide +kernel
theorem dX2_init_1 : decode cX2_init 1 = .ok (.invokespecial 3, 3) := by decide +kernel
theorem dX2_init_4 : decode cX2_init 4 = .ok (.aload_n 0, 1) := by decide +kernel
theorem dX2_init_5 : decode cX2_init 5 = .ok (.iconst 0, 1) := by decide +kernel
theorem dX2_init_6 : decode cX2_init 6 = .ok (.putfield 9, 3) := by decide +kernel
theorem dX2_init_9 : decode cX2_init 9 = .ok (.aload_n 0, 1) := by decide +kernel
theorem dX2_init_10 : decode cX2_init 10 = .ok (.iconst 0, 1) := by decide +kernel
theorem dX2_init_11 : decode cX2_init 11 = .ok (.putfield 15, 3) := by decide +kernel
theorem dX2_init_14 : decode cX2_init 14 = .ok (.aload_n 0, 1) := by decide +kernel
theorem dX2_init_15 : decode cX2_init 15 = .ok (.iconst 0, 1) := by decide +kernel
theorem dX2_init_16 : decode cX2_init 16 = .ok (.putfield 18, 3) := by decide +kernel
theorem dX2_init_19 : decode cX2_init 19 = .ok (.aload_n 0, 1) := by decide +kernel
theorem dX2_init_20 : decode cX2_init 20 = .ok (.iconst (-1), 1) := by decide +kernel
theorem dX2_init_21 : decode cX2_init 21 = .ok (.putfield 21, 3) := by decide +kernel
theorem dX2_init_24 : decode cX2_init 24 = .ok (.aload_n 0, 1) := by decide +kernel
theorem dX2_init_25 : decode cX2_init 25 = .ok (.iconst 5, 1) := by decide +kernel
theorem dX2_init_26 : decode cX2_init 26 = .ok (.putfield 24, 3) := by decide +kernel
theorem dX2_init_29 : decode cX2_init 29 = .ok (.aload_n 0, 1) := by decide +kernel
theorem dX2_init_30 : decode cX2_init 30 = .ok (.iconst 5, 1) := by decide +kernel
theorem dX2_init_31 : decode cX2_init 31 = .ok (.newarray .int, 2) := by decide +kernel
theorem dX2_init_33 : decode cX2_init 33 = .ok (.putfield 27, 3) := by decide +kernel
theorem dX2_init_36 : decode cX2_init 36 = .ok (.aload_n 0, 1) := by decide +kernel
theorem dX2_init_37 : decode cX2_init 37 = .ok (.iconst 5, 1) := by decide +kernel
theorem dX2_init_38 : decode cX2_init 38 = .ok (.newarray .int, 2) := by decide +kernel
theorem dX2_init_40 : decode cX2_init 40 = .ok (.putfield 31, 3) := by decide +kernel
theorem dX2_init_43 : decode cX2_init 43 = .ok (.aload_n 0, 1) := by decide +kernel
theorem dX2_init_44 : decode cX2_init 44 = .ok (.iconst 5, 1) := by decide +kernel
theorem dX2_init_45 : decode cX2_init 45 = .ok (.newarray .int, 2) := by decide +kernel
theorem dX2_init_47 : decode cX2_init 47 = .ok (.putfield 34, 3) := by decide +kernel
theorem dX2_init_50 : decode cX2_init 50 = .ok (.aload_n 0, 1) := by decide +kernel
theorem dX2_init_51 : decode cX2_init 51 = .ok (.bipush 7, 2) := by decide +kernel
theorem dX2_init_53 : decode cX2_init 53 = .ok (.newarray .int, 2) := by decide +kernel
theorem dX2_init_55 : decode cX2_init 55 = .ok (.putfield 37, 3) := by decide +kernel
theorem dX2_init_58 : decode cX2_init 58 = .ok (.aload_n 0, 1) := by decide +kernel
theorem dX2_init_59 : decode cX2_init 59 = .ok (.bipush 7, 2) := by decide +kernel
theorem dX2_init_61 : decode cX2_init 61 = .ok (.newarray .int, 2) := by decide +kernel
theorem dX2_init_63 : decode cX2_init 63 = .ok (.putfield 40, 3) := by decide +kernel
theorem dX2_init_66 : decode cX2_init 66 = .ok (.aload_n 0, 1) := by decide +kernel
theorem dX2_init_67 : decode cX2_init 67 = .ok (.bipush 7, 2) := by decide +kernel
theorem dX2_init_69 : decode cX2_init 69 = .ok (.newarray .int, 2) := by decide +kernel
theorem dX2_init_71 : decode cX2_init 71 = .ok (.putfield 43, 3) := by decide +kernel
theorem dX2_init_74 : decode cX2_init 74 = .ok (.return_, 1) := by decide +kernel
theorem dX2_hasRoom_0 : decode cX2_hasRoom 0 = .ok (.iload_n 1, 1) := by decide +kernel
theorem dX2_hasRoom_1 : decode cX2_hasRoom 1 = .ok (.ifCond .lt 15, 3) := by decide +kernel
theorem dX2_hasRoom_4 : decode cX2_hasRoom 4 = .ok (.iload_n 1, 1) := by decide +kernel
theorem dX2_hasRoom_5 : decode cX2_hasRoom 5 = .ok (.aload_n 0, 1) := by decide +kernel
theorem dX2_hasRoom_6 : decode cX2_hasRoom 6 = .ok (.getfield 9, 3) := by decide +kernel
theorem dX2_hasRoom_9 : decode cX2_hasRoom 9 = .ok (.if_icmp .ge 7, 3) := by decide +kernel
theorem dX2_hasRoom_12 : decode cX2_hasRoom 12 = .ok (.iconst 1, 1) := by decide +kernel
theorem dX2_hasRoom_13 : decode cX2_hasRoom 13 = .ok (.goto 4, 3) := by decide +kernel
theorem dX2_hasRoom_16 : decode cX2_hasRoom 16 = .ok (.iconst 0, 1) := by decide +kernel
theorem dX2_hasRoom_17 : decode cX2_hasRoom 17 = .ok (.ireturn, 1) := by decide +kernel
theorem dX2_hasDoor_0 : decode cX2_hasDoor 0 = .ok (.iload_n 1, 1) := by decide +kernel
theorem dX2_hasDoor_1 : decode cX2_hasDoor 1 = .ok (.ifCond .lt 15, 3) := by decide +kernel
theorem dX2_hasDoor_4 : decode cX2_hasDoor 4 = .ok (.iload_n 1, 1) := by decide +kernel
theorem dX2_hasDoor_5 : decode cX2_hasDoor 5 = .ok (.aload_n 0, 1) := by decide +kernel
theorem dX2_hasDoor_6 : decode cX2_hasDoor 6 = .ok (.getfield 15, 3) := by decide +kernel
theorem dX2_hasDoor_9 : decode cX2_hasDoor 9 = .ok (.if_icmp .ge 7, 3) := by decide +kernel
theorem dX2_hasDoor_12 : decode cX2_hasDoor 12 = .ok (.iconst 1, 1) := by decide +kernel
theorem dX2_hasDoor_13 : decode cX2_hasDoor 13 = .ok (.goto 4, 3) := by decide +kernel
theorem dX2_hasDoor_16 : decode cX2_hasDoor 16 = .ok (.iconst 0, 1) := by decide +kernel
theorem dX2_hasDoor_17 : decode cX2_hasDoor 17 = .ok (.ireturn, 1) := by decide +kernel
theorem dX2_hasPerson_0 : decode cX2_hasPerson 0 = .ok (.iload_n 1, 1) := by decide +kernel
theorem dX2_hasPerson_1 : decode cX2_hasPerson 1 = .ok (.ifCond .lt 15, 3) := by decide +kernel
theorem dX2_hasPerson_4 : decode cX2_hasPerson 4 = .ok (.iload_n 1, 1) := by decide +kernel
theorem dX2_hasPerson_5 : decode cX2_hasPerson 5 = .ok (.aload_n 0, 1) := by decide +kernel
theorem dX2_hasPerson_6 : decode cX2_hasPerson 6 = .ok (.getfield 18, 3) := by decide +kernel
theorem dX2_hasPerson_9 : decode cX2_hasPerson 9 = .ok (.if_icmp .ge 7, 3) := by decide +kernel
theorem dX2_hasPerson_12 : decode cX2_hasPerson 12 = .ok (.iconst 1, 1) := by decide +kernel
theorem dX2_hasPerson_13 : decode cX2_hasPerson 13 = .ok (.goto 4, 3) := by decide +kernel
theorem dX2_hasPerson_16 : decode cX2_hasPerson 16 = .ok (.iconst 0, 1) := by decide +kernel
theorem dX2_hasPerson_17 : decode cX2_hasPerson 17 = .ok (.ireturn, 1) := by decide +kernel
theorem dX2_canCome_0 : decode cX2_canCome 0 = .ok (.iconst 0, 1) := by decide +kernel
theorem dX2_canCome_1 : decode cX2_canCome 1 = .ok (.iload_n 1, 1) := by decide +kernel
theorem dX2_canCome_2 : decode cX2_canCome 2 = .ok (.invokestatic 46, 3) := by decide +kernel
theorem dX2_canCome_5 : decode cX2_canCome 5 = .ok (.ifCond .eq 15, 3) := by decide +kernel
theorem dX2_canCome_8 : decode cX2_canCome 8 = .ok (.aload_n 0, 1) := by decide +kernel
theorem dX2_canCome_9 : decode cX2_canCome 9 = .ok (.iload_n 2, 1) := by decide +kernel
theorem dX2_canCome_10 : decode cX2_canCome 10 = .ok (.invokevirtual 50, 3) := by decide +kernel
theorem dX2_canCome_13 : decode cX2_canCome 13 = .ok (.ifCond .eq 7, 3) := by decide +kernel
theorem dX2_canCome_16 : decode cX2_canCome 16 = .ok (.iconst 1, 1) := by decide +kernel
theorem dX2_canCome_17 : decode cX2_canCome 17 = .ok (.goto 4, 3) := by decide +kernel
theorem dX2_canCome_20 : decode cX2_canCome 20 = .ok (.iconst 0, 1) := by decide +kernel
theorem dX2_canCome_21 : decode cX2_canCome 21 = .ok (.ireturn, 1) := by decide +kernel
theorem dX2_addDoor_0 : decode cX2_addDoor 0 = .ok (.aload_n 0, 1) := by decide +kernel
theorem dX2_addDoor_1 : decode cX2_addDoor 1 = .ok (.getfield 15, 3) := by decide +kernel
theorem dX2_addDoor_4 : decode cX2_addDoor 4 = .ok (.iconst 5, 1) := by decide +kernel
theorem dX2_addDoor_5 : decode cX2_addDoor 5 = .ok (.if_icmp .lt 6, 3) := by decide +kernel
theorem dX2_addDoor_8 : decode cX2_addDoor 8 = .ok (.bipush (-3), 2) := by decide +kernel
theorem dX2_addDoor_10 : decode cX2_addDoor 10 = .ok (.ireturn, 1) := by decide +kernel
theorem dX2_addDoor_11 : decode cX2_addDoor 11 = .ok (.aload_n 0, 1) := by decide +kernel
theorem dX2_addDoor_12 : decode cX2_addDoor 12 = .ok (.getfield 27, 3) := by decide +kernel
theorem dX2_addDoor_15 : decode cX2_addDoor 15 = .ok (.aload_n 0, 1) := by decide +kernel
theorem dX2_addDoor_16 : decode cX2_addDoor 16 = .ok (.getfield 15, 3) := by decide +kernel
theorem dX2_addDoor_19 : decode cX2_addDoor 19 = .ok (.iload_n 1, 1) := by decide +kernel
theorem dX2_addDoor_20 : decode cX2_addDoor 20 = .ok (.iastore, 1) := by decide +kernel
theorem dX2_addDoor_21 : decode cX2_addDoor 21 = .ok (.aload_n 0, 1) := by decide +kernel
theorem dX2_addDoor_22 : decode cX2_addDoor 22 = .ok (.getfield 31, 3) := by decide +kernel
theorem dX2_addDoor_25 : decode cX2_addDoor 25 = .ok (.aload_n 0, 1) := by decide +kernel
theorem dX2_addDoor_26 : decode cX2_addDoor 26 = .ok (.getfield 15, 3) := by decide +kernel
theorem dX2_addDoor_29 : decode cX2_addDoor 29 = .ok (.iload_n 2, 1) := by decide +kernel
theorem dX2_addDoor_30 : decode cX2_addDoor 30 = .ok (.iastore, 1) := by decide +kernel
theorem dX2_addDoor_31 : decode cX2_addDoor 31 = .ok (.aload_n 0, 1) := by decide +kernel
theorem dX2_addDoor_32 : decode cX2_addDoor 32 = .ok (.getfield 34, 3) := by decide +kernel
theorem dX2_addDoor_35 : decode cX2_addDoor 35 = .ok (.aload_n 0, 1) := by decide +kernel
theorem dX2_addDoor_36 : decode cX2_addDoor 36 = .ok (.getfield 15, 3) := by decide +kernel
theorem dX2_addDoor_39 : decode cX2_addDoor 39 = .ok (.iload_n 3, 1) := by decide +kernel
theorem dX2_addDoor_40 : decode cX2_addDoor 40 = .ok (.iastore, 1) := by decide +kernel
theorem dX2_addDoor_41 : decode cX2_addDoor 41 = .ok (.aload_n 0, 1) := by decide +kernel
theorem dX2_addDoor_42 : decode cX2_addDoor 42 = .ok (.dup, 1) := by decide +kernel
theorem dX2_addDoor_43 : decode cX2_addDoor 43 = .ok (.getfield 15, 3) := by decide +kernel
theorem dX2_addDoor_46 : decode cX2_addDoor 46 = .ok (.iconst 1, 1) := by decide +kernel
theorem dX2_addDoor_47 : decode cX2_addDoor 47 = .ok (.iadd, 1) := by decide +kernel
theorem dX2_addDoor_48 : decode cX2_addDoor 48 = .ok (.putfield 15, 3) := by decide +kernel
theorem dX2_addDoor_51 : decode cX2_addDoor 51 = .ok (.aload_n 0, 1) := by decide +kernel
theorem dX2_addDoor_52 : decode cX2_addDoor 52 = .ok (.getfield 15, 3) := by decide +kernel
theorem dX2_addDoor_55 : decode cX2_addDoor 55 = .ok (.iconst 1, 1) := by decide +kernel
theorem dX2_addDoor_56 : decode cX2_addDoor 56 = .ok (.isub, 1) := by decide +kernel
theorem dX2_addDoor_57 : decode cX2_addDoor 57 = .ok (.ireturn, 1) := by decide +kernel
theorem dX2_addPerson_0 : decode cX2_addPerson 0 = .ok (.aload_n 0, 1) := by decide +kernel
theorem dX2_addPerson_1 : decode cX2_addPerson 1 = .ok (.getfield 18, 3) := by decide +kernel
theorem dX2_addPerson_4 : decode cX2_addPerson 4 = .ok (.bipush 7, 2) := by decide +kernel
theorem dX2_addPerson_6 : decode cX2_addPerson 6 = .ok (.if_icmp .lt 6, 3) := by decide +kernel
theorem dX2_addPerson_9 : decode cX2_addPerson 9 = .ok (.bipush (-3), 2) := by decide +kernel
theorem dX2_addPerson_11 : decode cX2_addPerson 11 = .ok (.ireturn, 1) := by decide +kernel
theorem dX2_addPerson_12 : decode cX2_addPerson 12 = .ok (.aload_n 0, 1) := by decide +kernel
theorem dX2_addPerson_13 : decode cX2_addPerson 13 = .ok (.getfield 37, 3) := by decide +kernel
theorem dX2_addPerson_16 : decode cX2_addPerson 16 = .ok (.aload_n 0, 1) := by decide +kernel
theorem dX2_addPerson_17 : decode cX2_addPerson 17 = .ok (.getfield 18, 3) := by decide +kernel
theorem dX2_addPerson_20 : decode cX2_addPerson 20 = .ok (.iload_n 1, 1) := by decide +kernel
theorem dX2_addPerson_21 : decode cX2_addPerson 21 = .ok (.iastore, 1) := by decide +kernel
theorem dX2_addPerson_22 : decode cX2_addPerson 22 = .ok (.aload_n 0, 1) := by decide +kernel
theorem dX2_addPerson_23 : decode cX2_addPerson 23 = .ok (.getfield 43, 3) := by decide +kernel
theorem dX2_addPerson_26 : decode cX2_addPerson 26 = .ok (.aload_n 0, 1) := by decide +kernel
theorem dX2_addPerson_27 : decode cX2_addPerson 27 = .ok (.getfield 18, 3) := by decide +kernel
theorem dX2_addPerson_30 : decode cX2_addPerson 30 = .ok (.iload_n 2, 1) := by decide +kernel
theorem dX2_addPerson_31 : decode cX2_addPerson 31 = .ok (.iastore, 1) := by decide +kernel
theorem dX2_addPerson_32 : decode cX2_addPerson 32 = .ok (.aload_n 0, 1) := by decide +kernel
theorem dX2_addPerson_33 : decode cX2_addPerson 33 = .ok (.dup, 1) := by decide +kernel
theorem dX2_addPerson_34 : decode cX2_addPerson 34 = .ok (.getfield 18, 3) := by decide +kernel
theorem dX2_addPerson_37 : decode cX2_addPerson 37 = .ok (.iconst 1, 1) := by decide +kernel
theorem dX2_addPerson_38 : decode cX2_addPerson 38 = .ok (.iadd, 1) := by decide +kernel
theorem dX2_addPerson_39 : decode cX2_addPerson 39 = .ok (.putfield 18, 3) := by decide +kernel
theorem dX2_addPerson_42 : decode cX2_addPerson 42 = .ok (.aload_n 0, 1) := by decide +kernel
theorem dX2_addPerson_43 : decode cX2_addPerson 43 = .ok (.getfield 18, 3) := by decide +kernel
theorem dX2_addPerson_46 : decode cX2_addPerson 46 = .ok (.iconst 1, 1) := by decide +kernel
theorem dX2_addPerson_47 : decode cX2_addPerson 47 = .ok (.isub, 1) := by decide +kernel
theorem dX2_addPerson_48 : decode cX2_addPerson 48 = .ok (.ireturn, 1) := by decide +kernel
theorem dX2_height_0 : decode cX2_height 0 = .ok (.aload_n 0, 1) := by decide +kernel
theorem dX2_height_1 : decode cX2_height 1 = .ok (.getfield 37, 3) := by decide +kernel
theorem dX2_height_4 : decode cX2_height 4 = .ok (.iload_n 1, 1) := by decide +kernel
theorem dX2_height_5 : decode cX2_height 5 = .ok (.iaload, 1) := by decide +kernel
theorem dX2_height_6 : decode cX2_height 6 = .ok (.iload_n 3, 1) := by decide +kernel
theorem dX2_height_7 : decode cX2_height 7 = .ok (.aload_n 0, 1) := by decide +kernel
theorem dX2_height_8 : decode cX2_height 8 = .ok (.getfield 40, 3) := by decide +kernel
theorem dX2_height_11 : decode cX2_height 11 = .ok (.iload_n 1, 1) := by decide +kernel
theorem dX2_height_12 : decode cX2_height 12 = .ok (.iaload, 1) := by decide +kernel
theorem dX2_height_13 : decode cX2_height 13 = .ok (.imul, 1) := by decide +kernel
theorem dX2_height_14 : decode cX2_height 14 = .ok (.iadd, 1) := by decide +kernel
theorem dX2_height_15 : decode cX2_height 15 = .ok (.istore 4, 2) := by decide +kernel
theorem dX2_height_17 : decode cX2_height 17 = .ok (.iload_n 1, 1) := by decide +kernel
theorem dX2_height_18 : decode cX2_height 18 = .ok (.iload_n 2, 1) := by decide +kernel
theorem dX2_height_19 : decode cX2_height 19 = .ok (.if_icmp .ne 13, 3) := by decide +kernel
theorem dX2_height_22 : decode cX2_height 22 = .ok (.iload 4, 2) := by decide +kernel
theorem dX2_height_24 : decode cX2_height 24 = .ok (.aload_n 0, 1) := by decide +kernel
theorem dX2_height_25 : decode cX2_height 25 = .ok (.getfield 24, 3) := by decide +kernel
theorem dX2_height_28 : decode cX2_height 28 = .ok (.iadd, 1) := by decide +kernel
theorem dX2_height_29 : decode cX2_height 29 = .ok (.goto 5, 3) := by decide +kernel
theorem dX2_height_32 : decode cX2_height 32 = .ok (.iload 4, 2) := by decide +kernel
theorem dX2_height_34 : decode cX2_height 34 = .ok (.ireturn, 1) := by decide +kernel
theorem dX2_whoIn_0 : decode cX2_whoIn 0 = .ok (.iconst 0, 1) := by decide +kernel
theorem dX2_whoIn_1 : decode cX2_whoIn 1 = .ok (.istore_n 2, 1) := by decide +kernel
theorem dX2_whoIn_2 : decode cX2_whoIn 2 = .ok (.iconst 0, 1) := by decide +kernel
theorem dX2_whoIn_3 : decode cX2_whoIn 3 = .ok (.istore_n 3, 1) := by decide +kernel
theorem dX2_whoIn_4 : decode cX2_whoIn 4 = .ok (.iload_n 3, 1) := by decide +kernel
theorem dX2_whoIn_5 : decode cX2_whoIn 5 = .ok (.aload_n 0, 1) := by decide +kernel
theorem dX2_whoIn_6 : decode cX2_whoIn 6 = .ok (.getfield 18, 3) := by decide +kernel
theorem dX2_whoIn_9 : decode cX2_whoIn 9 = .ok (.if_icmp .ge 25, 3) := by decide +kernel
theorem dX2_whoIn_12 : decode cX2_whoIn 12 = .ok (.aload_n 0, 1) := by decide +kernel
theorem dX2_whoIn_13 : decode cX2_whoIn 13 = .ok (.getfield 43, 3) := by decide +kernel
theorem dX2_whoIn_16 : decode cX2_whoIn 16 = .ok (.iload_n 3, 1) := by decide +kernel
theorem dX2_whoIn_17 : decode cX2_whoIn 17 = .ok (.iaload, 1) := by decide +kernel
theorem dX2_whoIn_18 : decode cX2_whoIn 18 = .ok (.iload_n 1, 1) := by decide +kernel
theorem dX2_whoIn_19 : decode cX2_whoIn 19 = .ok (.if_icmp .ne 9, 3) := by decide +kernel
theorem dX2_whoIn_22 : decode cX2_whoIn 22 = .ok (.iload_n 2, 1) := by decide +kernel
theorem dX2_whoIn_23 : decode cX2_whoIn 23 = .ok (.iconst 1, 1) := by decide +kernel
theorem dX2_whoIn_24 : decode cX2_whoIn 24 = .ok (.iload_n 3, 1) := by decide +kernel
theorem dX2_whoIn_25 : decode cX2_whoIn 25 = .ok (.ishl, 1) := by decide +kernel
theorem dX2_whoIn_26 : decode cX2_whoIn 26 = .ok (.ior, 1) := by decide +kernel
theorem dX2_whoIn_27 : decode cX2_whoIn 27 = .ok (.istore_n 2, 1) := by decide +kernel
theorem dX2_whoIn_28 : decode cX2_whoIn 28 = .ok (.iinc 3 1, 3) := by decide +kernel
theorem dX2_whoIn_31 : decode cX2_whoIn 31 = .ok (.goto (-27), 3) := by decide +kernel
theorem dX2_whoIn_34 : decode cX2_whoIn 34 = .ok (.iload_n 2, 1) := by decide +kernel
theorem dX2_whoIn_35 : decode cX2_whoIn 35 = .ok (.ireturn, 1) := by decide +kernel
theorem dX2_arrangement_0 : decode cX2_arrangement 0 = .ok (.iconst 0, 1) := by decide +kernel
theorem dX2_arrangement_1 : decode cX2_arrangement 1 = .ok (.istore_n 1, 1) := by decide +kernel
theorem dX2_arrangement_2 : decode cX2_arrangement 2 = .ok (.iconst 0, 1) := by decide +kernel
theorem dX2_arrangement_3 : decode cX2_arrangement 3 = .ok (.istore_n 2, 1) := by decide +kernel
theorem dX2_arrangement_4 : decode cX2_arrangement 4 = .ok (.iload_n 2, 1) := by decide +kernel
theorem dX2_arrangement_5 : decode cX2_arrangement 5 = .ok (.aload_n 0, 1) := by decide +kernel
theorem dX2_arrangement_6 : decode cX2_arrangement 6 = .ok (.getfield 18, 3) := by decide +kernel
theorem dX2_arrangement_9 : decode cX2_arrangement 9 = .ok (.if_icmp .ge 22, 3) := by decide +kernel
theorem dX2_arrangement_12 : decode cX2_arrangement 12 = .ok (.iload_n 1, 1) := by decide +kernel
theorem dX2_arrangement_13 : decode cX2_arrangement 13 = .ok (.aload_n 0, 1) := by decide +kernel
theorem dX2_arrangement_14 : decode cX2_arrangement 14 = .ok (.getfield 43, 3) := by decide +kernel
theorem dX2_arrangement_17 : decode cX2_arrangement 17 = .ok (.iload_n 2, 1) := by decide +kernel
theorem dX2_arrangement_18 : decode cX2_arrangement 18 = .ok (.iaload, 1) := by decide +kernel
theorem dX2_arrangement_19 : decode cX2_arrangement 19 = .ok (.iconst 2, 1) := by decide +kernel
theorem dX2_arrangement_20 : decode cX2_arrangement 20 = .ok (.iload_n 2, 1) := by decide +kernel
theorem dX2_arrangement_21 : decode cX2_arrangement 21 = .ok (.imul, 1) := by decide +kernel
theorem dX2_arrangement_22 : decode cX2_arrangement 22 = .ok (.ishl, 1) := by decide +kernel
theorem dX2_arrangement_23 : decode cX2_arrangement 23 = .ok (.ior, 1) := by decide +kernel
theorem dX2_arrangement_24 : decode cX2_arrangement 24 = .ok (.istore_n 1, 1) := by decide +kernel
theorem dX2_arrangement_25 : decode cX2_arrangement 25 = .ok (.iinc 2 1, 3) := by decide +kernel
theorem dX2_arrangement_28 : decode cX2_arrangement 28 = .ok (.goto (-24), 3) := by decide +kernel
theorem dX2_arrangement_31 : decode cX2_arrangement 31 = .ok (.iload_n 1, 1) := by decide +kernel
theorem dX2_arrangement_32 : decode cX2_arrangement 32 = .ok (.ireturn, 1) := by decide +kernel
theorem dX2_number_0 : decode cX2_number 0 = .ok (.iload_n 2, 1) := by decide +kernel
theorem dX2_number_1 : decode cX2_number 1 = .ok (.tableswitch 101 0 3 #[31, 50, 69, 88], 31) := by decide +kernel
theorem dX2_number_32 : decode cX2_number 32 = .ok (.aload_n 0, 1) := by decide +kernel
theorem dX2_number_33 : decode cX2_number 33 = .ok (.iload_n 1, 1) := by decide +kernel
theorem dX2_number_34 : decode cX2_number 34 = .ok (.invokevirtual 54, 3) := by decide +kernel
theorem dX2_number_37 : decode cX2_number 37 = .ok (.ifCond .eq 12, 3) := by decide +kernel
theorem dX2_number_40 : decode cX2_number 40 = .ok (.aload_n 0, 1) := by decide +kernel
theorem dX2_number_41 : decode cX2_number 41 = .ok (.getfield 37, 3) := by decide +kernel
theorem dX2_number_44 : decode cX2_number 44 = .ok (.iload_n 1, 1) := by decide +kernel
theorem dX2_number_45 : decode cX2_number 45 = .ok (.iaload, 1) := by decide +kernel
theorem dX2_number_46 : decode cX2_number 46 = .ok (.goto 4, 3) := by decide +kernel
theorem dX2_number_49 : decode cX2_number 49 = .ok (.iconst (-1), 1) := by decide +kernel
theorem dX2_number_50 : decode cX2_number 50 = .ok (.ireturn, 1) := by decide +kernel
theorem dX2_number_51 : decode cX2_number 51 = .ok (.aload_n 0, 1) := by decide +kernel
theorem dX2_number_52 : decode cX2_number 52 = .ok (.iload_n 1, 1) := by decide +kernel
theorem dX2_number_53 : decode cX2_number 53 = .ok (.invokevirtual 54, 3) := by decide +kernel
theorem dX2_number_56 : decode cX2_number 56 = .ok (.ifCond .eq 12, 3) := by decide +kernel
theorem dX2_number_59 : decode cX2_number 59 = .ok (.aload_n 0, 1) := by decide +kernel
theorem dX2_number_60 : decode cX2_number 60 = .ok (.getfield 40, 3) := by decide +kernel
theorem dX2_number_63 : decode cX2_number 63 = .ok (.iload_n 1, 1) := by decide +kernel
theorem dX2_number_64 : decode cX2_number 64 = .ok (.iaload, 1) := by decide +kernel
theorem dX2_number_65 : decode cX2_number 65 = .ok (.goto 4, 3) := by decide +kernel
theorem dX2_number_68 : decode cX2_number 68 = .ok (.iconst (-1), 1) := by decide +kernel
theorem dX2_number_69 : decode cX2_number 69 = .ok (.ireturn, 1) := by decide +kernel
theorem dX2_number_70 : decode cX2_number 70 = .ok (.aload_n 0, 1) := by decide +kernel
theorem dX2_number_71 : decode cX2_number 71 = .ok (.iload_n 1, 1) := by decide +kernel
theorem dX2_number_72 : decode cX2_number 72 = .ok (.invokevirtual 57, 3) := by decide +kernel
theorem dX2_number_75 : decode cX2_number 75 = .ok (.ifCond .eq 12, 3) := by decide +kernel
theorem dX2_number_78 : decode cX2_number 78 = .ok (.aload_n 0, 1) := by decide +kernel
theorem dX2_number_79 : decode cX2_number 79 = .ok (.getfield 34, 3) := by decide +kernel
theorem dX2_number_82 : decode cX2_number 82 = .ok (.iload_n 1, 1) := by decide +kernel
theorem dX2_number_83 : decode cX2_number 83 = .ok (.iaload, 1) := by decide +kernel
theorem dX2_number_84 : decode cX2_number 84 = .ok (.goto 4, 3) := by decide +kernel
theorem dX2_number_87 : decode cX2_number 87 = .ok (.iconst (-1), 1) := by decide +kernel
theorem dX2_number_88 : decode cX2_number 88 = .ok (.ireturn, 1) := by decide +kernel
theorem dX2_number_89 : decode cX2_number 89 = .ok (.iload_n 1, 1) := by decide +kernel
theorem dX2_number_90 : decode cX2_number 90 = .ok (.ifCond .ne 10, 3) := by decide +kernel
theorem dX2_number_93 : decode cX2_number 93 = .ok (.aload_n 0, 1) := by decide +kernel
theorem dX2_number_94 : decode cX2_number 94 = .ok (.getfield 24, 3) := by decide +kernel
theorem dX2_number_97 : decode cX2_number 97 = .ok (.goto 4, 3) := by decide +kernel
theorem dX2_number_100 : decode cX2_number 100 = .ok (.iconst (-1), 1) := by decide +kernel
theorem dX2_number_101 : decode cX2_number 101 = .ok (.ireturn, 1) := by decide +kernel
theorem dX2_number_102 : decode cX2_number 102 = .ok (.iconst (-1), 1) := by decide +kernel
theorem dX2_number_103 : decode cX2_number 103 = .ok (.ireturn, 1) := by decide +kernel
theorem dX2_canBecome_0 : decode cX2_canBecome 0 = .ok (.iload_n 0, 1) := by decide +kernel
theorem dX2_canBecome_1 : decode cX2_canBecome 1 = .ok (.tableswitch 95 0 3 #[31, 48, 64, 79], 31) := by decide +kernel
theorem dX2_canBecome_32 : decode cX2_canBecome 32 = .ok (.iload_n 1, 1) := by decide +kernel
theorem dX2_canBecome_33 : decode cX2_canBecome 33 = .ok (.iconst 1, 1) := by decide +kernel
theorem dX2_canBecome_34 : decode cX2_canBecome 34 = .ok (.if_icmp .lt 13, 3) := by decide +kernel
theorem dX2_canBecome_37 : decode cX2_canBecome 37 = .ok (.iload_n 1, 1) := by decide +kernel
theorem dX2_canBecome_38 : decode cX2_canBecome 38 = .ok (.bipush 99, 2) := by decide +kernel
theorem dX2_canBecome_40 : decode cX2_canBecome 40 = .ok (.if_icmp .gt 7, 3) := by decide +kernel
theorem dX2_canBecome_43 : decode cX2_canBecome 43 = .ok (.iconst 1, 1) := by decide +kernel
theorem dX2_canBecome_44 : decode cX2_canBecome 44 = .ok (.goto 4, 3) := by decide +kernel
theorem dX2_canBecome_47 : decode cX2_canBecome 47 = .ok (.iconst 0, 1) := by decide +kernel
theorem dX2_canBecome_48 : decode cX2_canBecome 48 = .ok (.ireturn, 1) := by decide +kernel
theorem dX2_canBecome_49 : decode cX2_canBecome 49 = .ok (.iload_n 1, 1) := by decide +kernel
theorem dX2_canBecome_50 : decode cX2_canBecome 50 = .ok (.ifCond .lt 13, 3) := by decide +kernel
theorem dX2_canBecome_53 : decode cX2_canBecome 53 = .ok (.iload_n 1, 1) := by decide +kernel
theorem dX2_canBecome_54 : decode cX2_canBecome 54 = .ok (.bipush 9, 2) := by decide +kernel
theorem dX2_canBecome_56 : decode cX2_canBecome 56 = .ok (.if_icmp .gt 7, 3) := by decide +kernel
theorem dX2_canBecome_59 : decode cX2_canBecome 59 = .ok (.iconst 1, 1) := by decide +kernel
theorem dX2_canBecome_60 : decode cX2_canBecome 60 = .ok (.goto 4, 3) := by decide +kernel
theorem dX2_canBecome_63 : decode cX2_canBecome 63 = .ok (.iconst 0, 1) := by decide +kernel
theorem dX2_canBecome_64 : decode cX2_canBecome 64 = .ok (.ireturn, 1) := by decide +kernel
theorem dX2_canBecome_65 : decode cX2_canBecome 65 = .ok (.iload_n 1, 1) := by decide +kernel
theorem dX2_canBecome_66 : decode cX2_canBecome 66 = .ok (.ifCond .lt 12, 3) := by decide +kernel
theorem dX2_canBecome_69 : decode cX2_canBecome 69 = .ok (.iload_n 1, 1) := by decide +kernel
theorem dX2_canBecome_70 : decode cX2_canBecome 70 = .ok (.iconst 3, 1) := by decide +kernel
theorem dX2_canBecome_71 : decode cX2_canBecome 71 = .ok (.if_icmp .ge 7, 3) := by decide +kernel
theorem dX2_canBecome_74 : decode cX2_canBecome 74 = .ok (.iconst 1, 1) := by decide +kernel
theorem dX2_canBecome_75 : decode cX2_canBecome 75 = .ok (.goto 4, 3) := by decide +kernel
theorem dX2_canBecome_78 : decode cX2_canBecome 78 = .ok (.iconst 0, 1) := by decide +kernel
theorem dX2_canBecome_79 : decode cX2_canBecome 79 = .ok (.ireturn, 1) := by decide +kernel
theorem dX2_canBecome_80 : decode cX2_canBecome 80 = .ok (.iload_n 1, 1) := by decide +kernel
theorem dX2_canBecome_81 : decode cX2_canBecome 81 = .ok (.ifCond .lt 13, 3) := by decide +kernel
theorem dX2_canBecome_84 : decode cX2_canBecome 84 = .ok (.iload_n 1, 1) := by decide +kernel
theorem dX2_canBecome_85 : decode cX2_canBecome 85 = .ok (.bipush 20, 2) := by decide +kernel
theorem dX2_canBecome_87 : decode cX2_canBecome 87 = .ok (.if_icmp .gt 7, 3) := by decide +kernel
theorem dX2_canBecome_90 : decode cX2_canBecome 90 = .ok (.iconst 1, 1) := by decide +kernel
theorem dX2_canBecome_91 : decode cX2_canBecome 91 = .ok (.goto 4, 3) := by decide +kernel
theorem dX2_canBecome_94 : decode cX2_canBecome 94 = .ok (.iconst 0, 1) := by decide +kernel
theorem dX2_canBecome_95 : decode cX2_canBecome 95 = .ok (.ireturn, 1) := by decide +kernel
theorem dX2_canBecome_96 : decode cX2_canBecome 96 = .ok (.iconst 0, 1) := by decide +kernel
theorem dX2_canBecome_97 : decode cX2_canBecome 97 = .ok (.ireturn, 1) := by decide +kernel
theorem dX2_setNumber_0 : decode cX2_setNumber 0 = .ok (.iload_n 2, 1) := by decide +kernel
theorem dX2_setNumber_1 : decode cX2_setNumber 1 = .ok (.ifCond .ne 21, 3) := by decide +kernel
theorem dX2_setNumber_4 : decode cX2_setNumber 4 = .ok (.aload_n 0, 1) := by decide +kernel
theorem dX2_setNumber_5 : decode cX2_setNumber 5 = .ok (.iload_n 1, 1) := by decide +kernel
theorem dX2_setNumber_6 : decode cX2_setNumber 6 = .ok (.invokevirtual 54, 3) := by decide +kernel
theorem dX2_setNumber_9 : decode cX2_setNumber 9 = .ok (.ifCond .eq 13, 3) := by decide +kernel
theorem dX2_setNumber_12 : decode cX2_setNumber 12 = .ok (.aload_n 0, 1) := by decide +kernel
theorem dX2_setNumber_13 : decode cX2_setNumber 13 = .ok (.getfield 37, 3) := by decide +kernel
theorem dX2_setNumber_16 : decode cX2_setNumber 16 = .ok (.iload_n 1, 1) := by decide +kernel
theorem dX2_setNumber_17 : decode cX2_setNumber 17 = .ok (.iload_n 3, 1) := by decide +kernel
theorem dX2_setNumber_18 : decode cX2_setNumber 18 = .ok (.iastore, 1) := by decide +kernel
theorem dX2_setNumber_19 : decode cX2_setNumber 19 = .ok (.goto 59, 3) := by decide +kernel
theorem dX2_setNumber_22 : decode cX2_setNumber 22 = .ok (.iload_n 2, 1) := by decide +kernel
theorem dX2_setNumber_23 : decode cX2_setNumber 23 = .ok (.iconst 1, 1) := by decide +kernel
theorem dX2_setNumber_24 : decode cX2_setNumber 24 = .ok (.if_icmp .ne 21, 3) := by decide +kernel
theorem dX2_setNumber_27 : decode cX2_setNumber 27 = .ok (.aload_n 0, 1) := by decide +kernel
theorem dX2_setNumber_28 : decode cX2_setNumber 28 = .ok (.iload_n 1, 1) := by decide +kernel
theorem dX2_setNumber_29 : decode cX2_setNumber 29 = .ok (.invokevirtual 54, 3) := by decide +kernel
theorem dX2_setNumber_32 : decode cX2_setNumber 32 = .ok (.ifCond .eq 13, 3) := by decide +kernel
theorem dX2_setNumber_35 : decode cX2_setNumber 35 = .ok (.aload_n 0, 1) := by decide +kernel
theorem dX2_setNumber_36 : decode cX2_setNumber 36 = .ok (.getfield 40, 3) := by decide +kernel
theorem dX2_setNumber_39 : decode cX2_setNumber 39 = .ok (.iload_n 1, 1) := by decide +kernel
theorem dX2_setNumber_40 : decode cX2_setNumber 40 = .ok (.iload_n 3, 1) := by decide +kernel
theorem dX2_setNumber_41 : decode cX2_setNumber 41 = .ok (.iastore, 1) := by decide +kernel
theorem dX2_setNumber_42 : decode cX2_setNumber 42 = .ok (.goto 36, 3) := by decide +kernel
theorem dX2_setNumber_45 : decode cX2_setNumber 45 = .ok (.iload_n 2, 1) := by decide +kernel
theorem dX2_setNumber_46 : decode cX2_setNumber 46 = .ok (.iconst 2, 1) := by decide +kernel
theorem dX2_setNumber_47 : decode cX2_setNumber 47 = .ok (.if_icmp .ne 21, 3) := by decide +kernel
theorem dX2_setNumber_50 : decode cX2_setNumber 50 = .ok (.aload_n 0, 1) := by decide +kernel
theorem dX2_setNumber_51 : decode cX2_setNumber 51 = .ok (.iload_n 1, 1) := by decide +kernel
theorem dX2_setNumber_52 : decode cX2_setNumber 52 = .ok (.invokevirtual 57, 3) := by decide +kernel
theorem dX2_setNumber_55 : decode cX2_setNumber 55 = .ok (.ifCond .eq 13, 3) := by decide +kernel
theorem dX2_setNumber_58 : decode cX2_setNumber 58 = .ok (.aload_n 0, 1) := by decide +kernel
theorem dX2_setNumber_59 : decode cX2_setNumber 59 = .ok (.getfield 34, 3) := by decide +kernel
theorem dX2_setNumber_62 : decode cX2_setNumber 62 = .ok (.iload_n 1, 1) := by decide +kernel
theorem dX2_setNumber_63 : decode cX2_setNumber 63 = .ok (.iload_n 3, 1) := by decide +kernel
theorem dX2_setNumber_64 : decode cX2_setNumber 64 = .ok (.iastore, 1) := by decide +kernel
theorem dX2_setNumber_65 : decode cX2_setNumber 65 = .ok (.goto 13, 3) := by decide +kernel
theorem dX2_setNumber_68 : decode cX2_setNumber 68 = .ok (.iload_n 2, 1) := by decide +kernel
theorem dX2_setNumber_69 : decode cX2_setNumber 69 = .ok (.iconst 3, 1) := by decide +kernel
theorem dX2_setNumber_70 : decode cX2_setNumber 70 = .ok (.if_icmp .ne 8, 3) := by decide +kernel
theorem dX2_setNumber_73 : decode cX2_setNumber 73 = .ok (.aload_n 0, 1) := by decide +kernel
theorem dX2_setNumber_74 : decode cX2_setNumber 74 = .ok (.iload_n 3, 1) := by decide +kernel
theorem dX2_setNumber_75 : decode cX2_setNumber 75 = .ok (.putfield 24, 3) := by decide +kernel
theorem dX2_setNumber_78 : decode cX2_setNumber 78 = .ok (.return_, 1) := by decide +kernel
theorem dX3_init_0 : decode cX3_init 0 = .ok (.aload_n 0, 1) := by decide +kernel
theorem dX3_init_1 : decode cX3_init 1 = .ok (.invokespecial 3, 3) := by decide +kernel
theorem dX3_init_4 : decode cX3_init 4 = .ok (.aload_n 0, 1) := by decide +kernel
theorem dX3_init_5 : decode cX3_init 5 = .ok (.bipush 7, 2) := by decide +kernel
theorem dX3_init_7 : decode cX3_init 7 = .ok (.newarray .int, 2) := by decide +kernel
theorem dX3_init_9 : decode cX3_init 9 = .ok (.putfield 9, 3) := by decide +kernel
theorem dX3_init_12 : decode cX3_init 12 = .ok (.aload_n 0, 1) := by decide +kernel
theorem dX3_init_13 : decode cX3_init 13 = .ok (.iconst 0, 1) := by decide +kernel
theorem dX3_init_14 : decode cX3_init 14 = .ok (.putfield 15, 3) := by decide +kernel
theorem dX3_init_17 : decode cX3_init 17 = .ok (.aload_n 0, 1) := by decide +kernel
theorem dX3_init_18 : decode cX3_init 18 = .ok (.iconst (-1), 1) := by decide +kernel
theorem dX3_init_19 : decode cX3_init 19 = .ok (.putfield 19, 3) := by decide +kernel
theorem dX3_init_22 : decode cX3_init 22 = .ok (.aload_n 0, 1) := by decide +kernel
theorem dX3_init_23 : decode cX3_init 23 = .ok (.iconst 0, 1) := by decide +kernel
theorem dX3_init_24 : decode cX3_init 24 = .ok (.putfield 22, 3) := by decide +kernel
theorem dX3_init_27 : decode cX3_init 27 = .ok (.return_, 1) := by decide +kernel
theorem dX3_take_0 : decode cX3_take 0 = .ok (.iconst 0, 1) := by decide +kernel
theorem dX3_take_1 : decode cX3_take 1 = .ok (.istore_n 2, 1) := by decide +kernel
theorem dX3_take_2 : decode cX3_take 2 = .ok (.iload_n 2, 1) := by decide +kernel
theorem dX3_take_3 : decode cX3_take 3 = .ok (.aload_n 1, 1) := by decide +kernel
theorem dX3_take_4 : decode cX3_take 4 = .ok (.getfield 26, 3) := by decide +kernel
theorem dX3_take_7 : decode cX3_take 7 = .ok (.if_icmp .ge 21, 3) := by decide +kernel
theorem dX3_take_10 : decode cX3_take 10 = .ok (.aload_n 0, 1) := by decide +kernel
theorem dX3_take_11 : decode cX3_take 11 = .ok (.getfield 9, 3) := by decide +kernel
theorem dX3_take_14 : decode cX3_take 14 = .ok (.iload_n 2, 1) := by decide +kernel
theorem dX3_take_15 : decode cX3_take 15 = .ok (.aload_n 1, 1) := by decide +kernel
theorem dX3_take_16 : decode cX3_take 16 = .ok (.getfield 31, 3) := by decide +kernel
theorem dX3_take_19 : decode cX3_take 19 = .ok (.iload_n 2, 1) := by decide +kernel
theorem dX3_take_20 : decode cX3_take 20 = .ok (.iaload, 1) := by decide +kernel
theorem dX3_take_21 : decode cX3_take 21 = .ok (.iastore, 1) := by decide +kernel
theorem dX3_take_22 : decode cX3_take 22 = .ok (.iinc 2 1, 3) := by decide +kernel
theorem dX3_take_25 : decode cX3_take 25 = .ok (.goto (-23), 3) := by decide +kernel
theorem dX3_take_28 : decode cX3_take 28 = .ok (.aload_n 0, 1) := by decide +kernel
theorem dX3_take_29 : decode cX3_take 29 = .ok (.aload_n 1, 1) := by decide +kernel
theorem dX3_take_30 : decode cX3_take 30 = .ok (.getfield 26, 3) := by decide +kernel
theorem dX3_take_33 : decode cX3_take 33 = .ok (.putfield 15, 3) := by decide +kernel
theorem dX3_take_36 : decode cX3_take 36 = .ok (.aload_n 0, 1) := by decide +kernel
theorem dX3_take_37 : decode cX3_take 37 = .ok (.aload_n 1, 1) := by decide +kernel
theorem dX3_take_38 : decode cX3_take 38 = .ok (.getfield 32, 3) := by decide +kernel
theorem dX3_take_41 : decode cX3_take 41 = .ok (.putfield 19, 3) := by decide +kernel
theorem dX3_take_44 : decode cX3_take 44 = .ok (.aload_n 0, 1) := by decide +kernel
theorem dX3_take_45 : decode cX3_take 45 = .ok (.iconst 1, 1) := by decide +kernel
theorem dX3_take_46 : decode cX3_take 46 = .ok (.putfield 22, 3) := by decide +kernel
theorem dX3_take_49 : decode cX3_take 49 = .ok (.aload_n 0, 1) := by decide +kernel
theorem dX3_take_50 : decode cX3_take 50 = .ok (.getfield 15, 3) := by decide +kernel
theorem dX3_take_53 : decode cX3_take 53 = .ok (.ireturn, 1) := by decide +kernel
theorem dX3_layBack_0 : decode cX3_layBack 0 = .ok (.aload_n 0, 1) := by decide +kernel
theorem dX3_layBack_1 : decode cX3_layBack 1 = .ok (.getfield 22, 3) := by decide +kernel
theorem dX3_layBack_4 : decode cX3_layBack 4 = .ok (.ifCond .ne 6, 3) := by decide +kernel
theorem dX3_layBack_7 : decode cX3_layBack 7 = .ok (.bipush (-5), 2) := by decide +kernel
theorem dX3_layBack_9 : decode cX3_layBack 9 = .ok (.ireturn, 1) := by decide +kernel
theorem dX3_layBack_10 : decode cX3_layBack 10 = .ok (.iconst 0, 1) := by decide +kernel
theorem dX3_layBack_11 : decode cX3_layBack 11 = .ok (.istore_n 2, 1) := by decide +kernel
theorem dX3_layBack_12 : decode cX3_layBack 12 = .ok (.iload_n 2, 1) := by decide +kernel
theorem dX3_layBack_13 : decode cX3_layBack 13 = .ok (.aload_n 0, 1) := by decide +kernel
theorem dX3_layBack_14 : decode cX3_layBack 14 = .ok (.getfield 15, 3) := by decide +kernel
theorem dX3_layBack_17 : decode cX3_layBack 17 = .ok (.if_icmp .ge 21, 3) := by decide +kernel
theorem dX3_layBack_20 : decode cX3_layBack 20 = .ok (.aload_n 1, 1) := by decide +kernel
theorem dX3_layBack_21 : decode cX3_layBack 21 = .ok (.getfield 31, 3) := by decide +kernel
theorem dX3_layBack_24 : decode cX3_layBack 24 = .ok (.iload_n 2, 1) := by decide +kernel
theorem dX3_layBack_25 : decode cX3_layBack 25 = .ok (.aload_n 0, 1) := by decide +kernel
theorem dX3_layBack_26 : decode cX3_layBack 26 = .ok (.getfield 9, 3) := by decide +kernel
theorem dX3_layBack_29 : decode cX3_layBack 29 = .ok (.iload_n 2, 1) := by decide +kernel
theorem dX3_layBack_30 : decode cX3_layBack 30 = .ok (.iaload, 1) := by decide +kernel
theorem dX3_layBack_31 : decode cX3_layBack 31 = .ok (.iastore, 1) := by decide +kernel
theorem dX3_layBack_32 : decode cX3_layBack 32 = .ok (.iinc 2 1, 3) := by decide +kernel
theorem dX3_layBack_35 : decode cX3_layBack 35 = .ok (.goto (-23), 3) := by decide +kernel
theorem dX3_layBack_38 : decode cX3_layBack 38 = .ok (.aload_n 1, 1) := by decide +kernel
theorem dX3_layBack_39 : decode cX3_layBack 39 = .ok (.aload_n 0, 1) := by decide +kernel
theorem dX3_layBack_40 : decode cX3_layBack 40 = .ok (.getfield 19, 3) := by decide +kernel
theorem dX3_layBack_43 : decode cX3_layBack 43 = .ok (.putfield 32, 3) := by decide +kernel
theorem dX3_layBack_46 : decode cX3_layBack 46 = .ok (.aload_n 0, 1) := by decide +kernel
theorem dX3_layBack_47 : decode cX3_layBack 47 = .ok (.getfield 15, 3) := by decide +kernel
theorem dX3_layBack_50 : decode cX3_layBack 50 = .ok (.ireturn, 1) := by decide +kernel
theorem dX4_init_0 : decode cX4_init 0 = .ok (.aload_n 0, 1) := by decide +kernel
theorem dX4_init_1 : decode cX4_init 1 = .ok (.invokespecial 1, 3) := by decide +kernel
theorem dX4_init_4 : decode cX4_init 4 = .ok (.aload_n 0, 1) := by decide +kernel
theorem dX4_init_5 : decode cX4_init 5 = .ok (.bipush 121, 2) := by decide +kernel
theorem dX4_init_7 : decode cX4_init 7 = .ok (.newarray .int, 2) := by decide +kernel
theorem dX4_init_9 : decode cX4_init 9 = .ok (.putfield 9, 3) := by decide +kernel
theorem dX4_init_12 : decode cX4_init 12 = .ok (.aload_n 0, 1) := by decide +kernel
theorem dX4_init_13 : decode cX4_init 13 = .ok (.iconst 0, 1) := by decide +kernel
theorem dX4_init_14 : decode cX4_init 14 = .ok (.putfield 15, 3) := by decide +kernel
theorem dX4_init_17 : decode cX4_init 17 = .ok (.aload_n 0, 1) := by decide +kernel
theorem dX4_init_18 : decode cX4_init 18 = .ok (.bipush 121, 2) := by decide +kernel
theorem dX4_init_20 : decode cX4_init 20 = .ok (.newarray .int, 2) := by decide +kernel
theorem dX4_init_22 : decode cX4_init 22 = .ok (.putfield 19, 3) := by decide +kernel
theorem dX4_init_25 : decode cX4_init 25 = .ok (.aload_n 0, 1) := by decide +kernel
theorem dX4_init_26 : decode cX4_init 26 = .ok (.iconst 0, 1) := by decide +kernel
theorem dX4_init_27 : decode cX4_init 27 = .ok (.putfield 22, 3) := by decide +kernel
theorem dX4_init_30 : decode cX4_init 30 = .ok (.return_, 1) := by decide +kernel
theorem dX4_becomes_0 : decode cX4_becomes 0 = .ok (.aload_n 0, 1) := by decide +kernel
theorem dX4_becomes_1 : decode cX4_becomes 1 = .ok (.iload_n 2, 1) := by decide +kernel
theorem dX4_becomes_2 : decode cX4_becomes 2 = .ok (.aload_n 0, 1) := by decide +kernel
theorem dX4_becomes_3 : decode cX4_becomes 3 = .ok (.getfield 9, 3) := by decide +kernel
theorem dX4_becomes_6 : decode cX4_becomes 6 = .ok (.arraylength, 1) := by decide +kernel
theorem dX4_becomes_7 : decode cX4_becomes 7 = .ok (.if_icmp .le 11, 3) := by decide +kernel
theorem dX4_becomes_10 : decode cX4_becomes 10 = .ok (.aload_n 0, 1) := by decide +kernel
theorem dX4_becomes_11 : decode cX4_becomes 11 = .ok (.getfield 9, 3) := by decide +kernel
theorem dX4_becomes_14 : decode cX4_becomes 14 = .ok (.arraylength, 1) := by decide +kernel
theorem dX4_becomes_15 : decode cX4_becomes 15 = .ok (.goto 4, 3) := by decide +kernel
theorem dX4_becomes_18 : decode cX4_becomes 18 = .ok (.iload_n 2, 1) := by decide +kernel
theorem dX4_becomes_19 : decode cX4_becomes 19 = .ok (.putfield 15, 3) := by decide +kernel
theorem dX4_becomes_22 : decode cX4_becomes 22 = .ok (.iconst 0, 1) := by decide +kernel
theorem dX4_becomes_23 : decode cX4_becomes 23 = .ok (.istore_n 3, 1) := by decide +kernel
theorem dX4_becomes_24 : decode cX4_becomes 24 = .ok (.iload_n 3, 1) := by decide +kernel
theorem dX4_becomes_25 : decode cX4_becomes 25 = .ok (.aload_n 0, 1) := by decide +kernel
theorem dX4_becomes_26 : decode cX4_becomes 26 = .ok (.getfield 15, 3) := by decide +kernel
theorem dX4_becomes_29 : decode cX4_becomes 29 = .ok (.if_icmp .ge 24, 3) := by decide +kernel
theorem dX4_becomes_32 : decode cX4_becomes 32 = .ok (.iload_n 3, 1) := by decide +kernel
theorem dX4_becomes_33 : decode cX4_becomes 33 = .ok (.aload_n 1, 1) := by decide +kernel
theorem dX4_becomes_34 : decode cX4_becomes 34 = .ok (.arraylength, 1) := by decide +kernel
theorem dX4_becomes_35 : decode cX4_becomes 35 = .ok (.if_icmp .ge 18, 3) := by decide +kernel
theorem dX4_becomes_38 : decode cX4_becomes 38 = .ok (.aload_n 0, 1) := by decide +kernel
theorem dX4_becomes_39 : decode cX4_becomes 39 = .ok (.getfield 9, 3) := by decide +kernel
theorem dX4_becomes_42 : decode cX4_becomes 42 = .ok (.iload_n 3, 1) := by decide +kernel
theorem dX4_becomes_43 : decode cX4_becomes 43 = .ok (.aload_n 1, 1) := by decide +kernel
theorem dX4_becomes_44 : decode cX4_becomes 44 = .ok (.iload_n 3, 1) := by decide +kernel
theorem dX4_becomes_45 : decode cX4_becomes 45 = .ok (.iaload, 1) := by decide +kernel
theorem dX4_becomes_46 : decode cX4_becomes 46 = .ok (.iastore, 1) := by decide +kernel
theorem dX4_becomes_47 : decode cX4_becomes 47 = .ok (.iinc 3 1, 3) := by decide +kernel
theorem dX4_becomes_50 : decode cX4_becomes 50 = .ok (.goto (-26), 3) := by decide +kernel
theorem dX4_becomes_53 : decode cX4_becomes 53 = .ok (.return_, 1) := by decide +kernel
theorem dX4_isTold_0 : decode cX4_isTold 0 = .ok (.aload_n 0, 1) := by decide +kernel
theorem dX4_isTold_1 : decode cX4_isTold 1 = .ok (.getfield 15, 3) := by decide +kernel
theorem dX4_isTold_4 : decode cX4_isTold 4 = .ok (.ifCond .le 7, 3) := by decide +kernel
theorem dX4_isTold_7 : decode cX4_isTold 7 = .ok (.iconst 1, 1) := by decide +kernel
theorem dX4_isTold_8 : decode cX4_isTold 8 = .ok (.goto 4, 3) := by decide +kernel
theorem dX4_isTold_11 : decode cX4_isTold 11 = .ok (.iconst 0, 1) := by decide +kernel
theorem dX4_isTold_12 : decode cX4_isTold 12 = .ok (.ireturn, 1) := by decide +kernel
theorem dX4_value_0 : decode cX4_value 0 = .ok (.aload_n 0, 1) := by decide +kernel
theorem dX4_value_1 : decode cX4_value 1 = .ok (.iconst 0, 1) := by decide +kernel
theorem dX4_value_2 : decode cX4_value 2 = .ok (.putfield 22, 3) := by decide +kernel
theorem dX4_value_5 : decode cX4_value 5 = .ok (.iconst 0, 1) := by decide +kernel
theorem dX4_value_6 : decode cX4_value 6 = .ok (.istore 7, 2) := by decide +kernel
theorem dX4_value_8 : decode cX4_value 8 = .ok (.iload 7, 2) := by decide +kernel
theorem dX4_value_10 : decode cX4_value 10 = .ok (.aload_n 0, 1) := by decide +kernel
theorem dX4_value_11 : decode cX4_value 11 = .ok (.getfield 15, 3) := by decide +kernel
theorem dX4_value_14 : decode cX4_value 14 = .ok (.if_icmp .ge 176, 3) := by decide +kernel
theorem dX4_value_17 : decode cX4_value 17 = .ok (.aload_n 0, 1) := by decide +kernel
theorem dX4_value_18 : decode cX4_value 18 = .ok (.getfield 9, 3) := by decide +kernel
theorem dX4_value_21 : decode cX4_value 21 = .ok (.iload 7, 2) := by decide +kernel
theorem dX4_value_23 : decode cX4_value 23 = .ok (.iaload, 1) := by decide +kernel
theorem dX4_value_24 : decode cX4_value 24 = .ok (.istore 8, 2) := by decide +kernel
theorem dX4_value_26 : decode cX4_value 26 = .ok (.iload 8, 2) := by decide +kernel
theorem dX4_value_28 : decode cX4_value 28 = .ok (.ineg, 1) := by decide +kernel
theorem dX4_value_29 : decode cX4_value 29 = .ok (.lookupswitch 149 #[(59, 126), (63, 131), (97, 75), (98, 83), (100, 91), (105, 108), (106, 117), (107, 99)], 75) := by decide +kernel
theorem dX4_value_104 : decode cX4_value 104 = .ok (.aload_n 0, 1) := by decide +kernel
theorem dX4_value_105 : decode cX4_value 105 = .ok (.iload_n 1, 1) := by decide +kernel
theorem dX4_value_106 : decode cX4_value 106 = .ok (.invokevirtual 25, 3) := by decide +kernel
theorem dX4_value_109 : decode cX4_value 109 = .ok (.goto 75, 3) := by decide +kernel
theorem dX4_value_112 : decode cX4_value 112 = .ok (.aload_n 0, 1) := by decide +kernel
theorem dX4_value_113 : decode cX4_value 113 = .ok (.iload_n 2, 1) := by decide +kernel
theorem dX4_value_114 : decode cX4_value 114 = .ok (.invokevirtual 25, 3) := by decide +kernel
theorem dX4_value_117 : decode cX4_value 117 = .ok (.goto 67, 3) := by decide +kernel
theorem dX4_value_120 : decode cX4_value 120 = .ok (.aload_n 0, 1) := by decide +kernel
theorem dX4_value_121 : decode cX4_value 121 = .ok (.iload_n 3, 1) := by decide +kernel
theorem dX4_value_122 : decode cX4_value 122 = .ok (.invokevirtual 25, 3) := by decide +kernel
theorem dX4_value_125 : decode cX4_value 125 = .ok (.goto 59, 3) := by decide +kernel
theorem dX4_value_128 : decode cX4_value 128 = .ok (.aload_n 0, 1) := by decide +kernel
theorem dX4_value_129 : decode cX4_value 129 = .ok (.iload 4, 2) := by decide +kernel
theorem dX4_value_131 : decode cX4_value 131 = .ok (.invokevirtual 25, 3) := by decide +kernel
theorem dX4_value_134 : decode cX4_value 134 = .ok (.goto 50, 3) := by decide +kernel
theorem dX4_value_137 : decode cX4_value 137 = .ok (.aload_n 0, 1) := by decide +kernel
theorem dX4_value_138 : decode cX4_value 138 = .ok (.iload 5, 2) := by decide +kernel
theorem dX4_value_140 : decode cX4_value 140 = .ok (.invokevirtual 25, 3) := by decide +kernel
theorem dX4_value_143 : decode cX4_value 143 = .ok (.goto 41, 3) := by decide +kernel
theorem dX4_value_146 : decode cX4_value 146 = .ok (.aload_n 0, 1) := by decide +kernel
theorem dX4_value_147 : decode cX4_value 147 = .ok (.iload 6, 2) := by decide +kernel
theorem dX4_value_149 : decode cX4_value 149 = .ok (.invokevirtual 25, 3) := by decide +kernel
theorem dX4_value_152 : decode cX4_value 152 = .ok (.goto 32, 3) := by decide +kernel
theorem dX4_value_155 : decode cX4_value 155 = .ok (.aload_n 0, 1) := by decide +kernel
theorem dX4_value_156 : decode cX4_value 156 = .ok (.invokevirtual 29, 3) := by decide +kernel
theorem dX4_value_159 : decode cX4_value 159 = .ok (.ireturn, 1) := by decide +kernel
theorem dX4_value_160 : decode cX4_value 160 = .ok (.aload_n 0, 1) := by decide +kernel
theorem dX4_value_161 : decode cX4_value 161 = .ok (.invokevirtual 29, 3) := by decide +kernel
theorem dX4_value_164 : decode cX4_value 164 = .ok (.ifCond .ne 20, 3) := by decide +kernel
theorem dX4_value_167 : decode cX4_value 167 = .ok (.aload_n 0, 1) := by decide +kernel
theorem dX4_value_168 : decode cX4_value 168 = .ok (.iload 7, 2) := by decide +kernel
theorem dX4_value_170 : decode cX4_value 170 = .ok (.invokevirtual 33, 3) := by decide +kernel
theorem dX4_value_173 : decode cX4_value 173 = .ok (.istore 7, 2) := by decide +kernel
theorem dX4_value_175 : decode cX4_value 175 = .ok (.goto 9, 3) := by decide +kernel
theorem dX4_value_178 : decode cX4_value 178 = .ok (.aload_n 0, 1) := by decide +kernel
theorem dX4_value_179 : decode cX4_value 179 = .ok (.iload 8, 2) := by decide +kernel
theorem dX4_value_181 : decode cX4_value 181 = .ok (.invokevirtual 37, 3) := by decide +kernel
theorem dX4_value_184 : decode cX4_value 184 = .ok (.iinc 7 1, 3) := by decide +kernel
theorem dX4_value_187 : decode cX4_value 187 = .ok (.goto (-179), 3) := by decide +kernel
theorem dX4_value_190 : decode cX4_value 190 = .ok (.iconst 0, 1) := by decide +kernel
theorem dX4_value_191 : decode cX4_value 191 = .ok (.ireturn, 1) := by decide +kernel
theorem dX4_endOfLine_0 : decode cX4_endOfLine 0 = .ok (.iload_n 1, 1) := by decide +kernel
theorem dX4_endOfLine_1 : decode cX4_endOfLine 1 = .ok (.istore_n 2, 1) := by decide +kernel
theorem dX4_endOfLine_2 : decode cX4_endOfLine 2 = .ok (.iload_n 2, 1) := by decide +kernel
theorem dX4_endOfLine_3 : decode cX4_endOfLine 3 = .ok (.aload_n 0, 1) := by decide +kernel
theorem dX4_endOfLine_4 : decode cX4_endOfLine 4 = .ok (.getfield 15, 3) := by decide +kernel
theorem dX4_endOfLine_7 : decode cX4_endOfLine 7 = .ok (.if_icmp .ge 20, 3) := by decide +kernel
theorem dX4_endOfLine_10 : decode cX4_endOfLine 10 = .ok (.aload_n 0, 1) := by decide +kernel
theorem dX4_endOfLine_11 : decode cX4_endOfLine 11 = .ok (.getfield 9, 3) := by decide +kernel
theorem dX4_endOfLine_14 : decode cX4_endOfLine 14 = .ok (.iload_n 2, 1) := by decide +kernel
theorem dX4_endOfLine_15 : decode cX4_endOfLine 15 = .ok (.iaload, 1) := by decide +kernel
theorem dX4_endOfLine_16 : decode cX4_endOfLine 16 = .ok (.bipush (-59), 2) := by decide +kernel
theorem dX4_endOfLine_18 : decode cX4_endOfLine 18 = .ok (.if_icmp .eq 9, 3) := by decide +kernel
theorem dX4_endOfLine_21 : decode cX4_endOfLine 21 = .ok (.iinc 2 1, 3) := by decide +kernel
theorem dX4_endOfLine_24 : decode cX4_endOfLine 24 = .ok (.goto (-22), 3) := by decide +kernel
theorem dX4_endOfLine_27 : decode cX4_endOfLine 27 = .ok (.iload_n 2, 1) := by decide +kernel
theorem dX4_endOfLine_28 : decode cX4_endOfLine 28 = .ok (.ireturn, 1) := by decide +kernel
theorem dX4_work_0 : decode cX4_work 0 = .ok (.iload_n 1, 1) := by decide +kernel
theorem dX4_work_1 : decode cX4_work 1 = .ok (.ifCond .lt 11, 3) := by decide +kernel
theorem dX4_work_4 : decode cX4_work 4 = .ok (.aload_n 0, 1) := by decide +kernel
theorem dX4_work_5 : decode cX4_work 5 = .ok (.iload_n 1, 1) := by decide +kernel
theorem dX4_work_6 : decode cX4_work 6 = .ok (.invokevirtual 25, 3) := by decide +kernel
theorem dX4_work_9 : decode cX4_work 9 = .ok (.goto 67, 3) := by decide +kernel
theorem dX4_work_12 : decode cX4_work 12 = .ok (.iload_n 1, 1) := by decide +kernel
theorem dX4_work_13 : decode cX4_work 13 = .ok (.bipush (-126), 2) := by decide +kernel
theorem dX4_work_15 : decode cX4_work 15 = .ok (.if_icmp .ne 15, 3) := by decide +kernel
theorem dX4_work_18 : decode cX4_work 18 = .ok (.aload_n 0, 1) := by decide +kernel
theorem dX4_work_19 : decode cX4_work 19 = .ok (.aload_n 0, 1) := by decide +kernel
theorem dX4_work_20 : decode cX4_work 20 = .ok (.invokevirtual 29, 3) := by decide +kernel
theorem dX4_work_23 : decode cX4_work 23 = .ok (.ineg, 1) := by decide +kernel
theorem dX4_work_24 : decode cX4_work 24 = .ok (.invokevirtual 25, 3) := by decide +kernel
theorem dX4_work_27 : decode cX4_work 27 = .ok (.goto 49, 3) := by decide +kernel
theorem dX4_work_30 : decode cX4_work 30 = .ok (.iload_n 1, 1) := by decide +kernel
theorem dX4_work_31 : decode cX4_work 31 = .ok (.bipush (-33), 2) := by decide +kernel
theorem dX4_work_33 : decode cX4_work 33 = .ok (.if_icmp .ne 22, 3) := by decide +kernel
theorem dX4_work_36 : decode cX4_work 36 = .ok (.aload_n 0, 1) := by decide +kernel
theorem dX4_work_37 : decode cX4_work 37 = .ok (.aload_n 0, 1) := by decide +kernel
theorem dX4_work_38 : decode cX4_work 38 = .ok (.invokevirtual 29, 3) := by decide +kernel
theorem dX4_work_41 : decode cX4_work 41 = .ok (.ifCond .ne 7, 3) := by decide +kernel
theorem dX4_work_44 : decode cX4_work 44 = .ok (.iconst 1, 1) := by decide +kernel
theorem dX4_work_45 : decode cX4_work 45 = .ok (.goto 4, 3) := by decide +kernel
theorem dX4_work_48 : decode cX4_work 48 = .ok (.iconst 0, 1) := by decide +kernel
theorem dX4_work_49 : decode cX4_work 49 = .ok (.invokevirtual 25, 3) := by decide +kernel
theorem dX4_work_52 : decode cX4_work 52 = .ok (.goto 24, 3) := by decide +kernel
theorem dX4_work_55 : decode cX4_work 55 = .ok (.aload_n 0, 1) := by decide +kernel
theorem dX4_work_56 : decode cX4_work 56 = .ok (.invokevirtual 29, 3) := by decide +kernel
theorem dX4_work_59 : decode cX4_work 59 = .ok (.istore_n 2, 1) := by decide +kernel
theorem dX4_work_60 : decode cX4_work 60 = .ok (.aload_n 0, 1) := by decide +kernel
theorem dX4_work_61 : decode cX4_work 61 = .ok (.invokevirtual 29, 3) := by decide +kernel
theorem dX4_work_64 : decode cX4_work 64 = .ok (.istore_n 3, 1) := by decide +kernel
theorem dX4_work_65 : decode cX4_work 65 = .ok (.aload_n 0, 1) := by decide +kernel
theorem dX4_work_66 : decode cX4_work 66 = .ok (.iload_n 1, 1) := by decide +kernel
theorem dX4_work_67 : decode cX4_work 67 = .ok (.ineg, 1) := by decide +kernel
theorem dX4_work_68 : decode cX4_work 68 = .ok (.iload_n 3, 1) := by decide +kernel
theorem dX4_work_69 : decode cX4_work 69 = .ok (.iload_n 2, 1) := by decide +kernel
theorem dX4_work_70 : decode cX4_work 70 = .ok (.invokestatic 40, 3) := by decide +kernel
theorem dX4_work_73 : decode cX4_work 73 = .ok (.invokevirtual 25, 3) := by decide +kernel
theorem dX4_work_76 : decode cX4_work 76 = .ok (.return_, 1) := by decide +kernel
theorem dX4_joined_0 : decode cX4_joined 0 = .ok (.iload_n 0, 1) := by decide +kernel
theorem dX4_joined_1 : decode cX4_joined 1 = .ok (.lookupswitch 168 #[(38, 97), (42, 152), (43, 144), (45, 148), (47, 156), (60, 111), (61, 122), (62, 133), (124, 83)], 83) := by decide +kernel
theorem dX4_joined_84 : decode cX4_joined 84 = .ok (.iload_n 1, 1) := by decide +kernel
theorem dX4_joined_85 : decode cX4_joined 85 = .ok (.ifCond .ne 7, 3) := by decide +kernel
theorem dX4_joined_88 : decode cX4_joined 88 = .ok (.iload_n 2, 1) := by decide +kernel
theorem dX4_joined_89 : decode cX4_joined 89 = .ok (.ifCond .eq 7, 3) := by decide +kernel
theorem dX4_joined_92 : decode cX4_joined 92 = .ok (.iconst 1, 1) := by decide +kernel
theorem dX4_joined_93 : decode cX4_joined 93 = .ok (.goto 4, 3) := by decide +kernel
theorem dX4_joined_96 : decode cX4_joined 96 = .ok (.iconst 0, 1) := by decide +kernel
theorem dX4_joined_97 : decode cX4_joined 97 = .ok (.ireturn, 1) := by decide +kernel
theorem dX4_joined_98 : decode cX4_joined 98 = .ok (.iload_n 1, 1) := by decide +kernel
theorem dX4_joined_99 : decode cX4_joined 99 = .ok (.ifCond .eq 11, 3) := by decide +kernel
theorem dX4_joined_102 : decode cX4_joined 102 = .ok (.iload_n 2, 1) := by decide +kernel
theorem dX4_joined_103 : decode cX4_joined 103 = .ok (.ifCond .eq 7, 3) := by decide +kernel
theorem dX4_joined_106 : decode cX4_joined 106 = .ok (.iconst 1, 1) := by decide +kernel
theorem dX4_joined_107 : decode cX4_joined 107 = .ok (.goto 4, 3) := by decide +kernel
theorem dX4_joined_110 : decode cX4_joined 110 = .ok (.iconst 0, 1) := by decide +kernel
theorem dX4_joined_111 : decode cX4_joined 111 = .ok (.ireturn, 1) := by decide +kernel
theorem dX4_joined_112 : decode cX4_joined 112 = .ok (.iload_n 1, 1) := by decide +kernel
theorem dX4_joined_113 : decode cX4_joined 113 = .ok (.iload_n 2, 1) := by decide +kernel
theorem dX4_joined_114 : decode cX4_joined 114 = .ok (.if_icmp .ge 7, 3) := by decide +kernel
theorem dX4_joined_117 : decode cX4_joined 117 = .ok (.iconst 1, 1) := by decide +kernel
theorem dX4_joined_118 : decode cX4_joined 118 = .ok (.goto 4, 3) := by decide +kernel
theorem dX4_joined_121 : decode cX4_joined 121 = .ok (.iconst 0, 1) := by decide +kernel
theorem dX4_joined_122 : decode cX4_joined 122 = .ok (.ireturn, 1) := by decide +kernel
theorem dX4_joined_123 : decode cX4_joined 123 = .ok (.iload_n 1, 1) := by decide +kernel
theorem dX4_joined_124 : decode cX4_joined 124 = .ok (.iload_n 2, 1) := by decide +kernel
theorem dX4_joined_125 : decode cX4_joined 125 = .ok (.if_icmp .ne 7, 3) := by decide +kernel
theorem dX4_joined_128 : decode cX4_joined 128 = .ok (.iconst 1, 1) := by decide +kernel
theorem dX4_joined_129 : decode cX4_joined 129 = .ok (.goto 4, 3) := by decide +kernel
theorem dX4_joined_132 : decode cX4_joined 132 = .ok (.iconst 0, 1) := by decide +kernel
theorem dX4_joined_133 : decode cX4_joined 133 = .ok (.ireturn, 1) := by decide +kernel
theorem dX4_joined_134 : decode cX4_joined 134 = .ok (.iload_n 1, 1) := by decide +kernel
theorem dX4_joined_135 : decode cX4_joined 135 = .ok (.iload_n 2, 1) := by decide +kernel
theorem dX4_joined_136 : decode cX4_joined 136 = .ok (.if_icmp .le 7, 3) := by decide +kernel
theorem dX4_joined_139 : decode cX4_joined 139 = .ok (.iconst 1, 1) := by decide +kernel
theorem dX4_joined_140 : decode cX4_joined 140 = .ok (.goto 4, 3) := by decide +kernel
theorem dX4_joined_143 : decode cX4_joined 143 = .ok (.iconst 0, 1) := by decide +kernel
theorem dX4_joined_144 : decode cX4_joined 144 = .ok (.ireturn, 1) := by decide +kernel
theorem dX4_joined_145 : decode cX4_joined 145 = .ok (.iload_n 1, 1) := by decide +kernel
theorem dX4_joined_146 : decode cX4_joined 146 = .ok (.iload_n 2, 1) := by decide +kernel
theorem dX4_joined_147 : decode cX4_joined 147 = .ok (.iadd, 1) := by decide +kernel
theorem dX4_joined_148 : decode cX4_joined 148 = .ok (.ireturn, 1) := by decide +kernel
theorem dX4_joined_149 : decode cX4_joined 149 = .ok (.iload_n 1, 1) := by decide +kernel
theorem dX4_joined_150 : decode cX4_joined 150 = .ok (.iload_n 2, 1) := by decide +kernel
theorem dX4_joined_151 : decode cX4_joined 151 = .ok (.isub, 1) := by decide +kernel
theorem dX4_joined_152 : decode cX4_joined 152 = .ok (.ireturn, 1) := by decide +kernel
theorem dX4_joined_153 : decode cX4_joined 153 = .ok (.iload_n 1, 1) := by decide +kernel
theorem dX4_joined_154 : decode cX4_joined 154 = .ok (.iload_n 2, 1) := by decide +kernel
theorem dX4_joined_155 : decode cX4_joined 155 = .ok (.imul, 1) := by decide +kernel
theorem dX4_joined_156 : decode cX4_joined 156 = .ok (.ireturn, 1) := by decide +kernel
theorem dX4_joined_157 : decode cX4_joined 157 = .ok (.iload_n 2, 1) := by decide +kernel
theorem dX4_joined_158 : decode cX4_joined 158 = .ok (.ifCond .ne 7, 3) := by decide +kernel
theorem dX4_joined_161 : decode cX4_joined 161 = .ok (.iconst 0, 1) := by decide +kernel
theorem dX4_joined_162 : decode cX4_joined 162 = .ok (.goto 6, 3) := by decide +kernel
theorem dX4_joined_165 : decode cX4_joined 165 = .ok (.iload_n 1, 1) := by decide +kernel
theorem dX4_joined_166 : decode cX4_joined 166 = .ok (.iload_n 2, 1) := by decide +kernel
theorem dX4_joined_167 : decode cX4_joined 167 = .ok (.idiv, 1) := by decide +kernel
theorem dX4_joined_168 : decode cX4_joined 168 = .ok (.ireturn, 1) := by decide +kernel
theorem dX4_joined_169 : decode cX4_joined 169 = .ok (.iload_n 2, 1) := by decide +kernel
theorem dX4_joined_170 : decode cX4_joined 170 = .ok (.ifCond .ne 7, 3) := by decide +kernel
theorem dX4_joined_173 : decode cX4_joined 173 = .ok (.iconst 0, 1) := by decide +kernel
theorem dX4_joined_174 : decode cX4_joined 174 = .ok (.goto 6, 3) := by decide +kernel
theorem dX4_joined_177 : decode cX4_joined 177 = .ok (.iload_n 1, 1) := by decide +kernel
theorem dX4_joined_178 : decode cX4_joined 178 = .ok (.iload_n 2, 1) := by decide +kernel
theorem dX4_joined_179 : decode cX4_joined 179 = .ok (.irem, 1) := by decide +kernel
theorem dX4_joined_180 : decode cX4_joined 180 = .ok (.ireturn, 1) := by decide +kernel
theorem dX4_push_0 : decode cX4_push 0 = .ok (.aload_n 0, 1) := by decide +kernel
theorem dX4_push_1 : decode cX4_push 1 = .ok (.getfield 22, 3) := by decide +kernel
theorem dX4_push_4 : decode cX4_push 4 = .ok (.aload_n 0, 1) := by decide +kernel
theorem dX4_push_5 : decode cX4_push 5 = .ok (.getfield 19, 3) := by decide +kernel
theorem dX4_push_8 : decode cX4_push 8 = .ok (.arraylength, 1) := by decide +kernel
theorem dX4_push_9 : decode cX4_push 9 = .ok (.if_icmp .ge 23, 3) := by decide +kernel
theorem dX4_push_12 : decode cX4_push 12 = .ok (.aload_n 0, 1) := by decide +kernel
theorem dX4_push_13 : decode cX4_push 13 = .ok (.getfield 19, 3) := by decide +kernel
theorem dX4_push_16 : decode cX4_push 16 = .ok (.aload_n 0, 1) := by decide +kernel
theorem dX4_push_17 : decode cX4_push 17 = .ok (.getfield 22, 3) := by decide +kernel
theorem dX4_push_20 : decode cX4_push 20 = .ok (.iload_n 1, 1) := by decide +kernel
theorem dX4_push_21 : decode cX4_push 21 = .ok (.iastore, 1) := by decide +kernel
theorem dX4_push_22 : decode cX4_push 22 = .ok (.aload_n 0, 1) := by decide +kernel
theorem dX4_push_23 : decode cX4_push 23 = .ok (.dup, 1) := by decide +kernel
theorem dX4_push_24 : decode cX4_push 24 = .ok (.getfield 22, 3) := by decide +kernel
theorem dX4_push_27 : decode cX4_push 27 = .ok (.iconst 1, 1) := by decide +kernel
theorem dX4_push_28 : decode cX4_push 28 = .ok (.iadd, 1) := by decide +kernel
theorem dX4_push_29 : decode cX4_push 29 = .ok (.putfield 22, 3) := by decide +kernel
theorem dX4_push_32 : decode cX4_push 32 = .ok (.return_, 1) := by decide +kernel
theorem dX4_pop_0 : decode cX4_pop 0 = .ok (.aload_n 0, 1) := by decide +kernel
theorem dX4_pop_1 : decode cX4_pop 1 = .ok (.getfield 22, 3) := by decide +kernel
theorem dX4_pop_4 : decode cX4_pop 4 = .ok (.ifCond .gt 5, 3) := by decide +kernel
theorem dX4_pop_7 : decode cX4_pop 7 = .ok (.iconst 0, 1) := by decide +kernel
theorem dX4_pop_8 : decode cX4_pop 8 = .ok (.ireturn, 1) := by decide +kernel
theorem dX4_pop_9 : decode cX4_pop 9 = .ok (.aload_n 0, 1) := by decide +kernel
theorem dX4_pop_10 : decode cX4_pop 10 = .ok (.dup, 1) := by decide +kernel
theorem dX4_pop_11 : decode cX4_pop 11 = .ok (.getfield 22, 3) := by decide +kernel
theorem dX4_pop_14 : decode cX4_pop 14 = .ok (.iconst 1, 1) := by decide +kernel
theorem dX4_pop_15 : decode cX4_pop 15 = .ok (.isub, 1) := by decide +kernel
theorem dX4_pop_16 : decode cX4_pop 16 = .ok (.putfield 22, 3) := by decide +kernel
theorem dX4_pop_19 : decode cX4_pop 19 = .ok (.aload_n 0, 1) := by decide +kernel
theorem dX4_pop_20 : decode cX4_pop 20 = .ok (.getfield 19, 3) := by decide +kernel
theorem dX4_pop_23 : decode cX4_pop 23 = .ok (.aload_n 0, 1) := by decide +kernel
theorem dX4_pop_24 : decode cX4_pop 24 = .ok (.getfield 22, 3) := by decide +kernel
theorem dX4_pop_27 : decode cX4_pop 27 = .ok (.iaload, 1) := by decide +kernel
theorem dX4_pop_28 : decode cX4_pop 28 = .ok (.ireturn, 1) := by decide +kernel
theorem dX5_init_0 : decode cX5_init 0 = .ok (.aload_n 0, 1) := by decide +kernel
theorem dX5_init_1 : decode cX5_init 1 = .ok (.invokespecial 1, 3) := by decide +kernel
theorem dX5_init_4 : decode cX5_init 4 = .ok (.aload_n 0, 1) := by decide +kernel
theorem dX5_init_5 : decode cX5_init 5 = .ok (.bipush 40, 2) := by decide +kernel
theorem dX5_init_7 : decode cX5_init 7 = .ok (.newarray .int, 2) := by decide +kernel
theorem dX5_init_9 : decode cX5_init 9 = .ok (.putfield 9, 3) := by decide +kernel
theorem dX5_init_12 : decode cX5_init 12 = .ok (.aload_n 0, 1) := by decide +kernel
theorem dX5_init_13 : decode cX5_init 13 = .ok (.bipush 40, 2) := by decide +kernel
theorem dX5_init_15 : decode cX5_init 15 = .ok (.newarray .int, 2) := by decide +kernel
theorem dX5_init_17 : decode cX5_init 17 = .ok (.putfield 13, 3) := by decide +kernel
theorem dX5_init_20 : decode cX5_init 20 = .ok (.aload_n 0, 1) := by decide +kernel
theorem dX5_init_21 : decode cX5_init 21 = .ok (.bipush 40, 2) := by decide +kernel
theorem dX5_init_23 : decode cX5_init 23 = .ok (.newarray .int, 2) := by decide +kernel
theorem dX5_init_25 : decode cX5_init 25 = .ok (.putfield 16, 3) := by decide +kernel
theorem dX5_init_28 : decode cX5_init 28 = .ok (.aload_n 0, 1) := by decide +kernel
theorem dX5_init_29 : decode cX5_init 29 = .ok (.bipush 40, 2) := by decide +kernel
theorem dX5_init_31 : decode cX5_init 31 = .ok (.newarray .int, 2) := by decide +kernel
theorem dX5_init_33 : decode cX5_init 33 = .ok (.putfield 19, 3) := by decide +kernel
theorem dX5_init_36 : decode cX5_init 36 = .ok (.aload_n 0, 1) := by decide +kernel
theorem dX5_init_37 : decode cX5_init 37 = .ok (.iconst 0, 1) := by decide +kernel
theorem dX5_init_38 : decode cX5_init 38 = .ok (.putfield 22, 3) := by decide +kernel
theorem dX5_init_41 : decode cX5_init 41 = .ok (.aload_n 0, 1) := by decide +kernel
theorem dX5_init_42 : decode cX5_init 42 = .ok (.iconst 0, 1) := by decide +kernel
theorem dX5_init_43 : decode cX5_init 43 = .ok (.putfield 26, 3) := by decide +kernel
theorem dX5_init_46 : decode cX5_init 46 = .ok (.return_, 1) := by decide +kernel
theorem dX5_write_0 : decode cX5_write 0 = .ok (.aload_n 0, 1) := by decide +kernel
theorem dX5_write_1 : decode cX5_write 1 = .ok (.getfield 22, 3) := by decide +kernel
theorem dX5_write_4 : decode cX5_write 4 = .ok (.bipush 40, 2) := by decide +kernel
theorem dX5_write_6 : decode cX5_write 6 = .ok (.if_icmp .lt 7, 3) := by decide +kernel
theorem dX5_write_9 : decode cX5_write 9 = .ok (.aload_n 0, 1) := by decide +kernel
theorem dX5_write_10 : decode cX5_write 10 = .ok (.invokevirtual 29, 3) := by decide +kernel
theorem dX5_write_13 : decode cX5_write 13 = .ok (.aload_n 0, 1) := by decide +kernel
theorem dX5_write_14 : decode cX5_write 14 = .ok (.getfield 9, 3) := by decide +kernel
theorem dX5_write_17 : decode cX5_write 17 = .ok (.aload_n 0, 1) := by decide +kernel
theorem dX5_write_18 : decode cX5_write 18 = .ok (.getfield 22, 3) := by decide +kernel
theorem dX5_write_21 : decode cX5_write 21 = .ok (.iload_n 1, 1) := by decide +kernel
theorem dX5_write_22 : decode cX5_write 22 = .ok (.iastore, 1) := by decide +kernel
theorem dX5_write_23 : decode cX5_write 23 = .ok (.aload_n 0, 1) := by decide +kernel
theorem dX5_write_24 : decode cX5_write 24 = .ok (.getfield 13, 3) := by decide +kernel
theorem dX5_write_27 : decode cX5_write 27 = .ok (.aload_n 0, 1) := by decide +kernel
theorem dX5_write_28 : decode cX5_write 28 = .ok (.getfield 22, 3) := by decide +kernel
theorem dX5_write_31 : decode cX5_write 31 = .ok (.iload_n 2, 1) := by decide +kernel
theorem dX5_write_32 : decode cX5_write 32 = .ok (.iastore, 1) := by decide +kernel
theorem dX5_write_33 : decode cX5_write 33 = .ok (.aload_n 0, 1) := by decide +kernel
theorem dX5_write_34 : decode cX5_write 34 = .ok (.getfield 16, 3) := by decide +kernel
theorem dX5_write_37 : decode cX5_write 37 = .ok (.aload_n 0, 1) := by decide +kernel
theorem dX5_write_38 : decode cX5_write 38 = .ok (.getfield 22, 3) := by decide +kernel
theorem dX5_write_41 : decode cX5_write 41 = .ok (.iload_n 3, 1) := by decide +kernel
theorem dX5_write_42 : decode cX5_write 42 = .ok (.iastore, 1) := by decide +kernel
theorem dX5_write_43 : decode cX5_write 43 = .ok (.aload_n 0, 1) := by decide +kernel
theorem dX5_write_44 : decode cX5_write 44 = .ok (.getfield 19, 3) := by decide +kernel
theorem dX5_write_47 : decode cX5_write 47 = .ok (.aload_n 0, 1) := by decide +kernel
theorem dX5_write_48 : decode cX5_write 48 = .ok (.getfield 22, 3) := by decide +kernel
theorem dX5_write_51 : decode cX5_write 51 = .ok (.iload 4, 2) := by decide +kernel
theorem dX5_write_53 : decode cX5_write 53 = .ok (.iastore, 1) := by decide +kernel
theorem dX5_write_54 : decode cX5_write 54 = .ok (.aload_n 0, 1) := by decide +kernel
theorem dX5_write_55 : decode cX5_write 55 = .ok (.dup, 1) := by decide +kernel
theorem dX5_write_56 : decode cX5_write 56 = .ok (.getfield 22, 3) := by decide +kernel
theorem dX5_write_59 : decode cX5_write 59 = .ok (.iconst 1, 1) := by decide +kernel
theorem dX5_write_60 : decode cX5_write 60 = .ok (.iadd, 1) := by decide +kernel
theorem dX5_write_61 : decode cX5_write 61 = .ok (.putfield 22, 3) := by decide +kernel
theorem dX5_write_64 : decode cX5_write 64 = .ok (.aload_n 0, 1) := by decide +kernel
theorem dX5_write_65 : decode cX5_write 65 = .ok (.iconst 0, 1) := by decide +kernel
theorem dX5_write_66 : decode cX5_write 66 = .ok (.putfield 26, 3) := by decide +kernel
theorem dX5_write_69 : decode cX5_write 69 = .ok (.return_, 1) := by decide +kernel
theorem dX5_forgetOldest_0 : decode cX5_forgetOldest 0 = .ok (.iconst 1, 1) := by decide +kernel
theorem dX5_forgetOldest_1 : decode cX5_forgetOldest 1 = .ok (.istore_n 1, 1) := by decide +kernel
theorem dX5_forgetOldest_2 : decode cX5_forgetOldest 2 = .ok (.iload_n 1, 1) := by decide +kernel
theorem dX5_forgetOldest_3 : decode cX5_forgetOldest 3 = .ok (.aload_n 0, 1) := by decide +kernel
theorem dX5_forgetOldest_4 : decode cX5_forgetOldest 4 = .ok (.getfield 22, 3) := by decide +kernel
theorem dX5_forgetOldest_7 : decode cX5_forgetOldest 7 = .ok (.if_icmp .ge 65, 3) := by decide +kernel
theorem dX5_forgetOldest_10 : decode cX5_forgetOldest 10 = .ok (.aload_n 0, 1) := by decide +kernel
theorem dX5_forgetOldest_11 : decode cX5_forgetOldest 11 = .ok (.getfield 9, 3) := by decide +kernel
theorem dX5_forgetOldest_14 : decode cX5_forgetOldest 14 = .ok (.iload_n 1, 1) := by decide +kernel
theorem dX5_forgetOldest_15 : decode cX5_forgetOldest 15 = .ok (.iconst 1, 1) := by decide +kernel
theorem dX5_forgetOldest_16 : decode cX5_forgetOldest 16 = .ok (.isub, 1) := by decide +kernel
theorem dX5_forgetOldest_17 : decode cX5_forgetOldest 17 = .ok (.aload_n 0, 1) := by decide +kernel
theorem dX5_forgetOldest_18 : decode cX5_forgetOldest 18 = .ok (.getfield 9, 3) := by decide +kernel
theorem dX5_forgetOldest_21 : decode cX5_forgetOldest 21 = .ok (.iload_n 1, 1) := by decide +kernel
theorem dX5_forgetOldest_22 : decode cX5_forgetOldest 22 = .ok (.iaload, 1) := by decide +kernel
theorem dX5_forgetOldest_23 : decode cX5_forgetOldest 23 = .ok (.iastore, 1) := by decide +kernel
theorem dX5_forgetOldest_24 : decode cX5_forgetOldest 24 = .ok (.aload_n 0, 1) := by decide +kernel
theorem dX5_forgetOldest_25 : decode cX5_forgetOldest 25 = .ok (.getfield 13, 3) := by decide +kernel
theorem dX5_forgetOldest_28 : decode cX5_forgetOldest 28 = .ok (.iload_n 1, 1) := by decide +kernel
theorem dX5_forgetOldest_29 : decode cX5_forgetOldest 29 = .ok (.iconst 1, 1) := by decide +kernel
theorem dX5_forgetOldest_30 : decode cX5_forgetOldest 30 = .ok (.isub, 1) := by decide +kernel
theorem dX5_forgetOldest_31 : decode cX5_forgetOldest 31 = .ok (.aload_n 0, 1) := by decide +kernel
theorem dX5_forgetOldest_32 : decode cX5_forgetOldest 32 = .ok (.getfield 13, 3) := by decide +kernel
theorem dX5_forgetOldest_35 : decode cX5_forgetOldest 35 = .ok (.iload_n 1, 1) := by decide +kernel
theorem dX5_forgetOldest_36 : decode cX5_forgetOldest 36 = .ok (.iaload, 1) := by decide +kernel
theorem dX5_forgetOldest_37 : decode cX5_forgetOldest 37 = .ok (.iastore, 1) := by decide +kernel
theorem dX5_forgetOldest_38 : decode cX5_forgetOldest 38 = .ok (.aload_n 0, 1) := by decide +kernel
theorem dX5_forgetOldest_39 : decode cX5_forgetOldest 39 = .ok (.getfield 16, 3) := by decide +kernel
theorem dX5_forgetOldest_42 : decode cX5_forgetOldest 42 = .ok (.iload_n 1, 1) := by decide +kernel
theorem dX5_forgetOldest_43 : decode cX5_forgetOldest 43 = .ok (.iconst 1, 1) := by decide +kernel
theorem dX5_forgetOldest_44 : decode cX5_forgetOldest 44 = .ok (.isub, 1) := by decide +kernel
theorem dX5_forgetOldest_45 : decode cX5_forgetOldest 45 = .ok (.aload_n 0, 1) := by decide +kernel
theorem dX5_forgetOldest_46 : decode cX5_forgetOldest 46 = .ok (.getfield 16, 3) := by decide +kernel
theorem dX5_forgetOldest_49 : decode cX5_forgetOldest 49 = .ok (.iload_n 1, 1) := by decide +kernel
theorem dX5_forgetOldest_50 : decode cX5_forgetOldest 50 = .ok (.iaload, 1) := by decide +kernel
theorem dX5_forgetOldest_51 : decode cX5_forgetOldest 51 = .ok (.iastore, 1) := by decide +kernel
theorem dX5_forgetOldest_52 : decode cX5_forgetOldest 52 = .ok (.aload_n 0, 1) := by decide +kernel
theorem dX5_forgetOldest_53 : decode cX5_forgetOldest 53 = .ok (.getfield 19, 3) := by decide +kernel
theorem dX5_forgetOldest_56 : decode cX5_forgetOldest 56 = .ok (.iload_n 1, 1) := by decide +kernel
theorem dX5_forgetOldest_57 : decode cX5_forgetOldest 57 = .ok (.iconst 1, 1) := by decide +kernel
theorem dX5_forgetOldest_58 : decode cX5_forgetOldest 58 = .ok (.isub, 1) := by decide +kernel
theorem dX5_forgetOldest_59 : decode cX5_forgetOldest 59 = .ok (.aload_n 0, 1) := by decide +kernel
theorem dX5_forgetOldest_60 : decode cX5_forgetOldest 60 = .ok (.getfield 19, 3) := by decide +kernel
theorem dX5_forgetOldest_63 : decode cX5_forgetOldest 63 = .ok (.iload_n 1, 1) := by decide +kernel
theorem dX5_forgetOldest_64 : decode cX5_forgetOldest 64 = .ok (.iaload, 1) := by decide +kernel
theorem dX5_forgetOldest_65 : decode cX5_forgetOldest 65 = .ok (.iastore, 1) := by decide +kernel
theorem dX5_forgetOldest_66 : decode cX5_forgetOldest 66 = .ok (.iinc 1 1, 3) := by decide +kernel
theorem dX5_forgetOldest_69 : decode cX5_forgetOldest 69 = .ok (.goto (-67), 3) := by decide +kernel
theorem dX5_forgetOldest_72 : decode cX5_forgetOldest 72 = .ok (.aload_n 0, 1) := by decide +kernel
theorem dX5_forgetOldest_73 : decode cX5_forgetOldest 73 = .ok (.dup, 1) := by decide +kernel
theorem dX5_forgetOldest_74 : decode cX5_forgetOldest 74 = .ok (.getfield 22, 3) := by decide +kernel
theorem dX5_forgetOldest_77 : decode cX5_forgetOldest 77 = .ok (.iconst 1, 1) := by decide +kernel
theorem dX5_forgetOldest_78 : decode cX5_forgetOldest 78 = .ok (.isub, 1) := by decide +kernel
theorem dX5_forgetOldest_79 : decode cX5_forgetOldest 79 = .ok (.putfield 22, 3) := by decide +kernel
theorem dX5_forgetOldest_82 : decode cX5_forgetOldest 82 = .ok (.return_, 1) := by decide +kernel
theorem dX5_takeBack_0 : decode cX5_takeBack 0 = .ok (.aload_n 0, 1) := by decide +kernel
theorem dX5_takeBack_1 : decode cX5_takeBack 1 = .ok (.getfield 22, 3) := by decide +kernel
theorem dX5_takeBack_4 : decode cX5_takeBack 4 = .ok (.ifCond .le 54, 3) := by decide +kernel
theorem dX5_takeBack_7 : decode cX5_takeBack 7 = .ok (.aload_n 0, 1) := by decide +kernel
theorem dX5_takeBack_8 : decode cX5_takeBack 8 = .ok (.dup, 1) := by decide +kernel
theorem dX5_takeBack_9 : decode cX5_takeBack 9 = .ok (.getfield 22, 3) := by decide +kernel
theorem dX5_takeBack_12 : decode cX5_takeBack 12 = .ok (.iconst 1, 1) := by decide +kernel
theorem dX5_takeBack_13 : decode cX5_takeBack 13 = .ok (.isub, 1) := by decide +kernel
theorem dX5_takeBack_14 : decode cX5_takeBack 14 = .ok (.putfield 22, 3) := by decide +kernel
theorem dX5_takeBack_17 : decode cX5_takeBack 17 = .ok (.aload_n 0, 1) := by decide +kernel
theorem dX5_takeBack_18 : decode cX5_takeBack 18 = .ok (.dup, 1) := by decide +kernel
theorem dX5_takeBack_19 : decode cX5_takeBack 19 = .ok (.getfield 26, 3) := by decide +kernel
theorem dX5_takeBack_22 : decode cX5_takeBack 22 = .ok (.iconst 1, 1) := by decide +kernel
theorem dX5_takeBack_23 : decode cX5_takeBack 23 = .ok (.iadd, 1) := by decide +kernel
theorem dX5_takeBack_24 : decode cX5_takeBack 24 = .ok (.putfield 26, 3) := by decide +kernel
theorem dX5_takeBack_27 : decode cX5_takeBack 27 = .ok (.aload_n 1, 1) := by decide +kernel
theorem dX5_takeBack_28 : decode cX5_takeBack 28 = .ok (.aload_n 0, 1) := by decide +kernel
theorem dX5_takeBack_29 : decode cX5_takeBack 29 = .ok (.getfield 9, 3) := by decide +kernel
theorem dX5_takeBack_32 : decode cX5_takeBack 32 = .ok (.aload_n 0, 1) := by decide +kernel
theorem dX5_takeBack_33 : decode cX5_takeBack 33 = .ok (.getfield 22, 3) := by decide +kernel
theorem dX5_takeBack_36 : decode cX5_takeBack 36 = .ok (.iaload, 1) := by decide +kernel
theorem dX5_takeBack_37 : decode cX5_takeBack 37 = .ok (.aload_n 0, 1) := by decide +kernel
theorem dX5_takeBack_38 : decode cX5_takeBack 38 = .ok (.getfield 13, 3) := by decide +kernel
theorem dX5_takeBack_41 : decode cX5_takeBack 41 = .ok (.aload_n 0, 1) := by decide +kernel
theorem dX5_takeBack_42 : decode cX5_takeBack 42 = .ok (.getfield 22, 3) := by decide +kernel
theorem dX5_takeBack_45 : decode cX5_takeBack 45 = .ok (.iaload, 1) := by decide +kernel
theorem dX5_takeBack_46 : decode cX5_takeBack 46 = .ok (.aload_n 0, 1) := by decide +kernel
theorem dX5_takeBack_47 : decode cX5_takeBack 47 = .ok (.getfield 16, 3) := by decide +kernel
theorem dX5_takeBack_50 : decode cX5_takeBack 50 = .ok (.aload_n 0, 1) := by decide +kernel
theorem dX5_takeBack_51 : decode cX5_takeBack 51 = .ok (.getfield 22, 3) := by decide +kernel
theorem dX5_takeBack_54 : decode cX5_takeBack 54 = .ok (.iaload, 1) := by decide +kernel
theorem dX5_takeBack_55 : decode cX5_takeBack 55 = .ok (.invokevirtual 32, 3) := by decide +kernel
theorem dX5_takeBack_58 : decode cX5_takeBack 58 = .ok (.return_, 1) := by decide +kernel
theorem dX5_doAgain_0 : decode cX5_doAgain 0 = .ok (.aload_n 0, 1) := by decide +kernel
theorem dX5_doAgain_1 : decode cX5_doAgain 1 = .ok (.getfield 26, 3) := by decide +kernel
theorem dX5_doAgain_4 : decode cX5_doAgain 4 = .ok (.ifCond .le 63, 3) := by decide +kernel
theorem dX5_doAgain_7 : decode cX5_doAgain 7 = .ok (.aload_n 0, 1) := by decide +kernel
theorem dX5_doAgain_8 : decode cX5_doAgain 8 = .ok (.getfield 22, 3) := by decide +kernel
theorem dX5_doAgain_11 : decode cX5_doAgain 11 = .ok (.bipush 40, 2) := by decide +kernel
theorem dX5_doAgain_13 : decode cX5_doAgain 13 = .ok (.if_icmp .ge 54, 3) := by decide +kernel
theorem dX5_doAgain_16 : decode cX5_doAgain 16 = .ok (.aload_n 1, 1) := by decide +kernel
theorem dX5_doAgain_17 : decode cX5_doAgain 17 = .ok (.aload_n 0, 1) := by decide +kernel
theorem dX5_doAgain_18 : decode cX5_doAgain 18 = .ok (.getfield 9, 3) := by decide +kernel
theorem dX5_doAgain_21 : decode cX5_doAgain 21 = .ok (.aload_n 0, 1) := by decide +kernel
theorem dX5_doAgain_22 : decode cX5_doAgain 22 = .ok (.getfield 22, 3) := by decide +kernel
theorem dX5_doAgain_25 : decode cX5_doAgain 25 = .ok (.iaload, 1) := by decide +kernel
theorem dX5_doAgain_26 : decode cX5_doAgain 26 = .ok (.aload_n 0, 1) := by decide +kernel
theorem dX5_doAgain_27 : decode cX5_doAgain 27 = .ok (.getfield 13, 3) := by decide +kernel
theorem dX5_doAgain_30 : decode cX5_doAgain 30 = .ok (.aload_n 0, 1) := by decide +kernel
theorem dX5_doAgain_31 : decode cX5_doAgain 31 = .ok (.getfield 22, 3) := by decide +kernel
theorem dX5_doAgain_34 : decode cX5_doAgain 34 = .ok (.iaload, 1) := by decide +kernel
theorem dX5_doAgain_35 : decode cX5_doAgain 35 = .ok (.aload_n 0, 1) := by decide +kernel
theorem dX5_doAgain_36 : decode cX5_doAgain 36 = .ok (.getfield 19, 3) := by decide +kernel
theorem dX5_doAgain_39 : decode cX5_doAgain 39 = .ok (.aload_n 0, 1) := by decide +kernel
theorem dX5_doAgain_40 : decode cX5_doAgain 40 = .ok (.getfield 22, 3) := by decide +kernel
theorem dX5_doAgain_43 : decode cX5_doAgain 43 = .ok (.iaload, 1) := by decide +kernel
theorem dX5_doAgain_44 : decode cX5_doAgain 44 = .ok (.invokevirtual 32, 3) := by decide +kernel
theorem dX5_doAgain_47 : decode cX5_doAgain 47 = .ok (.aload_n 0, 1) := by decide +kernel
theorem dX5_doAgain_48 : decode cX5_doAgain 48 = .ok (.dup, 1) := by decide +kernel
theorem dX5_doAgain_49 : decode cX5_doAgain 49 = .ok (.getfield 22, 3) := by decide +kernel
theorem dX5_doAgain_52 : decode cX5_doAgain 52 = .ok (.iconst 1, 1) := by decide +kernel
theorem dX5_doAgain_53 : decode cX5_doAgain 53 = .ok (.iadd, 1) := by decide +kernel
theorem dX5_doAgain_54 : decode cX5_doAgain 54 = .ok (.putfield 22, 3) := by decide +kernel
theorem dX5_doAgain_57 : decode cX5_doAgain 57 = .ok (.aload_n 0, 1) := by decide +kernel
theorem dX5_doAgain_58 : decode cX5_doAgain 58 = .ok (.dup, 1) := by decide +kernel
theorem dX5_doAgain_59 : decode cX5_doAgain 59 = .ok (.getfield 26, 3) := by decide +kernel
theorem dX5_doAgain_62 : decode cX5_doAgain 62 = .ok (.iconst 1, 1) := by decide +kernel
theorem dX5_doAgain_63 : decode cX5_doAgain 63 = .ok (.isub, 1) := by decide +kernel
theorem dX5_doAgain_64 : decode cX5_doAgain 64 = .ok (.putfield 26, 3) := by decide +kernel
theorem dX5_doAgain_67 : decode cX5_doAgain 67 = .ok (.return_, 1) := by decide +kernel
theorem dX6_init_0 : decode cX6_init 0 = .ok (.aload_n 0, 1) := by decide +kernel
theorem dX6_init_1 : decode cX6_init 1 = .ok (.invokespecial 3, 3) := by decide +kernel
theorem dX6_init_4 : decode cX6_init 4 = .ok (.aload_n 0, 1) := by decide +kernel
theorem dX6_init_5 : decode cX6_init 5 = .ok (.iconst 5, 1) := by decide +kernel
theorem dX6_init_6 : decode cX6_init 6 = .ok (.newarray .int, 2) := by decide +kernel
theorem dX6_init_8 : decode cX6_init 8 = .ok (.putfield 9, 3) := by decide +kernel
theorem dX6_init_11 : decode cX6_init 11 = .ok (.aload_n 0, 1) := by decide +kernel
theorem dX6_init_12 : decode cX6_init 12 = .ok (.iconst 5, 1) := by decide +kernel
theorem dX6_init_13 : decode cX6_init 13 = .ok (.newarray .int, 2) := by decide +kernel
theorem dX6_init_15 : decode cX6_init 15 = .ok (.putfield 15, 3) := by decide +kernel
theorem dX6_init_18 : decode cX6_init 18 = .ok (.aload_n 0, 1) := by decide +kernel
theorem dX6_init_19 : decode cX6_init 19 = .ok (.bipush 7, 2) := by decide +kernel
theorem dX6_init_21 : decode cX6_init 21 = .ok (.newarray .int, 2) := by decide +kernel
theorem dX6_init_23 : decode cX6_init 23 = .ok (.putfield 18, 3) := by decide +kernel
theorem dX6_init_26 : decode cX6_init 26 = .ok (.aload_n 0, 1) := by decide +kernel
theorem dX6_init_27 : decode cX6_init 27 = .ok (.bipush 35, 2) := by decide +kernel
theorem dX6_init_29 : decode cX6_init 29 = .ok (.newarray .int, 2) := by decide +kernel
theorem dX6_init_31 : decode cX6_init 31 = .ok (.putfield 21, 3) := by decide +kernel
theorem dX6_init_34 : decode cX6_init 34 = .ok (.aload_n 0, 1) := by decide +kernel
theorem dX6_init_35 : decode cX6_init 35 = .ok (.aload_n 1, 1) := by decide +kernel
theorem dX6_init_36 : decode cX6_init 36 = .ok (.putfield 24, 3) := by decide +kernel
theorem dX6_init_39 : decode cX6_init 39 = .ok (.aload_n 0, 1) := by decide +kernel
theorem dX6_init_40 : decode cX6_init 40 = .ok (.aload_n 2, 1) := by decide +kernel
theorem dX6_init_41 : decode cX6_init 41 = .ok (.putfield 28, 3) := by decide +kernel
theorem dX6_init_44 : decode cX6_init 44 = .ok (.return_, 1) := by decide +kernel
theorem dX6_look_0 : decode cX6_look 0 = .ok (.iconst 0, 1) := by decide +kernel
theorem dX6_look_1 : decode cX6_look 1 = .ok (.istore 4, 2) := by decide +kernel
theorem dX6_look_3 : decode cX6_look 3 = .ok (.iload 4, 2) := by decide +kernel
theorem dX6_look_5 : decode cX6_look 5 = .ok (.aload_n 0, 1) := by decide +kernel
theorem dX6_look_6 : decode cX6_look 6 = .ok (.getfield 24, 3) := by decide +kernel
theorem dX6_look_9 : decode cX6_look 9 = .ok (.getfield 32, 3) := by decide +kernel
theorem dX6_look_12 : decode cX6_look 12 = .ok (.if_icmp .ge 27, 3) := by decide +kernel
theorem dX6_look_15 : decode cX6_look 15 = .ok (.aload_n 0, 1) := by decide +kernel
theorem dX6_look_16 : decode cX6_look 16 = .ok (.getfield 18, 3) := by decide +kernel
theorem dX6_look_19 : decode cX6_look 19 = .ok (.iload 4, 2) := by decide +kernel
theorem dX6_look_21 : decode cX6_look 21 = .ok (.aload_n 0, 1) := by decide +kernel
theorem dX6_look_22 : decode cX6_look 22 = .ok (.getfield 24, 3) := by decide +kernel
theorem dX6_look_25 : decode cX6_look 25 = .ok (.iload 4, 2) := by decide +kernel
theorem dX6_look_27 : decode cX6_look 27 = .ok (.iload_n 2, 1) := by decide +kernel
theorem dX6_look_28 : decode cX6_look 28 = .ok (.iload_n 1, 1) := by decide +kernel
theorem dX6_look_29 : decode cX6_look 29 = .ok (.invokevirtual 38, 3) := by decide +kernel
theorem dX6_look_32 : decode cX6_look 32 = .ok (.iastore, 1) := by decide +kernel
theorem dX6_look_33 : decode cX6_look 33 = .ok (.iinc 4 1, 3) := by decide +kernel
theorem dX6_look_36 : decode cX6_look 36 = .ok (.goto (-33), 3) := by decide +kernel
theorem dX6_look_39 : decode cX6_look 39 = .ok (.iconst 0, 1) := by decide +kernel
theorem dX6_look_40 : decode cX6_look 40 = .ok (.istore 4, 2) := by decide +kernel
theorem dX6_look_42 : decode cX6_look 42 = .ok (.iload 4, 2) := by decide +kernel
theorem dX6_look_44 : decode cX6_look 44 = .ok (.aload_n 0, 1) := by decide +kernel
theorem dX6_look_45 : decode cX6_look 45 = .ok (.getfield 24, 3) := by decide +kernel
theorem dX6_look_48 : decode cX6_look 48 = .ok (.getfield 41, 3) := by decide +kernel
theorem dX6_look_51 : decode cX6_look 51 = .ok (.if_icmp .ge 95, 3) := by decide +kernel
theorem dX6_look_54 : decode cX6_look 54 = .ok (.iload_n 3, 1) := by decide +kernel
theorem dX6_look_55 : decode cX6_look 55 = .ok (.iload 4, 2) := by decide +kernel
theorem dX6_look_57 : decode cX6_look 57 = .ok (.ishr, 1) := by decide +kernel
theorem dX6_look_58 : decode cX6_look 58 = .ok (.iconst 1, 1) := by decide +kernel
theorem dX6_look_59 : decode cX6_look 59 = .ok (.iand, 1) := by decide +kernel
theorem dX6_look_60 : decode cX6_look 60 = .ok (.ifCond .eq 7, 3) := by decide +kernel
theorem dX6_look_63 : decode cX6_look 63 = .ok (.iconst 1, 1) := by decide +kernel
theorem dX6_look_64 : decode cX6_look 64 = .ok (.goto 4, 3) := by decide +kernel
theorem dX6_look_67 : decode cX6_look 67 = .ok (.iconst 0, 1) := by decide +kernel
theorem dX6_look_68 : decode cX6_look 68 = .ok (.istore 5, 2) := by decide +kernel
theorem dX6_look_70 : decode cX6_look 70 = .ok (.aload_n 0, 1) := by decide +kernel
theorem dX6_look_71 : decode cX6_look 71 = .ok (.getfield 9, 3) := by decide +kernel
theorem dX6_look_74 : decode cX6_look 74 = .ok (.iload 4, 2) := by decide +kernel
theorem dX6_look_76 : decode cX6_look 76 = .ok (.iload 5, 2) := by decide +kernel
theorem dX6_look_78 : decode cX6_look 78 = .ok (.ifCond .eq 16, 3) := by decide +kernel
theorem dX6_look_81 : decode cX6_look 81 = .ok (.aload_n 0, 1) := by decide +kernel
theorem dX6_look_82 : decode cX6_look 82 = .ok (.getfield 24, 3) := by decide +kernel
theorem dX6_look_85 : decode cX6_look 85 = .ok (.getfield 44, 3) := by decide +kernel
theorem dX6_look_88 : decode cX6_look 88 = .ok (.iload 4, 2) := by decide +kernel
theorem dX6_look_90 : decode cX6_look 90 = .ok (.iaload, 1) := by decide +kernel
theorem dX6_look_91 : decode cX6_look 91 = .ok (.goto 13, 3) := by decide +kernel
theorem dX6_look_94 : decode cX6_look 94 = .ok (.aload_n 0, 1) := by decide +kernel
theorem dX6_look_95 : decode cX6_look 95 = .ok (.getfield 24, 3) := by decide +kernel
theorem dX6_look_98 : decode cX6_look 98 = .ok (.getfield 45, 3) := by decide +kernel
theorem dX6_look_101 : decode cX6_look 101 = .ok (.iload 4, 2) := by decide +kernel
theorem dX6_look_103 : decode cX6_look 103 = .ok (.iaload, 1) := by decide +kernel
theorem dX6_look_104 : decode cX6_look 104 = .ok (.iastore, 1) := by decide +kernel
theorem dX6_look_105 : decode cX6_look 105 = .ok (.aload_n 0, 1) := by decide +kernel
theorem dX6_look_106 : decode cX6_look 106 = .ok (.getfield 15, 3) := by decide +kernel
theorem dX6_look_109 : decode cX6_look 109 = .ok (.iload 4, 2) := by decide +kernel
theorem dX6_look_111 : decode cX6_look 111 = .ok (.iload 5, 2) := by decide +kernel
theorem dX6_look_113 : decode cX6_look 113 = .ok (.ifCond .eq 16, 3) := by decide +kernel
theorem dX6_look_116 : decode cX6_look 116 = .ok (.aload_n 0, 1) := by decide +kernel
theorem dX6_look_117 : decode cX6_look 117 = .ok (.getfield 24, 3) := by decide +kernel
theorem dX6_look_120 : decode cX6_look 120 = .ok (.getfield 45, 3) := by decide +kernel
theorem dX6_look_123 : decode cX6_look 123 = .ok (.iload 4, 2) := by decide +kernel
theorem dX6_look_125 : decode cX6_look 125 = .ok (.iaload, 1) := by decide +kernel
theorem dX6_look_126 : decode cX6_look 126 = .ok (.goto 13, 3) := by decide +kernel
theorem dX6_look_129 : decode cX6_look 129 = .ok (.aload_n 0, 1) := by decide +kernel
theorem dX6_look_130 : decode cX6_look 130 = .ok (.getfield 24, 3) := by decide +kernel
theorem dX6_look_133 : decode cX6_look 133 = .ok (.getfield 44, 3) := by decide +kernel
theorem dX6_look_136 : decode cX6_look 136 = .ok (.iload 4, 2) := by decide +kernel
theorem dX6_look_138 : decode cX6_look 138 = .ok (.iaload, 1) := by decide +kernel
theorem dX6_look_139 : decode cX6_look 139 = .ok (.iastore, 1) := by decide +kernel
theorem dX6_look_140 : decode cX6_look 140 = .ok (.iinc 4 1, 3) := by decide +kernel
theorem dX6_look_143 : decode cX6_look 143 = .ok (.goto (-101), 3) := by decide +kernel
theorem dX6_look_146 : decode cX6_look 146 = .ok (.return_, 1) := by decide +kernel
theorem dX6_weigh_0 : decode cX6_weigh 0 = .ok (.aload_n 0, 1) := by decide +kernel
theorem dX6_weigh_1 : decode cX6_weigh 1 = .ok (.iload_n 1, 1) := by decide +kernel
theorem dX6_weigh_2 : decode cX6_weigh 2 = .ok (.iload_n 2, 1) := by decide +kernel
theorem dX6_weigh_3 : decode cX6_weigh 3 = .ok (.iload_n 3, 1) := by decide +kernel
theorem dX6_weigh_4 : decode cX6_weigh 4 = .ok (.invokevirtual 46, 3) := by decide +kernel
theorem dX6_weigh_7 : decode cX6_weigh 7 = .ok (.iconst 0, 1) := by decide +kernel
theorem dX6_weigh_8 : decode cX6_weigh 8 = .ok (.istore 4, 2) := by decide +kernel
theorem dX6_weigh_10 : decode cX6_weigh 10 = .ok (.iload 4, 2) := by decide +kernel
theorem dX6_weigh_12 : decode cX6_weigh 12 = .ok (.aload_n 0, 1) := by decide +kernel
theorem dX6_weigh_13 : decode cX6_weigh 13 = .ok (.getfield 24, 3) := by decide +kernel
theorem dX6_weigh_16 : decode cX6_weigh 16 = .ok (.getfield 41, 3) := by decide +kernel
theorem dX6_weigh_19 : decode cX6_weigh 19 = .ok (.if_icmp .ge 51, 3) := by decide +kernel
theorem dX6_weigh_22 : decode cX6_weigh 22 = .ok (.iconst 0, 1) := by decide +kernel
theorem dX6_weigh_23 : decode cX6_weigh 23 = .ok (.istore 5, 2) := by decide +kernel
theorem dX6_weigh_25 : decode cX6_weigh 25 = .ok (.iload 5, 2) := by decide +kernel
theorem dX6_weigh_27 : decode cX6_weigh 27 = .ok (.aload_n 0, 1) := by decide +kernel
theorem dX6_weigh_28 : decode cX6_weigh 28 = .ok (.getfield 24, 3) := by decide +kernel
theorem dX6_weigh_31 : decode cX6_weigh 31 = .ok (.getfield 32, 3) := by decide +kernel
theorem dX6_weigh_34 : decode cX6_weigh 34 = .ok (.if_icmp .ge 30, 3) := by decide +kernel
theorem dX6_weigh_37 : decode cX6_weigh 37 = .ok (.aload_n 0, 1) := by decide +kernel
theorem dX6_weigh_38 : decode cX6_weigh 38 = .ok (.getfield 21, 3) := by decide +kernel
theorem dX6_weigh_41 : decode cX6_weigh 41 = .ok (.iload 4, 2) := by decide +kernel
theorem dX6_weigh_43 : decode cX6_weigh 43 = .ok (.bipush 7, 2) := by decide +kernel
theorem dX6_weigh_45 : decode cX6_weigh 45 = .ok (.imul, 1) := by decide +kernel
theorem dX6_weigh_46 : decode cX6_weigh 46 = .ok (.iload 5, 2) := by decide +kernel
theorem dX6_weigh_48 : decode cX6_weigh 48 = .ok (.iadd, 1) := by decide +kernel
theorem dX6_weigh_49 : decode cX6_weigh 49 = .ok (.aload_n 0, 1) := by decide +kernel
theorem dX6_weigh_50 : decode cX6_weigh 50 = .ok (.iload 4, 2) := by decide +kernel
theorem dX6_weigh_52 : decode cX6_weigh 52 = .ok (.iload 5, 2) := by decide +kernel
theorem dX6_weigh_54 : decode cX6_weigh 54 = .ok (.invokevirtual 50, 3) := by decide +kernel
theorem dX6_weigh_57 : decode cX6_weigh 57 = .ok (.iastore, 1) := by decide +kernel
theorem dX6_weigh_58 : decode cX6_weigh 58 = .ok (.iinc 5 1, 3) := by decide +kernel
theorem dX6_weigh_61 : decode cX6_weigh 61 = .ok (.goto (-36), 3) := by decide +kernel
theorem dX6_weigh_64 : decode cX6_weigh 64 = .ok (.iinc 4 1, 3) := by decide +kernel
theorem dX6_weigh_67 : decode cX6_weigh 67 = .ok (.goto (-57), 3) := by decide +kernel
theorem dX6_weigh_70 : decode cX6_weigh 70 = .ok (.return_, 1) := by decide +kernel
theorem dX6_partnersOf_0 : decode cX6_partnersOf 0 = .ok (.iconst 0, 1) := by decide +kernel
theorem dX6_partnersOf_1 : decode cX6_partnersOf 1 = .ok (.istore_n 3, 1) := by decide +kernel
theorem dX6_partnersOf_2 : decode cX6_partnersOf 2 = .ok (.iconst 0, 1) := by decide +kernel
theorem dX6_partnersOf_3 : decode cX6_partnersOf 3 = .ok (.istore 4, 2) := by decide +kernel
theorem dX6_partnersOf_5 : decode cX6_partnersOf 5 = .ok (.iload 4, 2) := by decide +kernel
theorem dX6_partnersOf_7 : decode cX6_partnersOf 7 = .ok (.aload_n 0, 1) := by decide +kernel
theorem dX6_partnersOf_8 : decode cX6_partnersOf 8 = .ok (.getfield 24, 3) := by decide +kernel
theorem dX6_partnersOf_11 : decode cX6_partnersOf 11 = .ok (.getfield 32, 3) := by decide +kernel
theorem dX6_partnersOf_14 : decode cX6_partnersOf 14 = .ok (.if_icmp .ge 33, 3) := by decide +kernel
theorem dX6_partnersOf_17 : decode cX6_partnersOf 17 = .ok (.iload 4, 2) := by decide +kernel
theorem dX6_partnersOf_19 : decode cX6_partnersOf 19 = .ok (.iload_n 2, 1) := by decide +kernel
theorem dX6_partnersOf_20 : decode cX6_partnersOf 20 = .ok (.if_icmp .eq 21, 3) := by decide +kernel
theorem dX6_partnersOf_23 : decode cX6_partnersOf 23 = .ok (.aload_n 0, 1) := by decide +kernel
theorem dX6_partnersOf_24 : decode cX6_partnersOf 24 = .ok (.iload_n 1, 1) := by decide +kernel
theorem dX6_partnersOf_25 : decode cX6_partnersOf 25 = .ok (.iload_n 2, 1) := by decide +kernel
theorem dX6_partnersOf_26 : decode cX6_partnersOf 26 = .ok (.iload 4, 2) := by decide +kernel
theorem dX6_partnersOf_28 : decode cX6_partnersOf 28 = .ok (.invokevirtual 54, 3) := by decide +kernel
theorem dX6_partnersOf_31 : decode cX6_partnersOf 31 = .ok (.ifCond .eq 10, 3) := by decide +kernel
theorem dX6_partnersOf_34 : decode cX6_partnersOf 34 = .ok (.iload_n 3, 1) := by decide +kernel
theorem dX6_partnersOf_35 : decode cX6_partnersOf 35 = .ok (.iconst 1, 1) := by decide +kernel
theorem dX6_partnersOf_36 : decode cX6_partnersOf 36 = .ok (.iload 4, 2) := by decide +kernel
theorem dX6_partnersOf_38 : decode cX6_partnersOf 38 = .ok (.ishl, 1) := by decide +kernel
theorem dX6_partnersOf_39 : decode cX6_partnersOf 39 = .ok (.ior, 1) := by decide +kernel
theorem dX6_partnersOf_40 : decode cX6_partnersOf 40 = .ok (.istore_n 3, 1) := by decide +kernel
theorem dX6_partnersOf_41 : decode cX6_partnersOf 41 = .ok (.iinc 4 1, 3) := by decide +kernel
theorem dX6_partnersOf_44 : decode cX6_partnersOf 44 = .ok (.goto (-39), 3) := by decide +kernel
theorem dX6_partnersOf_47 : decode cX6_partnersOf 47 = .ok (.iload_n 3, 1) := by decide +kernel
theorem dX6_partnersOf_48 : decode cX6_partnersOf 48 = .ok (.ireturn, 1) := by decide +kernel
theorem dX6_onlyWith_0 : decode cX6_onlyWith 0 = .ok (.iconst 0, 1) := by decide +kernel
theorem dX6_onlyWith_1 : decode cX6_onlyWith 1 = .ok (.istore_n 2, 1) := by decide +kernel
theorem dX6_onlyWith_2 : decode cX6_onlyWith 2 = .ok (.iload_n 2, 1) := by decide +kernel
theorem dX6_onlyWith_3 : decode cX6_onlyWith 3 = .ok (.aload_n 0, 1) := by decide +kernel
theorem dX6_onlyWith_4 : decode cX6_onlyWith 4 = .ok (.getfield 24, 3) := by decide +kernel
theorem dX6_onlyWith_7 : decode cX6_onlyWith 7 = .ok (.getfield 41, 3) := by decide +kernel
theorem dX6_onlyWith_10 : decode cX6_onlyWith 10 = .ok (.if_icmp .ge 50, 3) := by decide +kernel
theorem dX6_onlyWith_13 : decode cX6_onlyWith 13 = .ok (.iconst 0, 1) := by decide +kernel
theorem dX6_onlyWith_14 : decode cX6_onlyWith 14 = .ok (.istore_n 3, 1) := by decide +kernel
theorem dX6_onlyWith_15 : decode cX6_onlyWith 15 = .ok (.iload_n 3, 1) := by decide +kernel
theorem dX6_onlyWith_16 : decode cX6_onlyWith 16 = .ok (.aload_n 0, 1) := by decide +kernel
theorem dX6_onlyWith_17 : decode cX6_onlyWith 17 = .ok (.getfield 24, 3) := by decide +kernel
theorem dX6_onlyWith_20 : decode cX6_onlyWith 20 = .ok (.getfield 32, 3) := by decide +kernel
theorem dX6_onlyWith_23 : decode cX6_onlyWith 23 = .ok (.if_icmp .ge 31, 3) := by decide +kernel
theorem dX6_onlyWith_26 : decode cX6_onlyWith 26 = .ok (.iload_n 3, 1) := by decide +kernel
theorem dX6_onlyWith_27 : decode cX6_onlyWith 27 = .ok (.iload_n 1, 1) := by decide +kernel
theorem dX6_onlyWith_28 : decode cX6_onlyWith 28 = .ok (.if_icmp .eq 20, 3) := by decide +kernel
theorem dX6_onlyWith_31 : decode cX6_onlyWith 31 = .ok (.aload_n 0, 1) := by decide +kernel
theorem dX6_onlyWith_32 : decode cX6_onlyWith 32 = .ok (.getfield 21, 3) := by decide +kernel
theorem dX6_onlyWith_35 : decode cX6_onlyWith 35 = .ok (.iload_n 2, 1) := by decide +kernel
theorem dX6_onlyWith_36 : decode cX6_onlyWith 36 = .ok (.bipush 7, 2) := by decide +kernel
theorem dX6_onlyWith_38 : decode cX6_onlyWith 38 = .ok (.imul, 1) := by decide +kernel
theorem dX6_onlyWith_39 : decode cX6_onlyWith 39 = .ok (.iload_n 3, 1) := by decide +kernel
theorem dX6_onlyWith_40 : decode cX6_onlyWith 40 = .ok (.iadd, 1) := by decide +kernel
theorem dX6_onlyWith_41 : decode cX6_onlyWith 41 = .ok (.dup2, 1) := by decide +kernel
theorem dX6_onlyWith_42 : decode cX6_onlyWith 42 = .ok (.iaload, 1) := by decide +kernel
theorem dX6_onlyWith_43 : decode cX6_onlyWith 43 = .ok (.iconst 1, 1) := by decide +kernel
theorem dX6_onlyWith_44 : decode cX6_onlyWith 44 = .ok (.iload_n 1, 1) := by decide +kernel
theorem dX6_onlyWith_45 : decode cX6_onlyWith 45 = .ok (.ishl, 1) := by decide +kernel
theorem dX6_onlyWith_46 : decode cX6_onlyWith 46 = .ok (.iand, 1) := by decide +kernel
theorem dX6_onlyWith_47 : decode cX6_onlyWith 47 = .ok (.iastore, 1) := by decide +kernel
theorem dX6_onlyWith_48 : decode cX6_onlyWith 48 = .ok (.iinc 3 1, 3) := by decide +kernel
theorem dX6_onlyWith_51 : decode cX6_onlyWith 51 = .ok (.goto (-36), 3) := by decide +kernel
theorem dX6_onlyWith_54 : decode cX6_onlyWith 54 = .ok (.iinc 2 1, 3) := by decide +kernel
theorem dX6_onlyWith_57 : decode cX6_onlyWith 57 = .ok (.goto (-55), 3) := by decide +kernel
theorem dX6_onlyWith_60 : decode cX6_onlyWith 60 = .ok (.return_, 1) := by decide +kernel
theorem dX6_isLawful_0 : decode cX6_isLawful 0 = .ok (.aload_n 0, 1) := by decide +kernel
theorem dX6_isLawful_1 : decode cX6_isLawful 1 = .ok (.getfield 18, 3) := by decide +kernel
theorem dX6_isLawful_4 : decode cX6_isLawful 4 = .ok (.iload_n 2, 1) := by decide +kernel
theorem dX6_isLawful_5 : decode cX6_isLawful 5 = .ok (.iaload, 1) := by decide +kernel
theorem dX6_isLawful_6 : decode cX6_isLawful 6 = .ok (.istore 4, 2) := by decide +kernel
theorem dX6_isLawful_8 : decode cX6_isLawful 8 = .ok (.aload_n 0, 1) := by decide +kernel
theorem dX6_isLawful_9 : decode cX6_isLawful 9 = .ok (.getfield 18, 3) := by decide +kernel
theorem dX6_isLawful_12 : decode cX6_isLawful 12 = .ok (.iload_n 3, 1) := by decide +kernel
theorem dX6_isLawful_13 : decode cX6_isLawful 13 = .ok (.iaload, 1) := by decide +kernel
theorem dX6_isLawful_14 : decode cX6_isLawful 14 = .ok (.istore 5, 2) := by decide +kernel
theorem dX6_isLawful_16 : decode cX6_isLawful 16 = .ok (.aload_n 0, 1) := by decide +kernel
theorem dX6_isLawful_17 : decode cX6_isLawful 17 = .ok (.getfield 24, 3) := by decide +kernel
theorem dX6_isLawful_20 : decode cX6_isLawful 20 = .ok (.getfield 58, 3) := by decide +kernel
theorem dX6_isLawful_23 : decode cX6_isLawful 23 = .ok (.iload_n 1, 1) := by decide +kernel
theorem dX6_isLawful_24 : decode cX6_isLawful 24 = .ok (.iaload, 1) := by decide +kernel
theorem dX6_isLawful_25 : decode cX6_isLawful 25 = .ok (.istore 6, 2) := by decide +kernel
theorem dX6_isLawful_27 : decode cX6_isLawful 27 = .ok (.aload_n 0, 1) := by decide +kernel
theorem dX6_isLawful_28 : decode cX6_isLawful 28 = .ok (.getfield 28, 3) := by decide +kernel
theorem dX6_isLawful_31 : decode cX6_isLawful 31 = .ok (.invokevirtual 61, 3) := by decide +kernel
theorem dX6_isLawful_34 : decode cX6_isLawful 34 = .ok (.ifCond .eq 38, 3) := by decide +kernel
theorem dX6_isLawful_37 : decode cX6_isLawful 37 = .ok (.aload_n 0, 1) := by decide +kernel
theorem dX6_isLawful_38 : decode cX6_isLawful 38 = .ok (.getfield 28, 3) := by decide +kernel
theorem dX6_isLawful_41 : decode cX6_isLawful 41 = .ok (.iload 4, 2) := by decide +kernel
theorem dX6_isLawful_43 : decode cX6_isLawful 43 = .ok (.iload 5, 2) := by decide +kernel
theorem dX6_isLawful_45 : decode cX6_isLawful 45 = .ok (.iload_n 1, 1) := by decide +kernel
theorem dX6_isLawful_46 : decode cX6_isLawful 46 = .ok (.iload 6, 2) := by decide +kernel
theorem dX6_isLawful_48 : decode cX6_isLawful 48 = .ok (.aload_n 0, 1) := by decide +kernel
theorem dX6_isLawful_49 : decode cX6_isLawful 49 = .ok (.getfield 9, 3) := by decide +kernel
theorem dX6_isLawful_52 : decode cX6_isLawful 52 = .ok (.iload_n 1, 1) := by decide +kernel
theorem dX6_isLawful_53 : decode cX6_isLawful 53 = .ok (.iaload, 1) := by decide +kernel
theorem dX6_isLawful_54 : decode cX6_isLawful 54 = .ok (.aload_n 0, 1) := by decide +kernel
theorem dX6_isLawful_55 : decode cX6_isLawful 55 = .ok (.getfield 15, 3) := by decide +kernel
theorem dX6_isLawful_58 : decode cX6_isLawful 58 = .ok (.iload_n 1, 1) := by decide +kernel
theorem dX6_isLawful_59 : decode cX6_isLawful 59 = .ok (.iaload, 1) := by decide +kernel
theorem dX6_isLawful_60 : decode cX6_isLawful 60 = .ok (.invokevirtual 67, 3) := by decide +kernel
theorem dX6_isLawful_63 : decode cX6_isLawful 63 = .ok (.ifCond .eq 7, 3) := by decide +kernel
theorem dX6_isLawful_66 : decode cX6_isLawful 66 = .ok (.iconst 1, 1) := by decide +kernel
theorem dX6_isLawful_67 : decode cX6_isLawful 67 = .ok (.goto 4, 3) := by decide +kernel
theorem dX6_isLawful_70 : decode cX6_isLawful 70 = .ok (.iconst 0, 1) := by decide +kernel
theorem dX6_isLawful_71 : decode cX6_isLawful 71 = .ok (.ireturn, 1) := by decide +kernel
theorem dX6_isLawful_72 : decode cX6_isLawful 72 = .ok (.iload 6, 2) := by decide +kernel
theorem dX6_isLawful_74 : decode cX6_isLawful 74 = .ok (.ifCond .ne 16, 3) := by decide +kernel
theorem dX6_isLawful_77 : decode cX6_isLawful 77 = .ok (.iload 4, 2) := by decide +kernel
theorem dX6_isLawful_79 : decode cX6_isLawful 79 = .ok (.iload 5, 2) := by decide +kernel
theorem dX6_isLawful_81 : decode cX6_isLawful 81 = .ok (.if_icmp .le 7, 3) := by decide +kernel
theorem dX6_isLawful_84 : decode cX6_isLawful 84 = .ok (.iconst 1, 1) := by decide +kernel
theorem dX6_isLawful_85 : decode cX6_isLawful 85 = .ok (.goto 4, 3) := by decide +kernel
theorem dX6_isLawful_88 : decode cX6_isLawful 88 = .ok (.iconst 0, 1) := by decide +kernel
theorem dX6_isLawful_89 : decode cX6_isLawful 89 = .ok (.ireturn, 1) := by decide +kernel
theorem dX6_isLawful_90 : decode cX6_isLawful 90 = .ok (.iload 6, 2) := by decide +kernel
theorem dX6_isLawful_92 : decode cX6_isLawful 92 = .ok (.iconst 1, 1) := by decide +kernel
theorem dX6_isLawful_93 : decode cX6_isLawful 93 = .ok (.if_icmp .ne 18, 3) := by decide +kernel
theorem dX6_isLawful_96 : decode cX6_isLawful 96 = .ok (.iload 4, 2) := by decide +kernel
theorem dX6_isLawful_98 : decode cX6_isLawful 98 = .ok (.iload 5, 2) := by decide +kernel
theorem dX6_isLawful_100 : decode cX6_isLawful 100 = .ok (.if_icmp .ge 7, 3) := by decide +kernel
theorem dX6_isLawful_103 : decode cX6_isLawful 103 = .ok (.iconst 1, 1) := by decide +kernel
theorem dX6_isLawful_104 : decode cX6_isLawful 104 = .ok (.goto 19, 3) := by decide +kernel
theorem dX6_isLawful_107 : decode cX6_isLawful 107 = .ok (.iconst 0, 1) := by decide +kernel
theorem dX6_isLawful_108 : decode cX6_isLawful 108 = .ok (.goto 15, 3) := by decide +kernel
theorem dX6_isLawful_111 : decode cX6_isLawful 111 = .ok (.iload 4, 2) := by decide +kernel
theorem dX6_isLawful_113 : decode cX6_isLawful 113 = .ok (.iload 5, 2) := by decide +kernel
theorem dX6_isLawful_115 : decode cX6_isLawful 115 = .ok (.if_icmp .lt 7, 3) := by decide +kernel
theorem dX6_isLawful_118 : decode cX6_isLawful 118 = .ok (.iconst 1, 1) := by decide +kernel
theorem dX6_isLawful_119 : decode cX6_isLawful 119 = .ok (.goto 4, 3) := by decide +kernel
theorem dX6_isLawful_122 : decode cX6_isLawful 122 = .ok (.iconst 0, 1) := by decide +kernel
theorem dX6_isLawful_123 : decode cX6_isLawful 123 = .ok (.ireturn, 1) := by decide +kernel
theorem dX6_mayBe_0 : decode cX6_mayBe 0 = .ok (.aload_n 0, 1) := by decide +kernel
theorem dX6_mayBe_1 : decode cX6_mayBe 1 = .ok (.getfield 24, 3) := by decide +kernel
theorem dX6_mayBe_4 : decode cX6_mayBe 4 = .ok (.iload_n 2, 1) := by decide +kernel
theorem dX6_mayBe_5 : decode cX6_mayBe 5 = .ok (.invokevirtual 71, 3) := by decide +kernel
theorem dX6_mayBe_8 : decode cX6_mayBe 8 = .ok (.ifCond .eq 32, 3) := by decide +kernel
theorem dX6_mayBe_11 : decode cX6_mayBe 11 = .ok (.aload_n 0, 1) := by decide +kernel
theorem dX6_mayBe_12 : decode cX6_mayBe 12 = .ok (.getfield 24, 3) := by decide +kernel
theorem dX6_mayBe_15 : decode cX6_mayBe 15 = .ok (.iload_n 3, 1) := by decide +kernel
theorem dX6_mayBe_16 : decode cX6_mayBe 16 = .ok (.invokevirtual 75, 3) := by decide +kernel
theorem dX6_mayBe_19 : decode cX6_mayBe 19 = .ok (.ifCond .eq 21, 3) := by decide +kernel
theorem dX6_mayBe_22 : decode cX6_mayBe 22 = .ok (.aload_n 0, 1) := by decide +kernel
theorem dX6_mayBe_23 : decode cX6_mayBe 23 = .ok (.getfield 24, 3) := by decide +kernel
theorem dX6_mayBe_26 : decode cX6_mayBe 26 = .ok (.iload 4, 2) := by decide +kernel
theorem dX6_mayBe_28 : decode cX6_mayBe 28 = .ok (.invokevirtual 75, 3) := by decide +kernel
theorem dX6_mayBe_31 : decode cX6_mayBe 31 = .ok (.ifCond .eq 9, 3) := by decide +kernel
theorem dX6_mayBe_34 : decode cX6_mayBe 34 = .ok (.iload_n 3, 1) := by decide +kernel
theorem dX6_mayBe_35 : decode cX6_mayBe 35 = .ok (.iload 4, 2) := by decide +kernel
theorem dX6_mayBe_37 : decode cX6_mayBe 37 = .ok (.if_icmp .ne 5, 3) := by decide +kernel
theorem dX6_mayBe_40 : decode cX6_mayBe 40 = .ok (.iconst 0, 1) := by decide +kernel
theorem dX6_mayBe_41 : decode cX6_mayBe 41 = .ok (.ireturn, 1) := by decide +kernel
theorem dX6_mayBe_42 : decode cX6_mayBe 42 = .ok (.iload_n 1, 1) := by decide +kernel
theorem dX6_mayBe_43 : decode cX6_mayBe 43 = .ok (.iload_n 3, 1) := by decide +kernel
theorem dX6_mayBe_44 : decode cX6_mayBe 44 = .ok (.invokestatic 78, 3) := by decide +kernel
theorem dX6_mayBe_47 : decode cX6_mayBe 47 = .ok (.aload_n 0, 1) := by decide +kernel
theorem dX6_mayBe_48 : decode cX6_mayBe 48 = .ok (.getfield 9, 3) := by decide +kernel
theorem dX6_mayBe_51 : decode cX6_mayBe 51 = .ok (.iload_n 2, 1) := by decide +kernel
theorem dX6_mayBe_52 : decode cX6_mayBe 52 = .ok (.iaload, 1) := by decide +kernel
theorem dX6_mayBe_53 : decode cX6_mayBe 53 = .ok (.if_icmp .ne 33, 3) := by decide +kernel
theorem dX6_mayBe_56 : decode cX6_mayBe 56 = .ok (.iload_n 1, 1) := by decide +kernel
theorem dX6_mayBe_57 : decode cX6_mayBe 57 = .ok (.iload 4, 2) := by decide +kernel
theorem dX6_mayBe_59 : decode cX6_mayBe 59 = .ok (.invokestatic 78, 3) := by decide +kernel
theorem dX6_mayBe_62 : decode cX6_mayBe 62 = .ok (.aload_n 0, 1) := by decide +kernel
theorem dX6_mayBe_63 : decode cX6_mayBe 63 = .ok (.getfield 15, 3) := by decide +kernel
theorem dX6_mayBe_66 : decode cX6_mayBe 66 = .ok (.iload_n 2, 1) := by decide +kernel
theorem dX6_mayBe_67 : decode cX6_mayBe 67 = .ok (.iaload, 1) := by decide +kernel
theorem dX6_mayBe_68 : decode cX6_mayBe 68 = .ok (.if_icmp .ne 18, 3) := by decide +kernel
theorem dX6_mayBe_71 : decode cX6_mayBe 71 = .ok (.aload_n 0, 1) := by decide +kernel
theorem dX6_mayBe_72 : decode cX6_mayBe 72 = .ok (.iload_n 2, 1) := by decide +kernel
theorem dX6_mayBe_73 : decode cX6_mayBe 73 = .ok (.iload_n 3, 1) := by decide +kernel
theorem dX6_mayBe_74 : decode cX6_mayBe 74 = .ok (.iload 4, 2) := by decide +kernel
theorem dX6_mayBe_76 : decode cX6_mayBe 76 = .ok (.invokevirtual 54, 3) := by decide +kernel
theorem dX6_mayBe_79 : decode cX6_mayBe 79 = .ok (.ifCond .eq 7, 3) := by decide +kernel
theorem dX6_mayBe_82 : decode cX6_mayBe 82 = .ok (.iconst 1, 1) := by decide +kernel
theorem dX6_mayBe_83 : decode cX6_mayBe 83 = .ok (.goto 4, 3) := by decide +kernel
theorem dX6_mayBe_86 : decode cX6_mayBe 86 = .ok (.iconst 0, 1) := by decide +kernel
theorem dX6_mayBe_87 : decode cX6_mayBe 87 = .ok (.ireturn, 1) := by decide +kernel
theorem dX6_changed_0 : decode cX6_changed 0 = .ok (.aload_n 0, 1) := by decide +kernel
theorem dX6_changed_1 : decode cX6_changed 1 = .ok (.getfield 9, 3) := by decide +kernel
theorem dX6_changed_4 : decode cX6_changed 4 = .ok (.iload_n 2, 1) := by decide +kernel
theorem dX6_changed_5 : decode cX6_changed 5 = .ok (.iaload, 1) := by decide +kernel
theorem dX6_changed_6 : decode cX6_changed 6 = .ok (.aload_n 0, 1) := by decide +kernel
theorem dX6_changed_7 : decode cX6_changed 7 = .ok (.getfield 15, 3) := by decide +kernel
theorem dX6_changed_10 : decode cX6_changed 10 = .ok (.iload_n 2, 1) := by decide +kernel
theorem dX6_changed_11 : decode cX6_changed 11 = .ok (.iaload, 1) := by decide +kernel
theorem dX6_changed_12 : decode cX6_changed 12 = .ok (.ixor, 1) := by decide +kernel
theorem dX6_changed_13 : decode cX6_changed 13 = .ok (.istore 5, 2) := by decide +kernel
theorem dX6_changed_15 : decode cX6_changed 15 = .ok (.iload_n 1, 1) := by decide +kernel
theorem dX6_changed_16 : decode cX6_changed 16 = .ok (.iload 5, 2) := by decide +kernel
theorem dX6_changed_18 : decode cX6_changed 18 = .ok (.iconst 2, 1) := by decide +kernel
theorem dX6_changed_19 : decode cX6_changed 19 = .ok (.iload_n 3, 1) := by decide +kernel
theorem dX6_changed_20 : decode cX6_changed 20 = .ok (.imul, 1) := by decide +kernel
theorem dX6_changed_21 : decode cX6_changed 21 = .ok (.ishl, 1) := by decide +kernel
theorem dX6_changed_22 : decode cX6_changed 22 = .ok (.ixor, 1) := by decide +kernel
theorem dX6_changed_23 : decode cX6_changed 23 = .ok (.iload 5, 2) := by decide +kernel
theorem dX6_changed_25 : decode cX6_changed 25 = .ok (.iconst 2, 1) := by decide +kernel
theorem dX6_changed_26 : decode cX6_changed 26 = .ok (.iload 4, 2) := by decide +kernel
theorem dX6_changed_28 : decode cX6_changed 28 = .ok (.imul, 1) := by decide +kernel
theorem dX6_changed_29 : decode cX6_changed 29 = .ok (.ishl, 1) := by decide +kernel
theorem dX6_changed_30 : decode cX6_changed 30 = .ok (.ixor, 1) := by decide +kernel
theorem dX6_changed_31 : decode cX6_changed 31 = .ok (.ireturn, 1) := by decide +kernel
theorem dX7_init_0 : decode cX7_init 0 = .ok (.aload_n 0, 1) := by decide +kernel
theorem dX7_init_1 : decode cX7_init 1 = .ok (.invokespecial 5, 3) := by decide +kernel
theorem dX7_init_4 : decode cX7_init 4 = .ok (.aload_n 0, 1) := by decide +kernel
theorem dX7_init_5 : decode cX7_init 5 = .ok (.new 11, 3) := by decide +kernel
theorem dX7_init_8 : decode cX7_init 8 = .ok (.dup, 1) := by decide +kernel
theorem dX7_init_9 : decode cX7_init 9 = .ok (.invokespecial 13, 3) := by decide +kernel
theorem dX7_init_12 : decode cX7_init 12 = .ok (.putfield 14, 3) := by decide +kernel
theorem dX7_init_15 : decode cX7_init 15 = .ok (.aload_n 0, 1) := by decide +kernel
theorem dX7_init_16 : decode cX7_init 16 = .ok (.sipush 630, 3) := by decide +kernel
theorem dX7_init_19 : decode cX7_init 19 = .ok (.newarray .int, 2) := by decide +kernel
theorem dX7_init_21 : decode cX7_init 21 = .ok (.putfield 18, 3) := by decide +kernel
theorem dX7_init_24 : decode cX7_init 24 = .ok (.aload_n 0, 1) := by decide +kernel
theorem dX7_init_25 : decode cX7_init 25 = .ok (.sipush 630, 3) := by decide +kernel
theorem dX7_init_28 : decode cX7_init 28 = .ok (.newarray .int, 2) := by decide +kernel
theorem dX7_init_30 : decode cX7_init 30 = .ok (.putfield 22, 3) := by decide +kernel
theorem dX7_init_33 : decode cX7_init 33 = .ok (.aload_n 0, 1) := by decide +kernel
theorem dX7_init_34 : decode cX7_init 34 = .ok (.sipush 630, 3) := by decide +kernel
theorem dX7_init_37 : decode cX7_init 37 = .ok (.newarray .int, 2) := by decide +kernel
theorem dX7_init_39 : decode cX7_init 39 = .ok (.putfield 25, 3) := by decide +kernel
theorem dX7_init_42 : decode cX7_init 42 = .ok (.aload_n 0, 1) := by decide +kernel
theorem dX7_init_43 : decode cX7_init 43 = .ok (.sipush 630, 3) := by decide +kernel
theorem dX7_init_46 : decode cX7_init 46 = .ok (.newarray .int, 2) := by decide +kernel
theorem dX7_init_48 : decode cX7_init 48 = .ok (.putfield 28, 3) := by decide +kernel
theorem dX7_init_51 : decode cX7_init 51 = .ok (.aload_n 0, 1) := by decide +kernel
theorem dX7_init_52 : decode cX7_init 52 = .ok (.sipush 630, 3) := by decide +kernel
theorem dX7_init_55 : decode cX7_init 55 = .ok (.newarray .int, 2) := by decide +kernel
theorem dX7_init_57 : decode cX7_init 57 = .ok (.putfield 31, 3) := by decide +kernel
theorem dX7_init_60 : decode cX7_init 60 = .ok (.aload_n 0, 1) := by decide +kernel
theorem dX7_init_61 : decode cX7_init 61 = .ok (.sipush 630, 3) := by decide +kernel
theorem dX7_init_64 : decode cX7_init 64 = .ok (.newarray .int, 2) := by decide +kernel
theorem dX7_init_66 : decode cX7_init 66 = .ok (.putfield 34, 3) := by decide +kernel
theorem dX7_init_69 : decode cX7_init 69 = .ok (.aload_n 0, 1) := by decide +kernel
theorem dX7_init_70 : decode cX7_init 70 = .ok (.sipush 2048, 3) := by decide +kernel
theorem dX7_init_73 : decode cX7_init 73 = .ok (.newarray .int, 2) := by decide +kernel
theorem dX7_init_75 : decode cX7_init 75 = .ok (.putfield 37, 3) := by decide +kernel
theorem dX7_init_78 : decode cX7_init 78 = .ok (.aload_n 0, 1) := by decide +kernel
theorem dX7_init_79 : decode cX7_init 79 = .ok (.iconst 0, 1) := by decide +kernel
theorem dX7_init_80 : decode cX7_init 80 = .ok (.putfield 40, 3) := by decide +kernel
theorem dX7_init_83 : decode cX7_init 83 = .ok (.return_, 1) := by decide +kernel
theorem dX7_spreadOut_0 : decode cX7_spreadOut 0 = .ok (.aload_n 0, 1) := by decide +kernel
theorem dX7_spreadOut_1 : decode cX7_spreadOut 1 = .ok (.aload_n 1, 1) := by decide +kernel
theorem dX7_spreadOut_2 : decode cX7_spreadOut 2 = .ok (.iload_n 2, 1) := by decide +kernel
theorem dX7_spreadOut_3 : decode cX7_spreadOut 3 = .ok (.iconst 0, 1) := by decide +kernel
theorem dX7_spreadOut_4 : decode cX7_spreadOut 4 = .ok (.iconst 1, 1) := by decide +kernel
theorem dX7_spreadOut_5 : decode cX7_spreadOut 5 = .ok (.invokevirtual 44, 3) := by decide +kernel
theorem dX7_spreadOut_8 : decode cX7_spreadOut 8 = .ok (.pop, 1) := by decide +kernel
theorem dX7_spreadOut_9 : decode cX7_spreadOut 9 = .ok (.return_, 1) := by decide +kernel
theorem dX7_fewestTill_0 : decode cX7_fewestTill 0 = .ok (.aload_n 0, 1) := by decide +kernel
theorem dX7_fewestTill_1 : decode cX7_fewestTill 1 = .ok (.aload_n 1, 1) := by decide +kernel
theorem dX7_fewestTill_2 : decode cX7_fewestTill 2 = .ok (.iload_n 2, 1) := by decide +kernel
theorem dX7_fewestTill_3 : decode cX7_fewestTill 3 = .ok (.iload_n 3, 1) := by decide +kernel
theorem dX7_fewestTill_4 : decode cX7_fewestTill 4 = .ok (.iload 4, 2) := by decide +kernel
theorem dX7_fewestTill_6 : decode cX7_fewestTill 6 = .ok (.invokevirtual 44, 3) := by decide +kernel
theorem dX7_fewestTill_9 : decode cX7_fewestTill 9 = .ok (.istore 5, 2) := by decide +kernel
theorem dX7_fewestTill_11 : decode cX7_fewestTill 11 = .ok (.iload 5, 2) := by decide +kernel
theorem dX7_fewestTill_13 : decode cX7_fewestTill 13 = .ok (.ifCond .ge 8, 3) := by decide +kernel
theorem dX7_fewestTill_16 : decode cX7_fewestTill 16 = .ok (.bipush (-2), 2) := by decide +kernel
theorem dX7_fewestTill_18 : decode cX7_fewestTill 18 = .ok (.goto 10, 3) := by decide +kernel
theorem dX7_fewestTill_21 : decode cX7_fewestTill 21 = .ok (.aload_n 0, 1) := by decide +kernel
theorem dX7_fewestTill_22 : decode cX7_fewestTill 22 = .ok (.getfield 22, 3) := by decide +kernel
theorem dX7_fewestTill_25 : decode cX7_fewestTill 25 = .ok (.iload 5, 2) := by decide +kernel
theorem dX7_fewestTill_27 : decode cX7_fewestTill 27 = .ok (.iaload, 1) := by decide +kernel
theorem dX7_fewestTill_28 : decode cX7_fewestTill 28 = .ok (.ireturn, 1) := by decide +kernel
theorem dX7_find_0 : decode cX7_find 0 = .ok (.aload_n 0, 1) := by decide +kernel
theorem dX7_find_1 : decode cX7_find 1 = .ok (.invokevirtual 48, 3) := by decide +kernel
theorem dX7_find_4 : decode cX7_find 4 = .ok (.aload_n 0, 1) := by decide +kernel
theorem dX7_find_5 : decode cX7_find 5 = .ok (.iload_n 2, 1) := by decide +kernel
theorem dX7_find_6 : decode cX7_find 6 = .ok (.iconst 0, 1) := by decide +kernel
theorem dX7_find_7 : decode cX7_find 7 = .ok (.iconst 0, 1) := by decide +kernel
theorem dX7_find_8 : decode cX7_find 8 = .ok (.invokevirtual 51, 3) := by decide +kernel
theorem dX7_find_11 : decode cX7_find 11 = .ok (.pop, 1) := by decide +kernel
theorem dX7_find_12 : decode cX7_find 12 = .ok (.iload_n 2, 1) := by decide +kernel
theorem dX7_find_13 : decode cX7_find 13 = .ok (.iload_n 3, 1) := by decide +kernel
theorem dX7_find_14 : decode cX7_find 14 = .ok (.iand, 1) := by decide +kernel
theorem dX7_find_15 : decode cX7_find 15 = .ok (.iload 4, 2) := by decide +kernel
theorem dX7_find_17 : decode cX7_find 17 = .ok (.if_icmp .ne 5, 3) := by decide +kernel
theorem dX7_find_20 : decode cX7_find 20 = .ok (.iconst 0, 1) := by decide +kernel
theorem dX7_find_21 : decode cX7_find 21 = .ok (.ireturn, 1) := by decide +kernel
theorem dX7_find_22 : decode cX7_find 22 = .ok (.iconst 0, 1) := by decide +kernel
theorem dX7_find_23 : decode cX7_find 23 = .ok (.istore 5, 2) := by decide +kernel
theorem dX7_find_25 : decode cX7_find 25 = .ok (.iload 5, 2) := by decide +kernel
theorem dX7_find_27 : decode cX7_find 27 = .ok (.aload_n 0, 1) := by decide +kernel
theorem dX7_find_28 : decode cX7_find 28 = .ok (.getfield 40, 3) := by decide +kernel
theorem dX7_find_31 : decode cX7_find 31 = .ok (.if_icmp .ge 133, 3) := by decide +kernel
theorem dX7_find_34 : decode cX7_find 34 = .ok (.iload 5, 2) := by decide +kernel
theorem dX7_find_36 : decode cX7_find 36 = .ok (.sipush 630, 3) := by decide +kernel
theorem dX7_find_39 : decode cX7_find 39 = .ok (.if_icmp .ge 125, 3) := by decide +kernel
theorem dX7_find_42 : decode cX7_find 42 = .ok (.aload_n 0, 1) := by decide +kernel
theorem dX7_find_43 : decode cX7_find 43 = .ok (.getfield 14, 3) := by decide +kernel
theorem dX7_find_46 : decode cX7_find 46 = .ok (.aload_n 1, 1) := by decide +kernel
theorem dX7_find_47 : decode cX7_find 47 = .ok (.aload_n 0, 1) := by decide +kernel
theorem dX7_find_48 : decode cX7_find 48 = .ok (.getfield 18, 3) := by decide +kernel
theorem dX7_find_51 : decode cX7_find 51 = .ok (.iload 5, 2) := by decide +kernel
theorem dX7_find_53 : decode cX7_find 53 = .ok (.iaload, 1) := by decide +kernel
theorem dX7_find_54 : decode cX7_find 54 = .ok (.invokevirtual 55, 3) := by decide +kernel
theorem dX7_find_57 : decode cX7_find 57 = .ok (.iconst 0, 1) := by decide +kernel
theorem dX7_find_58 : decode cX7_find 58 = .ok (.istore 6, 2) := by decide +kernel
theorem dX7_find_60 : decode cX7_find 60 = .ok (.iload 6, 2) := by decide +kernel
theorem dX7_find_62 : decode cX7_find 62 = .ok (.aload_n 0, 1) := by decide +kernel
theorem dX7_find_63 : decode cX7_find 63 = .ok (.getfield 14, 3) := by decide +kernel
theorem dX7_find_66 : decode cX7_find 66 = .ok (.getfield 59, 3) := by decide +kernel
theorem dX7_find_69 : decode cX7_find 69 = .ok (.if_icmp .ge 89, 3) := by decide +kernel
theorem dX7_find_72 : decode cX7_find 72 = .ok (.aload_n 0, 1) := by decide +kernel
theorem dX7_find_73 : decode cX7_find 73 = .ok (.getfield 14, 3) := by decide +kernel
theorem dX7_find_76 : decode cX7_find 76 = .ok (.getfield 62, 3) := by decide +kernel
theorem dX7_find_79 : decode cX7_find 79 = .ok (.iload 6, 2) := by decide +kernel
theorem dX7_find_81 : decode cX7_find 81 = .ok (.iaload, 1) := by decide +kernel
theorem dX7_find_82 : decode cX7_find 82 = .ok (.istore 7, 2) := by decide +kernel
theorem dX7_find_84 : decode cX7_find 84 = .ok (.aload_n 0, 1) := by decide +kernel
theorem dX7_find_85 : decode cX7_find 85 = .ok (.iload 7, 2) := by decide +kernel
theorem dX7_find_87 : decode cX7_find 87 = .ok (.invokevirtual 65, 3) := by decide +kernel
theorem dX7_find_90 : decode cX7_find 90 = .ok (.ifCond .ge 62, 3) := by decide +kernel
theorem dX7_find_93 : decode cX7_find 93 = .ok (.aload_n 0, 1) := by decide +kernel
theorem dX7_find_94 : decode cX7_find 94 = .ok (.iload 7, 2) := by decide +kernel
theorem dX7_find_96 : decode cX7_find 96 = .ok (.aload_n 0, 1) := by decide +kernel
theorem dX7_find_97 : decode cX7_find 97 = .ok (.getfield 22, 3) := by decide +kernel
theorem dX7_find_100 : decode cX7_find 100 = .ok (.iload 5, 2) := by decide +kernel
theorem dX7_find_102 : decode cX7_find 102 = .ok (.iaload, 1) := by decide +kernel
theorem dX7_find_103 : decode cX7_find 103 = .ok (.iconst 1, 1) := by decide +kernel
theorem dX7_find_104 : decode cX7_find 104 = .ok (.iadd, 1) := by decide +kernel
theorem dX7_find_105 : decode cX7_find 105 = .ok (.iload 5, 2) := by decide +kernel
theorem dX7_find_107 : decode cX7_find 107 = .ok (.ifCond .ne 16, 3) := by decide +kernel
theorem dX7_find_110 : decode cX7_find 110 = .ok (.aload_n 0, 1) := by decide +kernel
theorem dX7_find_111 : decode cX7_find 111 = .ok (.getfield 14, 3) := by decide +kernel
theorem dX7_find_114 : decode cX7_find 114 = .ok (.getfield 69, 3) := by decide +kernel
theorem dX7_find_117 : decode cX7_find 117 = .ok (.iload 6, 2) := by decide +kernel
theorem dX7_find_119 : decode cX7_find 119 = .ok (.iaload, 1) := by decide +kernel
theorem dX7_find_120 : decode cX7_find 120 = .ok (.goto 10, 3) := by decide +kernel
theorem dX7_find_123 : decode cX7_find 123 = .ok (.aload_n 0, 1) := by decide +kernel
theorem dX7_find_124 : decode cX7_find 124 = .ok (.getfield 25, 3) := by decide +kernel
theorem dX7_find_127 : decode cX7_find 127 = .ok (.iload 5, 2) := by decide +kernel
theorem dX7_find_129 : decode cX7_find 129 = .ok (.iaload, 1) := by decide +kernel
theorem dX7_find_130 : decode cX7_find 130 = .ok (.invokevirtual 51, 3) := by decide +kernel
theorem dX7_find_133 : decode cX7_find 133 = .ok (.ifCond .eq 19, 3) := by decide +kernel
theorem dX7_find_136 : decode cX7_find 136 = .ok (.iload 7, 2) := by decide +kernel
theorem dX7_find_138 : decode cX7_find 138 = .ok (.iload_n 3, 1) := by decide +kernel
theorem dX7_find_139 : decode cX7_find 139 = .ok (.iand, 1) := by decide +kernel
theorem dX7_find_140 : decode cX7_find 140 = .ok (.iload 4, 2) := by decide +kernel
theorem dX7_find_142 : decode cX7_find 142 = .ok (.if_icmp .ne 10, 3) := by decide +kernel
theorem dX7_find_145 : decode cX7_find 145 = .ok (.aload_n 0, 1) := by decide +kernel
theorem dX7_find_146 : decode cX7_find 146 = .ok (.getfield 40, 3) := by decide +kernel
theorem dX7_find_149 : decode cX7_find 149 = .ok (.iconst 1, 1) := by decide +kernel
theorem dX7_find_150 : decode cX7_find 150 = .ok (.isub, 1) := by decide +kernel
theorem dX7_find_151 : decode cX7_find 151 = .ok (.ireturn, 1) := by decide +kernel
theorem dX7_find_152 : decode cX7_find 152 = .ok (.iinc 6 1, 3) := by decide +kernel
theorem dX7_find_155 : decode cX7_find 155 = .ok (.goto (-95), 3) := by decide +kernel
theorem dX7_find_158 : decode cX7_find 158 = .ok (.iinc 5 1, 3) := by decide +kernel
theorem dX7_find_161 : decode cX7_find 161 = .ok (.goto (-136), 3) := by decide +kernel
theorem dX7_find_164 : decode cX7_find 164 = .ok (.iconst (-1), 1) := by decide +kernel
theorem dX7_find_165 : decode cX7_find 165 = .ok (.ireturn, 1) := by decide +kernel
theorem dX7_forget_0 : decode cX7_forget 0 = .ok (.iconst 0, 1) := by decide +kernel
theorem dX7_forget_1 : decode cX7_forget 1 = .ok (.istore_n 1, 1) := by decide +kernel
theorem dX7_forget_2 : decode cX7_forget 2 = .ok (.iload_n 1, 1) := by decide +kernel
theorem dX7_forget_3 : decode cX7_forget 3 = .ok (.sipush 2048, 3) := by decide +kernel
theorem dX7_forget_6 : decode cX7_forget 6 = .ok (.if_icmp .ge 16, 3) := by decide +kernel
theorem dX7_forget_9 : decode cX7_forget 9 = .ok (.aload_n 0, 1) := by decide +kernel
theorem dX7_forget_10 : decode cX7_forget 10 = .ok (.getfield 37, 3) := by decide +kernel
