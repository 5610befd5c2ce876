/-! what each instruction is (rows that TURN printed) -/
theorem dX7_forget_13 : decode cX7_forget 13 = .ok (.iload_n 1, 1) := by decide +kernel
theorem dX7_forget_14 : decode cX7_forget 14 = .ok (.iconst 0, 1) := by decide +kernel
theorem dX7_forget_15 : decode cX7_forget 15 = .ok (.iastore, 1) := by decide +kernel
theorem dX7_forget_16 : decode cX7_forget 16 = .ok (.iinc 1 1, 3) := by decide +kernel
theorem dX7_forget_19 : decode cX7_forget 19 = .ok (.goto (-17), 3) := by decide +kernel
theorem dX7_forget_22 : decode cX7_forget 22 = .ok (.aload_n 0, 1) := by decide +kernel
theorem dX7_forget_23 : decode cX7_forget 23 = .ok (.iconst 0, 1) := by decide +kernel
theorem dX7_forget_24 : decode cX7_forget 24 = .ok (.putfield 40, 3) := by decide +kernel
theorem dX7_forget_27 : decode cX7_forget 27 = .ok (.return_, 1) := by decide +kernel
theorem dX7_note_0 : decode cX7_note 0 = .ok (.aload_n 0, 1) := by decide +kernel
theorem dX7_note_1 : decode cX7_note 1 = .ok (.getfield 40, 3) := by decide +kernel
theorem dX7_note_4 : decode cX7_note 4 = .ok (.sipush 630, 3) := by decide +kernel
theorem dX7_note_7 : decode cX7_note 7 = .ok (.if_icmp .lt 5, 3) := by decide +kernel
theorem dX7_note_10 : decode cX7_note 10 = .ok (.iconst 0, 1) := by decide +kernel
theorem dX7_note_11 : decode cX7_note 11 = .ok (.ireturn, 1) := by decide +kernel
theorem dX7_note_12 : decode cX7_note 12 = .ok (.aload_n 0, 1) := by decide +kernel
theorem dX7_note_13 : decode cX7_note 13 = .ok (.getfield 18, 3) := by decide +kernel
theorem dX7_note_16 : decode cX7_note 16 = .ok (.aload_n 0, 1) := by decide +kernel
theorem dX7_note_17 : decode cX7_note 17 = .ok (.getfield 40, 3) := by decide +kernel
theorem dX7_note_20 : decode cX7_note 20 = .ok (.iload_n 1, 1) := by decide +kernel
theorem dX7_note_21 : decode cX7_note 21 = .ok (.iastore, 1) := by decide +kernel
theorem dX7_note_22 : decode cX7_note 22 = .ok (.aload_n 0, 1) := by decide +kernel
theorem dX7_note_23 : decode cX7_note 23 = .ok (.getfield 22, 3) := by decide +kernel
theorem dX7_note_26 : decode cX7_note 26 = .ok (.aload_n 0, 1) := by decide +kernel
theorem dX7_note_27 : decode cX7_note 27 = .ok (.getfield 40, 3) := by decide +kernel
theorem dX7_note_30 : decode cX7_note 30 = .ok (.iload_n 2, 1) := by decide +kernel
theorem dX7_note_31 : decode cX7_note 31 = .ok (.iastore, 1) := by decide +kernel
theorem dX7_note_32 : decode cX7_note 32 = .ok (.aload_n 0, 1) := by decide +kernel
theorem dX7_note_33 : decode cX7_note 33 = .ok (.getfield 25, 3) := by decide +kernel
theorem dX7_note_36 : decode cX7_note 36 = .ok (.aload_n 0, 1) := by decide +kernel
theorem dX7_note_37 : decode cX7_note 37 = .ok (.getfield 40, 3) := by decide +kernel
theorem dX7_note_40 : decode cX7_note 40 = .ok (.iload_n 3, 1) := by decide +kernel
theorem dX7_note_41 : decode cX7_note 41 = .ok (.iastore, 1) := by decide +kernel
theorem dX7_note_42 : decode cX7_note 42 = .ok (.aload_n 0, 1) := by decide +kernel
theorem dX7_note_43 : decode cX7_note 43 = .ok (.dup, 1) := by decide +kernel
theorem dX7_note_44 : decode cX7_note 44 = .ok (.getfield 40, 3) := by decide +kernel
theorem dX7_note_47 : decode cX7_note 47 = .ok (.iconst 1, 1) := by decide +kernel
theorem dX7_note_48 : decode cX7_note 48 = .ok (.iadd, 1) := by decide +kernel
theorem dX7_note_49 : decode cX7_note 49 = .ok (.putfield 40, 3) := by decide +kernel
theorem dX7_note_52 : decode cX7_note 52 = .ok (.aload_n 0, 1) := by decide +kernel
theorem dX7_note_53 : decode cX7_note 53 = .ok (.getfield 37, 3) := by decide +kernel
theorem dX7_note_56 : decode cX7_note 56 = .ok (.aload_n 0, 1) := by decide +kernel
theorem dX7_note_57 : decode cX7_note 57 = .ok (.iload_n 1, 1) := by decide +kernel
theorem dX7_note_58 : decode cX7_note 58 = .ok (.invokevirtual 72, 3) := by decide +kernel
theorem dX7_note_61 : decode cX7_note 61 = .ok (.aload_n 0, 1) := by decide +kernel
theorem dX7_note_62 : decode cX7_note 62 = .ok (.getfield 40, 3) := by decide +kernel
theorem dX7_note_65 : decode cX7_note 65 = .ok (.iastore, 1) := by decide +kernel
theorem dX7_note_66 : decode cX7_note 66 = .ok (.iconst 1, 1) := by decide +kernel
theorem dX7_note_67 : decode cX7_note 67 = .ok (.ireturn, 1) := by decide +kernel
theorem dX7_placeOf_0 : decode cX7_placeOf 0 = .ok (.aload_n 0, 1) := by decide +kernel
theorem dX7_placeOf_1 : decode cX7_placeOf 1 = .ok (.getfield 37, 3) := by decide +kernel
theorem dX7_placeOf_4 : decode cX7_placeOf 4 = .ok (.aload_n 0, 1) := by decide +kernel
theorem dX7_placeOf_5 : decode cX7_placeOf 5 = .ok (.iload_n 1, 1) := by decide +kernel
theorem dX7_placeOf_6 : decode cX7_placeOf 6 = .ok (.invokevirtual 72, 3) := by decide +kernel
theorem dX7_placeOf_9 : decode cX7_placeOf 9 = .ok (.iaload, 1) := by decide +kernel
theorem dX7_placeOf_10 : decode cX7_placeOf 10 = .ok (.iconst 1, 1) := by decide +kernel
theorem dX7_placeOf_11 : decode cX7_placeOf 11 = .ok (.isub, 1) := by decide +kernel
theorem dX7_placeOf_12 : decode cX7_placeOf 12 = .ok (.ireturn, 1) := by decide +kernel
theorem dX7_slotOf_0 : decode cX7_slotOf 0 = .ok (.iload_n 1, 1) := by decide +kernel
theorem dX7_slotOf_1 : decode cX7_slotOf 1 = .ok (.ldc 75, 2) := by decide +kernel
theorem dX7_slotOf_3 : decode cX7_slotOf 3 = .ok (.imul, 1) := by decide +kernel
theorem dX7_slotOf_4 : decode cX7_slotOf 4 = .ok (.bipush 21, 2) := by decide +kernel
theorem dX7_slotOf_6 : decode cX7_slotOf 6 = .ok (.iushr, 1) := by decide +kernel
theorem dX7_slotOf_7 : decode cX7_slotOf 7 = .ok (.istore_n 2, 1) := by decide +kernel
theorem dX7_slotOf_8 : decode cX7_slotOf 8 = .ok (.iconst 1, 1) := by decide +kernel
theorem dX7_slotOf_9 : decode cX7_slotOf 9 = .ok (.istore_n 3, 1) := by decide +kernel
theorem dX7_slotOf_10 : decode cX7_slotOf 10 = .ok (.iload_n 3, 1) := by decide +kernel
theorem dX7_slotOf_11 : decode cX7_slotOf 11 = .ok (.sipush 2048, 3) := by decide +kernel
theorem dX7_slotOf_14 : decode cX7_slotOf 14 = .ok (.if_icmp .ge 43, 3) := by decide +kernel
theorem dX7_slotOf_17 : decode cX7_slotOf 17 = .ok (.aload_n 0, 1) := by decide +kernel
theorem dX7_slotOf_18 : decode cX7_slotOf 18 = .ok (.getfield 37, 3) := by decide +kernel
theorem dX7_slotOf_21 : decode cX7_slotOf 21 = .ok (.iload_n 2, 1) := by decide +kernel
theorem dX7_slotOf_22 : decode cX7_slotOf 22 = .ok (.iaload, 1) := by decide +kernel
theorem dX7_slotOf_23 : decode cX7_slotOf 23 = .ok (.ifCond .eq 34, 3) := by decide +kernel
theorem dX7_slotOf_26 : decode cX7_slotOf 26 = .ok (.aload_n 0, 1) := by decide +kernel
theorem dX7_slotOf_27 : decode cX7_slotOf 27 = .ok (.getfield 18, 3) := by decide +kernel
theorem dX7_slotOf_30 : decode cX7_slotOf 30 = .ok (.aload_n 0, 1) := by decide +kernel
theorem dX7_slotOf_31 : decode cX7_slotOf 31 = .ok (.getfield 37, 3) := by decide +kernel
theorem dX7_slotOf_34 : decode cX7_slotOf 34 = .ok (.iload_n 2, 1) := by decide +kernel
theorem dX7_slotOf_35 : decode cX7_slotOf 35 = .ok (.iaload, 1) := by decide +kernel
theorem dX7_slotOf_36 : decode cX7_slotOf 36 = .ok (.iconst 1, 1) := by decide +kernel
theorem dX7_slotOf_37 : decode cX7_slotOf 37 = .ok (.isub, 1) := by decide +kernel
theorem dX7_slotOf_38 : decode cX7_slotOf 38 = .ok (.iaload, 1) := by decide +kernel
theorem dX7_slotOf_39 : decode cX7_slotOf 39 = .ok (.iload_n 1, 1) := by decide +kernel
theorem dX7_slotOf_40 : decode cX7_slotOf 40 = .ok (.if_icmp .eq 17, 3) := by decide +kernel
theorem dX7_slotOf_43 : decode cX7_slotOf 43 = .ok (.iload_n 2, 1) := by decide +kernel
theorem dX7_slotOf_44 : decode cX7_slotOf 44 = .ok (.iconst 1, 1) := by decide +kernel
theorem dX7_slotOf_45 : decode cX7_slotOf 45 = .ok (.iadd, 1) := by decide +kernel
theorem dX7_slotOf_46 : decode cX7_slotOf 46 = .ok (.sipush 2047, 3) := by decide +kernel
theorem dX7_slotOf_49 : decode cX7_slotOf 49 = .ok (.iand, 1) := by decide +kernel
theorem dX7_slotOf_50 : decode cX7_slotOf 50 = .ok (.istore_n 2, 1) := by decide +kernel
theorem dX7_slotOf_51 : decode cX7_slotOf 51 = .ok (.iinc 3 1, 3) := by decide +kernel
theorem dX7_slotOf_54 : decode cX7_slotOf 54 = .ok (.goto (-44), 3) := by decide +kernel
theorem dX7_slotOf_57 : decode cX7_slotOf 57 = .ok (.iload_n 2, 1) := by decide +kernel
theorem dX7_slotOf_58 : decode cX7_slotOf 58 = .ok (.ireturn, 1) := by decide +kernel
theorem dX7_rests_0 : decode cX7_rests 0 = .ok (.iconst 0, 1) := by decide +kernel
theorem dX7_rests_1 : decode cX7_rests 1 = .ok (.istore_n 2, 1) := by decide +kernel
theorem dX7_rests_2 : decode cX7_rests 2 = .ok (.iconst 0, 1) := by decide +kernel
theorem dX7_rests_3 : decode cX7_rests 3 = .ok (.istore_n 3, 1) := by decide +kernel
theorem dX7_rests_4 : decode cX7_rests 4 = .ok (.iload_n 3, 1) := by decide +kernel
theorem dX7_rests_5 : decode cX7_rests 5 = .ok (.aload_n 0, 1) := by decide +kernel
theorem dX7_rests_6 : decode cX7_rests 6 = .ok (.getfield 40, 3) := by decide +kernel
theorem dX7_rests_9 : decode cX7_rests 9 = .ok (.if_icmp .ge 36, 3) := by decide +kernel
theorem dX7_rests_12 : decode cX7_rests 12 = .ok (.aload_n 0, 1) := by decide +kernel
theorem dX7_rests_13 : decode cX7_rests 13 = .ok (.getfield 14, 3) := by decide +kernel
theorem dX7_rests_16 : decode cX7_rests 16 = .ok (.aload_n 1, 1) := by decide +kernel
theorem dX7_rests_17 : decode cX7_rests 17 = .ok (.aload_n 0, 1) := by decide +kernel
theorem dX7_rests_18 : decode cX7_rests 18 = .ok (.getfield 18, 3) := by decide +kernel
theorem dX7_rests_21 : decode cX7_rests 21 = .ok (.iload_n 3, 1) := by decide +kernel
theorem dX7_rests_22 : decode cX7_rests 22 = .ok (.iaload, 1) := by decide +kernel
theorem dX7_rests_23 : decode cX7_rests 23 = .ok (.invokevirtual 55, 3) := by decide +kernel
theorem dX7_rests_26 : decode cX7_rests 26 = .ok (.aload_n 0, 1) := by decide +kernel
theorem dX7_rests_27 : decode cX7_rests 27 = .ok (.getfield 14, 3) := by decide +kernel
theorem dX7_rests_30 : decode cX7_rests 30 = .ok (.getfield 59, 3) := by decide +kernel
theorem dX7_rests_33 : decode cX7_rests 33 = .ok (.ifCond .ne 6, 3) := by decide +kernel
theorem dX7_rests_36 : decode cX7_rests 36 = .ok (.iinc 2 1, 3) := by decide +kernel
theorem dX7_rests_39 : decode cX7_rests 39 = .ok (.iinc 3 1, 3) := by decide +kernel
theorem dX7_rests_42 : decode cX7_rests 42 = .ok (.goto (-38), 3) := by decide +kernel
theorem dX7_rests_45 : decode cX7_rests 45 = .ok (.iload_n 2, 1) := by decide +kernel
theorem dX7_rests_46 : decode cX7_rests 46 = .ok (.ireturn, 1) := by decide +kernel
theorem dX7_longest_0 : decode cX7_longest 0 = .ok (.aload_n 0, 1) := by decide +kernel
theorem dX7_longest_1 : decode cX7_longest 1 = .ok (.aload_n 1, 1) := by decide +kernel
theorem dX7_longest_2 : decode cX7_longest 2 = .ok (.invokevirtual 76, 3) := by decide +kernel
theorem dX7_longest_5 : decode cX7_longest 5 = .ok (.iconst 0, 1) := by decide +kernel
theorem dX7_longest_6 : decode cX7_longest 6 = .ok (.istore_n 2, 1) := by decide +kernel
theorem dX7_longest_7 : decode cX7_longest 7 = .ok (.aload_n 0, 1) := by decide +kernel
theorem dX7_longest_8 : decode cX7_longest 8 = .ok (.getfield 28, 3) := by decide +kernel
theorem dX7_longest_11 : decode cX7_longest 11 = .ok (.iconst 0, 1) := by decide +kernel
theorem dX7_longest_12 : decode cX7_longest 12 = .ok (.iaload, 1) := by decide +kernel
theorem dX7_longest_13 : decode cX7_longest 13 = .ok (.ifCond .ne 12, 3) := by decide +kernel
theorem dX7_longest_16 : decode cX7_longest 16 = .ok (.aload_n 0, 1) := by decide +kernel
theorem dX7_longest_17 : decode cX7_longest 17 = .ok (.getfield 34, 3) := by decide +kernel
theorem dX7_longest_20 : decode cX7_longest 20 = .ok (.iconst 0, 1) := by decide +kernel
theorem dX7_longest_21 : decode cX7_longest 21 = .ok (.iconst 0, 1) := by decide +kernel
theorem dX7_longest_22 : decode cX7_longest 22 = .ok (.iastore, 1) := by decide +kernel
theorem dX7_longest_23 : decode cX7_longest 23 = .ok (.iconst 1, 1) := by decide +kernel
theorem dX7_longest_24 : decode cX7_longest 24 = .ok (.istore_n 2, 1) := by decide +kernel
theorem dX7_longest_25 : decode cX7_longest 25 = .ok (.iconst 0, 1) := by decide +kernel
theorem dX7_longest_26 : decode cX7_longest 26 = .ok (.istore_n 3, 1) := by decide +kernel
theorem dX7_longest_27 : decode cX7_longest 27 = .ok (.iconst 0, 1) := by decide +kernel
theorem dX7_longest_28 : decode cX7_longest 28 = .ok (.istore 4, 2) := by decide +kernel
theorem dX7_longest_30 : decode cX7_longest 30 = .ok (.iload 4, 2) := by decide +kernel
theorem dX7_longest_32 : decode cX7_longest 32 = .ok (.iload_n 2, 1) := by decide +kernel
theorem dX7_longest_33 : decode cX7_longest 33 = .ok (.if_icmp .ge 163, 3) := by decide +kernel
theorem dX7_longest_36 : decode cX7_longest 36 = .ok (.iload 4, 2) := by decide +kernel
theorem dX7_longest_38 : decode cX7_longest 38 = .ok (.sipush 630, 3) := by decide +kernel
theorem dX7_longest_41 : decode cX7_longest 41 = .ok (.if_icmp .ge 155, 3) := by decide +kernel
theorem dX7_longest_44 : decode cX7_longest 44 = .ok (.aload_n 0, 1) := by decide +kernel
theorem dX7_longest_45 : decode cX7_longest 45 = .ok (.getfield 34, 3) := by decide +kernel
theorem dX7_longest_48 : decode cX7_longest 48 = .ok (.iload 4, 2) := by decide +kernel
theorem dX7_longest_50 : decode cX7_longest 50 = .ok (.iaload, 1) := by decide +kernel
theorem dX7_longest_51 : decode cX7_longest 51 = .ok (.istore 5, 2) := by decide +kernel
theorem dX7_longest_53 : decode cX7_longest 53 = .ok (.iload_n 3, 1) := by decide +kernel
theorem dX7_longest_54 : decode cX7_longest 54 = .ok (.aload_n 0, 1) := by decide +kernel
theorem dX7_longest_55 : decode cX7_longest 55 = .ok (.getfield 31, 3) := by decide +kernel
theorem dX7_longest_58 : decode cX7_longest 58 = .ok (.iload 5, 2) := by decide +kernel
theorem dX7_longest_60 : decode cX7_longest 60 = .ok (.iaload, 1) := by decide +kernel
theorem dX7_longest_61 : decode cX7_longest 61 = .ok (.invokestatic 80, 3) := by decide +kernel
theorem dX7_longest_64 : decode cX7_longest 64 = .ok (.istore_n 3, 1) := by decide +kernel
theorem dX7_longest_65 : decode cX7_longest 65 = .ok (.aload_n 0, 1) := by decide +kernel
theorem dX7_longest_66 : decode cX7_longest 66 = .ok (.getfield 14, 3) := by decide +kernel
theorem dX7_longest_69 : decode cX7_longest 69 = .ok (.aload_n 1, 1) := by decide +kernel
theorem dX7_longest_70 : decode cX7_longest 70 = .ok (.aload_n 0, 1) := by decide +kernel
theorem dX7_longest_71 : decode cX7_longest 71 = .ok (.getfield 18, 3) := by decide +kernel
theorem dX7_longest_74 : decode cX7_longest 74 = .ok (.iload 5, 2) := by decide +kernel
theorem dX7_longest_76 : decode cX7_longest 76 = .ok (.iaload, 1) := by decide +kernel
theorem dX7_longest_77 : decode cX7_longest 77 = .ok (.invokevirtual 55, 3) := by decide +kernel
theorem dX7_longest_80 : decode cX7_longest 80 = .ok (.iconst 0, 1) := by decide +kernel
theorem dX7_longest_81 : decode cX7_longest 81 = .ok (.istore 6, 2) := by decide +kernel
theorem dX7_longest_83 : decode cX7_longest 83 = .ok (.iload 6, 2) := by decide +kernel
theorem dX7_longest_85 : decode cX7_longest 85 = .ok (.aload_n 0, 1) := by decide +kernel
theorem dX7_longest_86 : decode cX7_longest 86 = .ok (.getfield 14, 3) := by decide +kernel
theorem dX7_longest_89 : decode cX7_longest 89 = .ok (.getfield 59, 3) := by decide +kernel
theorem dX7_longest_92 : decode cX7_longest 92 = .ok (.if_icmp .ge 98, 3) := by decide +kernel
theorem dX7_longest_95 : decode cX7_longest 95 = .ok (.aload_n 0, 1) := by decide +kernel
theorem dX7_longest_96 : decode cX7_longest 96 = .ok (.aload_n 0, 1) := by decide +kernel
theorem dX7_longest_97 : decode cX7_longest 97 = .ok (.getfield 14, 3) := by decide +kernel
theorem dX7_longest_100 : decode cX7_longest 100 = .ok (.getfield 62, 3) := by decide +kernel
theorem dX7_longest_103 : decode cX7_longest 103 = .ok (.iload 6, 2) := by decide +kernel
theorem dX7_longest_105 : decode cX7_longest 105 = .ok (.iaload, 1) := by decide +kernel
theorem dX7_longest_106 : decode cX7_longest 106 = .ok (.invokevirtual 65, 3) := by decide +kernel
theorem dX7_longest_109 : decode cX7_longest 109 = .ok (.istore 7, 2) := by decide +kernel
theorem dX7_longest_111 : decode cX7_longest 111 = .ok (.iload 7, 2) := by decide +kernel
theorem dX7_longest_113 : decode cX7_longest 113 = .ok (.ifCond .ge 6, 3) := by decide +kernel
theorem dX7_longest_116 : decode cX7_longest 116 = .ok (.goto 68, 3) := by decide +kernel
theorem dX7_longest_119 : decode cX7_longest 119 = .ok (.aload_n 0, 1) := by decide +kernel
theorem dX7_longest_120 : decode cX7_longest 120 = .ok (.getfield 31, 3) := by decide +kernel
theorem dX7_longest_123 : decode cX7_longest 123 = .ok (.iload 7, 2) := by decide +kernel
theorem dX7_longest_125 : decode cX7_longest 125 = .ok (.aload_n 0, 1) := by decide +kernel
theorem dX7_longest_126 : decode cX7_longest 126 = .ok (.getfield 31, 3) := by decide +kernel
theorem dX7_longest_129 : decode cX7_longest 129 = .ok (.iload 7, 2) := by decide +kernel
theorem dX7_longest_131 : decode cX7_longest 131 = .ok (.iaload, 1) := by decide +kernel
theorem dX7_longest_132 : decode cX7_longest 132 = .ok (.aload_n 0, 1) := by decide +kernel
theorem dX7_longest_133 : decode cX7_longest 133 = .ok (.getfield 31, 3) := by decide +kernel
theorem dX7_longest_136 : decode cX7_longest 136 = .ok (.iload 5, 2) := by decide +kernel
theorem dX7_longest_138 : decode cX7_longest 138 = .ok (.iaload, 1) := by decide +kernel
theorem dX7_longest_139 : decode cX7_longest 139 = .ok (.iconst 1, 1) := by decide +kernel
theorem dX7_longest_140 : decode cX7_longest 140 = .ok (.iadd, 1) := by decide +kernel
theorem dX7_longest_141 : decode cX7_longest 141 = .ok (.invokestatic 80, 3) := by decide +kernel
theorem dX7_longest_144 : decode cX7_longest 144 = .ok (.iastore, 1) := by decide +kernel
theorem dX7_longest_145 : decode cX7_longest 145 = .ok (.aload_n 0, 1) := by decide +kernel
theorem dX7_longest_146 : decode cX7_longest 146 = .ok (.getfield 28, 3) := by decide +kernel
theorem dX7_longest_149 : decode cX7_longest 149 = .ok (.iload 7, 2) := by decide +kernel
theorem dX7_longest_151 : decode cX7_longest 151 = .ok (.dup2, 1) := by decide +kernel
theorem dX7_longest_152 : decode cX7_longest 152 = .ok (.iaload, 1) := by decide +kernel
theorem dX7_longest_153 : decode cX7_longest 153 = .ok (.iconst 1, 1) := by decide +kernel
theorem dX7_longest_154 : decode cX7_longest 154 = .ok (.isub, 1) := by decide +kernel
theorem dX7_longest_155 : decode cX7_longest 155 = .ok (.iastore, 1) := by decide +kernel
theorem dX7_longest_156 : decode cX7_longest 156 = .ok (.aload_n 0, 1) := by decide +kernel
theorem dX7_longest_157 : decode cX7_longest 157 = .ok (.getfield 28, 3) := by decide +kernel
theorem dX7_longest_160 : decode cX7_longest 160 = .ok (.iload 7, 2) := by decide +kernel
theorem dX7_longest_162 : decode cX7_longest 162 = .ok (.iaload, 1) := by decide +kernel
theorem dX7_longest_163 : decode cX7_longest 163 = .ok (.ifCond .ne 21, 3) := by decide +kernel
theorem dX7_longest_166 : decode cX7_longest 166 = .ok (.iload_n 2, 1) := by decide +kernel
theorem dX7_longest_167 : decode cX7_longest 167 = .ok (.sipush 630, 3) := by decide +kernel
theorem dX7_longest_170 : decode cX7_longest 170 = .ok (.if_icmp .ge 14, 3) := by decide +kernel
theorem dX7_longest_173 : decode cX7_longest 173 = .ok (.aload_n 0, 1) := by decide +kernel
theorem dX7_longest_174 : decode cX7_longest 174 = .ok (.getfield 34, 3) := by decide +kernel
theorem dX7_longest_177 : decode cX7_longest 177 = .ok (.iload_n 2, 1) := by decide +kernel
theorem dX7_longest_178 : decode cX7_longest 178 = .ok (.iload 7, 2) := by decide +kernel
theorem dX7_longest_180 : decode cX7_longest 180 = .ok (.iastore, 1) := by decide +kernel
theorem dX7_longest_181 : decode cX7_longest 181 = .ok (.iinc 2 1, 3) := by decide +kernel
theorem dX7_longest_184 : decode cX7_longest 184 = .ok (.iinc 6 1, 3) := by decide +kernel
theorem dX7_longest_187 : decode cX7_longest 187 = .ok (.goto (-104), 3) := by decide +kernel
theorem dX7_longest_190 : decode cX7_longest 190 = .ok (.iinc 4 1, 3) := by decide +kernel
theorem dX7_longest_193 : decode cX7_longest 193 = .ok (.goto (-163), 3) := by decide +kernel
theorem dX7_longest_196 : decode cX7_longest 196 = .ok (.iload_n 2, 1) := by decide +kernel
theorem dX7_longest_197 : decode cX7_longest 197 = .ok (.aload_n 0, 1) := by decide +kernel
theorem dX7_longest_198 : decode cX7_longest 198 = .ok (.getfield 40, 3) := by decide +kernel
theorem dX7_longest_201 : decode cX7_longest 201 = .ok (.if_icmp .ge 8, 3) := by decide +kernel
theorem dX7_longest_204 : decode cX7_longest 204 = .ok (.bipush (-2), 2) := by decide +kernel
theorem dX7_longest_206 : decode cX7_longest 206 = .ok (.goto 4, 3) := by decide +kernel
theorem dX7_longest_209 : decode cX7_longest 209 = .ok (.iload_n 3, 1) := by decide +kernel
theorem dX7_longest_210 : decode cX7_longest 210 = .ok (.ireturn, 1) := by decide +kernel
theorem dX7_countWays_0 : decode cX7_countWays 0 = .ok (.iconst 0, 1) := by decide +kernel
theorem dX7_countWays_1 : decode cX7_countWays 1 = .ok (.istore_n 2, 1) := by decide +kernel
theorem dX7_countWays_2 : decode cX7_countWays 2 = .ok (.iload_n 2, 1) := by decide +kernel
theorem dX7_countWays_3 : decode cX7_countWays 3 = .ok (.aload_n 0, 1) := by decide +kernel
theorem dX7_countWays_4 : decode cX7_countWays 4 = .ok (.getfield 40, 3) := by decide +kernel
theorem dX7_countWays_7 : decode cX7_countWays 7 = .ok (.if_icmp .ge 23, 3) := by decide +kernel
theorem dX7_countWays_10 : decode cX7_countWays 10 = .ok (.aload_n 0, 1) := by decide +kernel
theorem dX7_countWays_11 : decode cX7_countWays 11 = .ok (.getfield 28, 3) := by decide +kernel
theorem dX7_countWays_14 : decode cX7_countWays 14 = .ok (.iload_n 2, 1) := by decide +kernel
theorem dX7_countWays_15 : decode cX7_countWays 15 = .ok (.iconst 0, 1) := by decide +kernel
theorem dX7_countWays_16 : decode cX7_countWays 16 = .ok (.iastore, 1) := by decide +kernel
theorem dX7_countWays_17 : decode cX7_countWays 17 = .ok (.aload_n 0, 1) := by decide +kernel
theorem dX7_countWays_18 : decode cX7_countWays 18 = .ok (.getfield 31, 3) := by decide +kernel
theorem dX7_countWays_21 : decode cX7_countWays 21 = .ok (.iload_n 2, 1) := by decide +kernel
theorem dX7_countWays_22 : decode cX7_countWays 22 = .ok (.iconst 0, 1) := by decide +kernel
theorem dX7_countWays_23 : decode cX7_countWays 23 = .ok (.iastore, 1) := by decide +kernel
theorem dX7_countWays_24 : decode cX7_countWays 24 = .ok (.iinc 2 1, 3) := by decide +kernel
theorem dX7_countWays_27 : decode cX7_countWays 27 = .ok (.goto (-25), 3) := by decide +kernel
theorem dX7_countWays_30 : decode cX7_countWays 30 = .ok (.iconst 0, 1) := by decide +kernel
theorem dX7_countWays_31 : decode cX7_countWays 31 = .ok (.istore_n 2, 1) := by decide +kernel
theorem dX7_countWays_32 : decode cX7_countWays 32 = .ok (.iload_n 2, 1) := by decide +kernel
theorem dX7_countWays_33 : decode cX7_countWays 33 = .ok (.aload_n 0, 1) := by decide +kernel
theorem dX7_countWays_34 : decode cX7_countWays 34 = .ok (.getfield 40, 3) := by decide +kernel
theorem dX7_countWays_37 : decode cX7_countWays 37 = .ok (.if_icmp .ge 73, 3) := by decide +kernel
theorem dX7_countWays_40 : decode cX7_countWays 40 = .ok (.aload_n 0, 1) := by decide +kernel
theorem dX7_countWays_41 : decode cX7_countWays 41 = .ok (.getfield 14, 3) := by decide +kernel
theorem dX7_countWays_44 : decode cX7_countWays 44 = .ok (.aload_n 1, 1) := by decide +kernel
theorem dX7_countWays_45 : decode cX7_countWays 45 = .ok (.aload_n 0, 1) := by decide +kernel
theorem dX7_countWays_46 : decode cX7_countWays 46 = .ok (.getfield 18, 3) := by decide +kernel
theorem dX7_countWays_49 : decode cX7_countWays 49 = .ok (.iload_n 2, 1) := by decide +kernel
theorem dX7_countWays_50 : decode cX7_countWays 50 = .ok (.iaload, 1) := by decide +kernel
theorem dX7_countWays_51 : decode cX7_countWays 51 = .ok (.invokevirtual 55, 3) := by decide +kernel
theorem dX7_countWays_54 : decode cX7_countWays 54 = .ok (.iconst 0, 1) := by decide +kernel
theorem dX7_countWays_55 : decode cX7_countWays 55 = .ok (.istore_n 3, 1) := by decide +kernel
theorem dX7_countWays_56 : decode cX7_countWays 56 = .ok (.iload_n 3, 1) := by decide +kernel
theorem dX7_countWays_57 : decode cX7_countWays 57 = .ok (.aload_n 0, 1) := by decide +kernel
theorem dX7_countWays_58 : decode cX7_countWays 58 = .ok (.getfield 14, 3) := by decide +kernel
theorem dX7_countWays_61 : decode cX7_countWays 61 = .ok (.getfield 59, 3) := by decide +kernel
theorem dX7_countWays_64 : decode cX7_countWays 64 = .ok (.if_icmp .ge 40, 3) := by decide +kernel
theorem dX7_countWays_67 : decode cX7_countWays 67 = .ok (.aload_n 0, 1) := by decide +kernel
theorem dX7_countWays_68 : decode cX7_countWays 68 = .ok (.aload_n 0, 1) := by decide +kernel
theorem dX7_countWays_69 : decode cX7_countWays 69 = .ok (.getfield 14, 3) := by decide +kernel
theorem dX7_countWays_72 : decode cX7_countWays 72 = .ok (.getfield 62, 3) := by decide +kernel
theorem dX7_countWays_75 : decode cX7_countWays 75 = .ok (.iload_n 3, 1) := by decide +kernel
theorem dX7_countWays_76 : decode cX7_countWays 76 = .ok (.iaload, 1) := by decide +kernel
theorem dX7_countWays_77 : decode cX7_countWays 77 = .ok (.invokevirtual 65, 3) := by decide +kernel
theorem dX7_countWays_80 : decode cX7_countWays 80 = .ok (.istore 4, 2) := by decide +kernel
theorem dX7_countWays_82 : decode cX7_countWays 82 = .ok (.iload 4, 2) := by decide +kernel
theorem dX7_countWays_84 : decode cX7_countWays 84 = .ok (.ifCond .lt 14, 3) := by decide +kernel
theorem dX7_countWays_87 : decode cX7_countWays 87 = .ok (.aload_n 0, 1) := by decide +kernel
theorem dX7_countWays_88 : decode cX7_countWays 88 = .ok (.getfield 28, 3) := by decide +kernel
theorem dX7_countWays_91 : decode cX7_countWays 91 = .ok (.iload 4, 2) := by decide +kernel
theorem dX7_countWays_93 : decode cX7_countWays 93 = .ok (.dup2, 1) := by decide +kernel
theorem dX7_countWays_94 : decode cX7_countWays 94 = .ok (.iaload, 1) := by decide +kernel
theorem dX7_countWays_95 : decode cX7_countWays 95 = .ok (.iconst 1, 1) := by decide +kernel
theorem dX7_countWays_96 : decode cX7_countWays 96 = .ok (.iadd, 1) := by decide +kernel
theorem dX7_countWays_97 : decode cX7_countWays 97 = .ok (.iastore, 1) := by decide +kernel
theorem dX7_countWays_98 : decode cX7_countWays 98 = .ok (.iinc 3 1, 3) := by decide +kernel
theorem dX7_countWays_101 : decode cX7_countWays 101 = .ok (.goto (-45), 3) := by decide +kernel
theorem dX7_countWays_104 : decode cX7_countWays 104 = .ok (.iinc 2 1, 3) := by decide +kernel
theorem dX7_countWays_107 : decode cX7_countWays 107 = .ok (.goto (-75), 3) := by decide +kernel
theorem dX7_countWays_110 : decode cX7_countWays 110 = .ok (.return_, 1) := by decide +kernel
theorem dX8_init_0 : decode cX8_init 0 = .ok (.aload_n 0, 1) := by decide +kernel
theorem dX8_init_1 : decode cX8_init 1 = .ok (.invokespecial 3, 3) := by decide +kernel
theorem dX8_init_4 : decode cX8_init 4 = .ok (.aload_n 0, 1) := by decide +kernel
theorem dX8_init_5 : decode cX8_init 5 = .ok (.iconst (-1), 1) := by decide +kernel
theorem dX8_init_6 : decode cX8_init 6 = .ok (.putfield 9, 3) := by decide +kernel
theorem dX8_init_9 : decode cX8_init 9 = .ok (.aload_n 0, 1) := by decide +kernel
theorem dX8_init_10 : decode cX8_init 10 = .ok (.iconst (-1), 1) := by decide +kernel
theorem dX8_init_11 : decode cX8_init 11 = .ok (.putfield 15, 3) := by decide +kernel
theorem dX8_init_14 : decode cX8_init 14 = .ok (.aload_n 0, 1) := by decide +kernel
theorem dX8_init_15 : decode cX8_init 15 = .ok (.iconst 0, 1) := by decide +kernel
theorem dX8_init_16 : decode cX8_init 16 = .ok (.putfield 18, 3) := by decide +kernel
theorem dX8_init_19 : decode cX8_init 19 = .ok (.aload_n 0, 1) := by decide +kernel
theorem dX8_init_20 : decode cX8_init 20 = .ok (.bipush 60, 2) := by decide +kernel
theorem dX8_init_22 : decode cX8_init 22 = .ok (.newarray .long, 2) := by decide +kernel
theorem dX8_init_24 : decode cX8_init 24 = .ok (.putfield 21, 3) := by decide +kernel
theorem dX8_init_27 : decode cX8_init 27 = .ok (.return_, 1) := by decide +kernel
theorem dX8_isEmpty_0 : decode cX8_isEmpty 0 = .ok (.aload_n 0, 1) := by decide +kernel
theorem dX8_isEmpty_1 : decode cX8_isEmpty 1 = .ok (.getfield 9, 3) := by decide +kernel
theorem dX8_isEmpty_4 : decode cX8_isEmpty 4 = .ok (.iconst (-1), 1) := by decide +kernel
theorem dX8_isEmpty_5 : decode cX8_isEmpty 5 = .ok (.if_icmp .ne 15, 3) := by decide +kernel
theorem dX8_isEmpty_8 : decode cX8_isEmpty 8 = .ok (.aload_n 0, 1) := by decide +kernel
theorem dX8_isEmpty_9 : decode cX8_isEmpty 9 = .ok (.getfield 15, 3) := by decide +kernel
theorem dX8_isEmpty_12 : decode cX8_isEmpty 12 = .ok (.iconst (-1), 1) := by decide +kernel
theorem dX8_isEmpty_13 : decode cX8_isEmpty 13 = .ok (.if_icmp .ne 7, 3) := by decide +kernel
theorem dX8_isEmpty_16 : decode cX8_isEmpty 16 = .ok (.iconst 1, 1) := by decide +kernel
theorem dX8_isEmpty_17 : decode cX8_isEmpty 17 = .ok (.goto 4, 3) := by decide +kernel
theorem dX8_isEmpty_20 : decode cX8_isEmpty 20 = .ok (.iconst 0, 1) := by decide +kernel
theorem dX8_isEmpty_21 : decode cX8_isEmpty 21 = .ok (.ireturn, 1) := by decide +kernel
theorem dX8_rowRefusal_0 : decode cX8_rowRefusal 0 = .ok (.aload_n 0, 1) := by decide +kernel
theorem dX8_rowRefusal_1 : decode cX8_rowRefusal 1 = .ok (.invokevirtual 25, 3) := by decide +kernel
theorem dX8_rowRefusal_4 : decode cX8_rowRefusal 4 = .ok (.ifCond .eq 6, 3) := by decide +kernel
theorem dX8_rowRefusal_7 : decode cX8_rowRefusal 7 = .ok (.bipush (-11), 2) := by decide +kernel
theorem dX8_rowRefusal_9 : decode cX8_rowRefusal 9 = .ok (.ireturn, 1) := by decide +kernel
theorem dX8_rowRefusal_10 : decode cX8_rowRefusal 10 = .ok (.aload_n 0, 1) := by decide +kernel
theorem dX8_rowRefusal_11 : decode cX8_rowRefusal 11 = .ok (.getfield 15, 3) := by decide +kernel
theorem dX8_rowRefusal_14 : decode cX8_rowRefusal 14 = .ok (.iconst (-1), 1) := by decide +kernel
theorem dX8_rowRefusal_15 : decode cX8_rowRefusal 15 = .ok (.if_icmp .ne 8, 3) := by decide +kernel
theorem dX8_rowRefusal_18 : decode cX8_rowRefusal 18 = .ok (.bipush (-12), 2) := by decide +kernel
theorem dX8_rowRefusal_20 : decode cX8_rowRefusal 20 = .ok (.goto 4, 3) := by decide +kernel
theorem dX8_rowRefusal_23 : decode cX8_rowRefusal 23 = .ok (.iconst 0, 1) := by decide +kernel
theorem dX8_rowRefusal_24 : decode cX8_rowRefusal 24 = .ok (.ireturn, 1) := by decide +kernel
theorem dX8_bytesRefusal_0 : decode cX8_bytesRefusal 0 = .ok (.aload_n 0, 1) := by decide +kernel
theorem dX8_bytesRefusal_1 : decode cX8_bytesRefusal 1 = .ok (.invokevirtual 29, 3) := by decide +kernel
theorem dX8_bytesRefusal_4 : decode cX8_bytesRefusal 4 = .ok (.istore_n 1, 1) := by decide +kernel
theorem dX8_bytesRefusal_5 : decode cX8_bytesRefusal 5 = .ok (.iload_n 1, 1) := by decide +kernel
theorem dX8_bytesRefusal_6 : decode cX8_bytesRefusal 6 = .ok (.ifCond .ne 15, 3) := by decide +kernel
theorem dX8_bytesRefusal_9 : decode cX8_bytesRefusal 9 = .ok (.aload_n 0, 1) := by decide +kernel
theorem dX8_bytesRefusal_10 : decode cX8_bytesRefusal 10 = .ok (.getfield 15, 3) := by decide +kernel
theorem dX8_bytesRefusal_13 : decode cX8_bytesRefusal 13 = .ok (.ifCond .eq 8, 3) := by decide +kernel
theorem dX8_bytesRefusal_16 : decode cX8_bytesRefusal 16 = .ok (.bipush (-12), 2) := by decide +kernel
theorem dX8_bytesRefusal_18 : decode cX8_bytesRefusal 18 = .ok (.goto 4, 3) := by decide +kernel
theorem dX8_bytesRefusal_21 : decode cX8_bytesRefusal 21 = .ok (.iload_n 1, 1) := by decide +kernel
theorem dX8_bytesRefusal_22 : decode cX8_bytesRefusal 22 = .ok (.ireturn, 1) := by decide +kernel
theorem dX8_holdBody_0 : decode cX8_holdBody 0 = .ok (.aload_n 0, 1) := by decide +kernel
theorem dX8_holdBody_1 : decode cX8_holdBody 1 = .ok (.iload_n 1, 1) := by decide +kernel
theorem dX8_holdBody_2 : decode cX8_holdBody 2 = .ok (.putfield 9, 3) := by decide +kernel
theorem dX8_holdBody_5 : decode cX8_holdBody 5 = .ok (.aload_n 0, 1) := by decide +kernel
theorem dX8_holdBody_6 : decode cX8_holdBody 6 = .ok (.iconst (-1), 1) := by decide +kernel
theorem dX8_holdBody_7 : decode cX8_holdBody 7 = .ok (.putfield 15, 3) := by decide +kernel
theorem dX8_holdBody_10 : decode cX8_holdBody 10 = .ok (.aload_n 0, 1) := by decide +kernel
theorem dX8_holdBody_11 : decode cX8_holdBody 11 = .ok (.iconst 0, 1) := by decide +kernel
theorem dX8_holdBody_12 : decode cX8_holdBody 12 = .ok (.putfield 18, 3) := by decide +kernel
theorem dX8_holdBody_15 : decode cX8_holdBody 15 = .ok (.return_, 1) := by decide +kernel
theorem dX8_holdRow_0 : decode cX8_holdRow 0 = .ok (.aload_n 0, 1) := by decide +kernel
theorem dX8_holdRow_1 : decode cX8_holdRow 1 = .ok (.iconst (-1), 1) := by decide +kernel
theorem dX8_holdRow_2 : decode cX8_holdRow 2 = .ok (.putfield 9, 3) := by decide +kernel
theorem dX8_holdRow_5 : decode cX8_holdRow 5 = .ok (.aload_n 0, 1) := by decide +kernel
theorem dX8_holdRow_6 : decode cX8_holdRow 6 = .ok (.iload_n 1, 1) := by decide +kernel
theorem dX8_holdRow_7 : decode cX8_holdRow 7 = .ok (.putfield 15, 3) := by decide +kernel
theorem dX8_holdRow_10 : decode cX8_holdRow 10 = .ok (.aload_n 0, 1) := by decide +kernel
theorem dX8_holdRow_11 : decode cX8_holdRow 11 = .ok (.iload_n 2, 1) := by decide +kernel
theorem dX8_holdRow_12 : decode cX8_holdRow 12 = .ok (.bipush 60, 2) := by decide +kernel
theorem dX8_holdRow_14 : decode cX8_holdRow 14 = .ok (.invokestatic 33, 3) := by decide +kernel
theorem dX8_holdRow_17 : decode cX8_holdRow 17 = .ok (.putfield 18, 3) := by decide +kernel
theorem dX8_holdRow_20 : decode cX8_holdRow 20 = .ok (.iconst 0, 1) := by decide +kernel
theorem dX8_holdRow_21 : decode cX8_holdRow 21 = .ok (.istore_n 3, 1) := by decide +kernel
theorem dX8_holdRow_22 : decode cX8_holdRow 22 = .ok (.iload_n 3, 1) := by decide +kernel
theorem dX8_holdRow_23 : decode cX8_holdRow 23 = .ok (.aload_n 0, 1) := by decide +kernel
theorem dX8_holdRow_24 : decode cX8_holdRow 24 = .ok (.getfield 18, 3) := by decide +kernel
theorem dX8_holdRow_27 : decode cX8_holdRow 27 = .ok (.if_icmp .ge 16, 3) := by decide +kernel
theorem dX8_holdRow_30 : decode cX8_holdRow 30 = .ok (.aload_n 0, 1) := by decide +kernel
theorem dX8_holdRow_31 : decode cX8_holdRow 31 = .ok (.getfield 21, 3) := by decide +kernel
theorem dX8_holdRow_34 : decode cX8_holdRow 34 = .ok (.iload_n 3, 1) := by decide +kernel
theorem dX8_holdRow_35 : decode cX8_holdRow 35 = .ok (.lconst 0, 1) := by decide +kernel
theorem dX8_holdRow_36 : decode cX8_holdRow 36 = .ok (.lastore, 1) := by decide +kernel
theorem dX8_holdRow_37 : decode cX8_holdRow 37 = .ok (.iinc 3 1, 3) := by decide +kernel
theorem dX8_holdRow_40 : decode cX8_holdRow 40 = .ok (.goto (-18), 3) := by decide +kernel
theorem dX8_holdRow_43 : decode cX8_holdRow 43 = .ok (.return_, 1) := by decide +kernel
theorem dX8_hasPart_0 : decode cX8_hasPart 0 = .ok (.iload_n 1, 1) := by decide +kernel
theorem dX8_hasPart_1 : decode cX8_hasPart 1 = .ok (.ifCond .lt 29, 3) := by decide +kernel
theorem dX8_hasPart_4 : decode cX8_hasPart 4 = .ok (.iload_n 2, 1) := by decide +kernel
theorem dX8_hasPart_5 : decode cX8_hasPart 5 = .ok (.ifCond .lt 25, 3) := by decide +kernel
theorem dX8_hasPart_8 : decode cX8_hasPart 8 = .ok (.iload_n 1, 1) := by decide +kernel
theorem dX8_hasPart_9 : decode cX8_hasPart 9 = .ok (.aload_n 0, 1) := by decide +kernel
theorem dX8_hasPart_10 : decode cX8_hasPart 10 = .ok (.getfield 18, 3) := by decide +kernel
theorem dX8_hasPart_13 : decode cX8_hasPart 13 = .ok (.if_icmp .gt 17, 3) := by decide +kernel
theorem dX8_hasPart_16 : decode cX8_hasPart 16 = .ok (.iload_n 2, 1) := by decide +kernel
theorem dX8_hasPart_17 : decode cX8_hasPart 17 = .ok (.aload_n 0, 1) := by decide +kernel
theorem dX8_hasPart_18 : decode cX8_hasPart 18 = .ok (.getfield 18, 3) := by decide +kernel
theorem dX8_hasPart_21 : decode cX8_hasPart 21 = .ok (.iload_n 1, 1) := by decide +kernel
theorem dX8_hasPart_22 : decode cX8_hasPart 22 = .ok (.isub, 1) := by decide +kernel
theorem dX8_hasPart_23 : decode cX8_hasPart 23 = .ok (.if_icmp .gt 7, 3) := by decide +kernel
theorem dX8_hasPart_26 : decode cX8_hasPart 26 = .ok (.iconst 1, 1) := by decide +kernel
theorem dX8_hasPart_27 : decode cX8_hasPart 27 = .ok (.goto 4, 3) := by decide +kernel
theorem dX8_hasPart_30 : decode cX8_hasPart 30 = .ok (.iconst 0, 1) := by decide +kernel
theorem dX8_hasPart_31 : decode cX8_hasPart 31 = .ok (.ireturn, 1) := by decide +kernel
theorem dX8_at_0 : decode cX8_at 0 = .ok (.iload_n 1, 1) := by decide +kernel
theorem dX8_at_1 : decode cX8_at 1 = .ok (.ifCond .lt 20, 3) := by decide +kernel
theorem dX8_at_4 : decode cX8_at 4 = .ok (.iload_n 1, 1) := by decide +kernel
theorem dX8_at_5 : decode cX8_at 5 = .ok (.aload_n 0, 1) := by decide +kernel
theorem dX8_at_6 : decode cX8_at 6 = .ok (.getfield 18, 3) := by decide +kernel
theorem dX8_at_9 : decode cX8_at 9 = .ok (.if_icmp .ge 12, 3) := by decide +kernel
theorem dX8_at_12 : decode cX8_at 12 = .ok (.aload_n 0, 1) := by decide +kernel
theorem dX8_at_13 : decode cX8_at 13 = .ok (.getfield 21, 3) := by decide +kernel
theorem dX8_at_16 : decode cX8_at 16 = .ok (.iload_n 1, 1) := by decide +kernel
theorem dX8_at_17 : decode cX8_at 17 = .ok (.laload, 1) := by decide +kernel
theorem dX8_at_18 : decode cX8_at 18 = .ok (.goto 4, 3) := by decide +kernel
theorem dX8_at_21 : decode cX8_at 21 = .ok (.lconst 0, 1) := by decide +kernel
theorem dX8_at_22 : decode cX8_at 22 = .ok (.lreturn, 1) := by decide +kernel
theorem dX8_set_0 : decode cX8_set 0 = .ok (.iload_n 1, 1) := by decide +kernel
theorem dX8_set_1 : decode cX8_set 1 = .ok (.ifCond .lt 22, 3) := by decide +kernel
theorem dX8_set_4 : decode cX8_set 4 = .ok (.iload_n 1, 1) := by decide +kernel
theorem dX8_set_5 : decode cX8_set 5 = .ok (.aload_n 0, 1) := by decide +kernel
theorem dX8_set_6 : decode cX8_set 6 = .ok (.getfield 18, 3) := by decide +kernel
theorem dX8_set_9 : decode cX8_set 9 = .ok (.if_icmp .ge 14, 3) := by decide +kernel
theorem dX8_set_12 : decode cX8_set 12 = .ok (.aload_n 0, 1) := by decide +kernel
theorem dX8_set_13 : decode cX8_set 13 = .ok (.getfield 21, 3) := by decide +kernel
theorem dX8_set_16 : decode cX8_set 16 = .ok (.iload_n 1, 1) := by decide +kernel
theorem dX8_set_17 : decode cX8_set 17 = .ok (.aload_n 0, 1) := by decide +kernel
theorem dX8_set_18 : decode cX8_set 18 = .ok (.lload_n 2, 1) := by decide +kernel
theorem dX8_set_19 : decode cX8_set 19 = .ok (.invokevirtual 39, 3) := by decide +kernel
theorem dX8_set_22 : decode cX8_set 22 = .ok (.lastore, 1) := by decide +kernel
theorem dX8_set_23 : decode cX8_set 23 = .ok (.return_, 1) := by decide +kernel
theorem dX8_narrowed_0 : decode cX8_narrowed 0 = .ok (.aload_n 0, 1) := by decide +kernel
theorem dX8_narrowed_1 : decode cX8_narrowed 1 = .ok (.getfield 15, 3) := by decide +kernel
theorem dX8_narrowed_4 : decode cX8_narrowed 4 = .ok (.tableswitch 48 0 3 #[32, 37, 42, 46], 32) := by decide +kernel
theorem dX8_narrowed_36 : decode cX8_narrowed 36 = .ok (.lload_n 1, 1) := by decide +kernel
theorem dX8_narrowed_37 : decode cX8_narrowed 37 = .ok (.l2i, 1) := by decide +kernel
theorem dX8_narrowed_38 : decode cX8_narrowed 38 = .ok (.i2b, 1) := by decide +kernel
theorem dX8_narrowed_39 : decode cX8_narrowed 39 = .ok (.i2l, 1) := by decide +kernel
theorem dX8_narrowed_40 : decode cX8_narrowed 40 = .ok (.lreturn, 1) := by decide +kernel
theorem dX8_narrowed_41 : decode cX8_narrowed 41 = .ok (.lload_n 1, 1) := by decide +kernel
theorem dX8_narrowed_42 : decode cX8_narrowed 42 = .ok (.l2i, 1) := by decide +kernel
theorem dX8_narrowed_43 : decode cX8_narrowed 43 = .ok (.i2s, 1) := by decide +kernel
theorem dX8_narrowed_44 : decode cX8_narrowed 44 = .ok (.i2l, 1) := by decide +kernel
theorem dX8_narrowed_45 : decode cX8_narrowed 45 = .ok (.lreturn, 1) := by decide +kernel
theorem dX8_narrowed_46 : decode cX8_narrowed 46 = .ok (.lload_n 1, 1) := by decide +kernel
theorem dX8_narrowed_47 : decode cX8_narrowed 47 = .ok (.l2i, 1) := by decide +kernel
theorem dX8_narrowed_48 : decode cX8_narrowed 48 = .ok (.i2l, 1) := by decide +kernel
theorem dX8_narrowed_49 : decode cX8_narrowed 49 = .ok (.lreturn, 1) := by decide +kernel
theorem dX8_narrowed_50 : decode cX8_narrowed 50 = .ok (.lload_n 1, 1) := by decide +kernel
theorem dX8_narrowed_51 : decode cX8_narrowed 51 = .ok (.lreturn, 1) := by decide +kernel
theorem dX8_narrowed_52 : decode cX8_narrowed 52 = .ok (.lload_n 1, 1) := by decide +kernel
theorem dX8_narrowed_53 : decode cX8_narrowed 53 = .ok (.lconst 0, 1) := by decide +kernel
theorem dX8_narrowed_54 : decode cX8_narrowed 54 = .ok (.lcmp, 1) := by decide +kernel
theorem dX8_narrowed_55 : decode cX8_narrowed 55 = .ok (.ifCond .eq 7, 3) := by decide +kernel
theorem dX8_narrowed_58 : decode cX8_narrowed 58 = .ok (.lconst 1, 1) := by decide +kernel
theorem dX8_narrowed_59 : decode cX8_narrowed 59 = .ok (.goto 4, 3) := by decide +kernel
theorem dX8_narrowed_62 : decode cX8_narrowed 62 = .ok (.lconst 0, 1) := by decide +kernel
theorem dX8_narrowed_63 : decode cX8_narrowed 63 = .ok (.lreturn, 1) := by decide +kernel
theorem dX9_init_0 : decode cX9_init 0 = .ok (.aload_n 0, 1) := by decide +kernel
theorem dX9_init_1 : decode cX9_init 1 = .ok (.invokespecial 3, 3) := by decide +kernel
theorem dX9_init_4 : decode cX9_init 4 = .ok (.aload_n 0, 1) := by decide +kernel
theorem dX9_init_5 : decode cX9_init 5 = .ok (.bipush 60, 2) := by decide +kernel
theorem dX9_init_7 : decode cX9_init 7 = .ok (.newarray .int, 2) := by decide +kernel
theorem dX9_init_9 : decode cX9_init 9 = .ok (.putfield 11, 3) := by decide +kernel
theorem dX9_init_12 : decode cX9_init 12 = .ok (.aload_n 0, 1) := by decide +kernel
theorem dX9_init_13 : decode cX9_init 13 = .ok (.bipush 60, 2) := by decide +kernel
theorem dX9_init_15 : decode cX9_init 15 = .ok (.newarray .int, 2) := by decide +kernel
theorem dX9_init_17 : decode cX9_init 17 = .ok (.putfield 15, 3) := by decide +kernel
theorem dX9_init_20 : decode cX9_init 20 = .ok (.aload_n 0, 1) := by decide +kernel
theorem dX9_init_21 : decode cX9_init 21 = .ok (.iconst 4, 1) := by decide +kernel
theorem dX9_init_22 : decode cX9_init 22 = .ok (.newarray .int, 2) := by decide +kernel
theorem dX9_init_24 : decode cX9_init 24 = .ok (.putfield 18, 3) := by decide +kernel
theorem dX9_init_27 : decode cX9_init 27 = .ok (.aload_n 0, 1) := by decide +kernel
theorem dX9_init_28 : decode cX9_init 28 = .ok (.iconst 0, 1) := by decide +kernel
theorem dX9_init_29 : decode cX9_init 29 = .ok (.putfield 21, 3) := by decide +kernel
theorem dX9_init_32 : decode cX9_init 32 = .ok (.return_, 1) := by decide +kernel
theorem dX9_list_0 : decode cX9_list 0 = .ok (.aload_n 0, 1) := by decide +kernel
theorem dX9_list_1 : decode cX9_list 1 = .ok (.iconst 0, 1) := by decide +kernel
theorem dX9_list_2 : decode cX9_list 2 = .ok (.putfield 21, 3) := by decide +kernel
theorem dX9_list_5 : decode cX9_list 5 = .ok (.aload_n 0, 1) := by decide +kernel
theorem dX9_list_6 : decode cX9_list 6 = .ok (.aload_n 1, 1) := by decide +kernel
theorem dX9_list_7 : decode cX9_list 7 = .ok (.getfield 25, 3) := by decide +kernel
theorem dX9_list_10 : decode cX9_list 10 = .ok (.getfield 31, 3) := by decide +kernel
theorem dX9_list_13 : decode cX9_list 13 = .ok (.iload_n 2, 1) := by decide +kernel
theorem dX9_list_14 : decode cX9_list 14 = .ok (.invokevirtual 36, 3) := by decide +kernel
theorem dX9_list_17 : decode cX9_list 17 = .ok (.iconst 0, 1) := by decide +kernel
theorem dX9_list_18 : decode cX9_list 18 = .ok (.istore_n 3, 1) := by decide +kernel
theorem dX9_list_19 : decode cX9_list 19 = .ok (.iload_n 3, 1) := by decide +kernel
theorem dX9_list_20 : decode cX9_list 20 = .ok (.aload_n 1, 1) := by decide +kernel
theorem dX9_list_21 : decode cX9_list 21 = .ok (.getfield 25, 3) := by decide +kernel
theorem dX9_list_24 : decode cX9_list 24 = .ok (.getfield 40, 3) := by decide +kernel
theorem dX9_list_27 : decode cX9_list 27 = .ok (.if_icmp .ge 16, 3) := by decide +kernel
theorem dX9_list_30 : decode cX9_list 30 = .ok (.aload_n 0, 1) := by decide +kernel
theorem dX9_list_31 : decode cX9_list 31 = .ok (.aload_n 1, 1) := by decide +kernel
theorem dX9_list_32 : decode cX9_list 32 = .ok (.iload_n 2, 1) := by decide +kernel
theorem dX9_list_33 : decode cX9_list 33 = .ok (.iload_n 3, 1) := by decide +kernel
theorem dX9_list_34 : decode cX9_list 34 = .ok (.invokevirtual 43, 3) := by decide +kernel
theorem dX9_list_37 : decode cX9_list 37 = .ok (.iinc 3 1, 3) := by decide +kernel
theorem dX9_list_40 : decode cX9_list 40 = .ok (.goto (-21), 3) := by decide +kernel
theorem dX9_list_43 : decode cX9_list 43 = .ok (.return_, 1) := by decide +kernel
theorem dX9_seat_0 : decode cX9_seat 0 = .ok (.iconst 0, 1) := by decide +kernel
theorem dX9_seat_1 : decode cX9_seat 1 = .ok (.istore_n 3, 1) := by decide +kernel
theorem dX9_seat_2 : decode cX9_seat 2 = .ok (.iload_n 3, 1) := by decide +kernel
theorem dX9_seat_3 : decode cX9_seat 3 = .ok (.iconst 4, 1) := by decide +kernel
theorem dX9_seat_4 : decode cX9_seat 4 = .ok (.if_icmp .ge 16, 3) := by decide +kernel
theorem dX9_seat_7 : decode cX9_seat 7 = .ok (.aload_n 0, 1) := by decide +kernel
theorem dX9_seat_8 : decode cX9_seat 8 = .ok (.getfield 18, 3) := by decide +kernel
theorem dX9_seat_11 : decode cX9_seat 11 = .ok (.iload_n 3, 1) := by decide +kernel
theorem dX9_seat_12 : decode cX9_seat 12 = .ok (.iconst 0, 1) := by decide +kernel
theorem dX9_seat_13 : decode cX9_seat 13 = .ok (.iastore, 1) := by decide +kernel
theorem dX9_seat_14 : decode cX9_seat 14 = .ok (.iinc 3 1, 3) := by decide +kernel
theorem dX9_seat_17 : decode cX9_seat 17 = .ok (.goto (-15), 3) := by decide +kernel
theorem dX9_seat_20 : decode cX9_seat 20 = .ok (.iconst 0, 1) := by decide +kernel
theorem dX9_seat_21 : decode cX9_seat 21 = .ok (.istore_n 3, 1) := by decide +kernel
theorem dX9_seat_22 : decode cX9_seat 22 = .ok (.iload_n 3, 1) := by decide +kernel
theorem dX9_seat_23 : decode cX9_seat 23 = .ok (.iload_n 1, 1) := by decide +kernel
theorem dX9_seat_24 : decode cX9_seat 24 = .ok (.if_icmp .ge 25, 3) := by decide +kernel
theorem dX9_seat_27 : decode cX9_seat 27 = .ok (.aload_n 0, 1) := by decide +kernel
theorem dX9_seat_28 : decode cX9_seat 28 = .ok (.getfield 18, 3) := by decide +kernel
theorem dX9_seat_31 : decode cX9_seat 31 = .ok (.iload_n 2, 1) := by decide +kernel
theorem dX9_seat_32 : decode cX9_seat 32 = .ok (.iload_n 3, 1) := by decide +kernel
theorem dX9_seat_33 : decode cX9_seat 33 = .ok (.invokestatic 47, 3) := by decide +kernel
theorem dX9_seat_36 : decode cX9_seat 36 = .ok (.dup2, 1) := by decide +kernel
theorem dX9_seat_37 : decode cX9_seat 37 = .ok (.iaload, 1) := by decide +kernel
theorem dX9_seat_38 : decode cX9_seat 38 = .ok (.iconst 1, 1) := by decide +kernel
theorem dX9_seat_39 : decode cX9_seat 39 = .ok (.iload_n 3, 1) := by decide +kernel
theorem dX9_seat_40 : decode cX9_seat 40 = .ok (.ishl, 1) := by decide +kernel
theorem dX9_seat_41 : decode cX9_seat 41 = .ok (.ior, 1) := by decide +kernel
theorem dX9_seat_42 : decode cX9_seat 42 = .ok (.iastore, 1) := by decide +kernel
theorem dX9_seat_43 : decode cX9_seat 43 = .ok (.iinc 3 1, 3) := by decide +kernel
theorem dX9_seat_46 : decode cX9_seat 46 = .ok (.goto (-24), 3) := by decide +kernel
theorem dX9_seat_49 : decode cX9_seat 49 = .ok (.return_, 1) := by decide +kernel
theorem dX9_listAt_0 : decode cX9_listAt 0 = .ok (.aload_n 0, 1) := by decide +kernel
theorem dX9_listAt_1 : decode cX9_listAt 1 = .ok (.getfield 18, 3) := by decide +kernel
theorem dX9_listAt_4 : decode cX9_listAt 4 = .ok (.aload_n 1, 1) := by decide +kernel
theorem dX9_listAt_5 : decode cX9_listAt 5 = .ok (.getfield 51, 3) := by decide +kernel
theorem dX9_listAt_8 : decode cX9_listAt 8 = .ok (.iload_n 3, 1) := by decide +kernel
theorem dX9_listAt_9 : decode cX9_listAt 9 = .ok (.iaload, 1) := by decide +kernel
theorem dX9_listAt_10 : decode cX9_listAt 10 = .ok (.iaload, 1) := by decide +kernel
theorem dX9_listAt_11 : decode cX9_listAt 11 = .ok (.istore 4, 2) := by decide +kernel
theorem dX9_listAt_13 : decode cX9_listAt 13 = .ok (.aload_n 0, 1) := by decide +kernel
theorem dX9_listAt_14 : decode cX9_listAt 14 = .ok (.getfield 18, 3) := by decide +kernel
theorem dX9_listAt_17 : decode cX9_listAt 17 = .ok (.aload_n 1, 1) := by decide +kernel
theorem dX9_listAt_18 : decode cX9_listAt 18 = .ok (.getfield 54, 3) := by decide +kernel
theorem dX9_listAt_21 : decode cX9_listAt 21 = .ok (.iload_n 3, 1) := by decide +kernel
theorem dX9_listAt_22 : decode cX9_listAt 22 = .ok (.iaload, 1) := by decide +kernel
theorem dX9_listAt_23 : decode cX9_listAt 23 = .ok (.iaload, 1) := by decide +kernel
theorem dX9_listAt_24 : decode cX9_listAt 24 = .ok (.istore 5, 2) := by decide +kernel
theorem dX9_listAt_26 : decode cX9_listAt 26 = .ok (.iload 4, 2) := by decide +kernel
theorem dX9_listAt_28 : decode cX9_listAt 28 = .ok (.ifCond .eq 8, 3) := by decide +kernel
theorem dX9_listAt_31 : decode cX9_listAt 31 = .ok (.iload 5, 2) := by decide +kernel
theorem dX9_listAt_33 : decode cX9_listAt 33 = .ok (.ifCond .ne 4, 3) := by decide +kernel
theorem dX9_listAt_36 : decode cX9_listAt 36 = .ok (.return_, 1) := by decide +kernel
theorem dX9_listAt_37 : decode cX9_listAt 37 = .ok (.iconst 0, 1) := by decide +kernel
theorem dX9_listAt_38 : decode cX9_listAt 38 = .ok (.istore 6, 2) := by decide +kernel
theorem dX9_listAt_40 : decode cX9_listAt 40 = .ok (.iload 6, 2) := by decide +kernel
theorem dX9_listAt_42 : decode cX9_listAt 42 = .ok (.aload_n 1, 1) := by decide +kernel
theorem dX9_listAt_43 : decode cX9_listAt 43 = .ok (.getfield 25, 3) := by decide +kernel
theorem dX9_listAt_46 : decode cX9_listAt 46 = .ok (.getfield 31, 3) := by decide +kernel
theorem dX9_listAt_49 : decode cX9_listAt 49 = .ok (.if_icmp .ge 131, 3) := by decide +kernel
theorem dX9_listAt_52 : decode cX9_listAt 52 = .ok (.iload 4, 2) := by decide +kernel
theorem dX9_listAt_54 : decode cX9_listAt 54 = .ok (.iload 6, 2) := by decide +kernel
theorem dX9_listAt_56 : decode cX9_listAt 56 = .ok (.ishr, 1) := by decide +kernel
theorem dX9_listAt_57 : decode cX9_listAt 57 = .ok (.iconst 1, 1) := by decide +kernel
theorem dX9_listAt_58 : decode cX9_listAt 58 = .ok (.iand, 1) := by decide +kernel
theorem dX9_listAt_59 : decode cX9_listAt 59 = .ok (.ifCond .ne 7, 3) := by decide +kernel
theorem dX9_listAt_62 : decode cX9_listAt 62 = .ok (.iconst 0, 1) := by decide +kernel
theorem dX9_listAt_63 : decode cX9_listAt 63 = .ok (.goto 18, 3) := by decide +kernel
theorem dX9_listAt_66 : decode cX9_listAt 66 = .ok (.aload_n 1, 1) := by decide +kernel
theorem dX9_listAt_67 : decode cX9_listAt 67 = .ok (.getfield 57, 3) := by decide +kernel
theorem dX9_listAt_70 : decode cX9_listAt 70 = .ok (.iload_n 3, 1) := by decide +kernel
theorem dX9_listAt_71 : decode cX9_listAt 71 = .ok (.bipush 7, 2) := by decide +kernel
theorem dX9_listAt_73 : decode cX9_listAt 73 = .ok (.imul, 1) := by decide +kernel
theorem dX9_listAt_74 : decode cX9_listAt 74 = .ok (.iload 6, 2) := by decide +kernel
theorem dX9_listAt_76 : decode cX9_listAt 76 = .ok (.iadd, 1) := by decide +kernel
theorem dX9_listAt_77 : decode cX9_listAt 77 = .ok (.iaload, 1) := by decide +kernel
theorem dX9_listAt_78 : decode cX9_listAt 78 = .ok (.iload 5, 2) := by decide +kernel
theorem dX9_listAt_80 : decode cX9_listAt 80 = .ok (.iand, 1) := by decide +kernel
theorem dX9_listAt_81 : decode cX9_listAt 81 = .ok (.istore 7, 2) := by decide +kernel
theorem dX9_listAt_83 : decode cX9_listAt 83 = .ok (.iconst 0, 1) := by decide +kernel
theorem dX9_listAt_84 : decode cX9_listAt 84 = .ok (.istore 8, 2) := by decide +kernel
theorem dX9_listAt_86 : decode cX9_listAt 86 = .ok (.iload 8, 2) := by decide +kernel
theorem dX9_listAt_88 : decode cX9_listAt 88 = .ok (.aload_n 1, 1) := by decide +kernel
theorem dX9_listAt_89 : decode cX9_listAt 89 = .ok (.getfield 25, 3) := by decide +kernel
theorem dX9_listAt_92 : decode cX9_listAt 92 = .ok (.getfield 31, 3) := by decide +kernel
theorem dX9_listAt_95 : decode cX9_listAt 95 = .ok (.if_icmp .ge 79, 3) := by decide +kernel
theorem dX9_listAt_98 : decode cX9_listAt 98 = .ok (.iload 7, 2) := by decide +kernel
theorem dX9_listAt_100 : decode cX9_listAt 100 = .ok (.iload 8, 2) := by decide +kernel
theorem dX9_listAt_102 : decode cX9_listAt 102 = .ok (.ishr, 1) := by decide +kernel
theorem dX9_listAt_103 : decode cX9_listAt 103 = .ok (.iconst 1, 1) := by decide +kernel
theorem dX9_listAt_104 : decode cX9_listAt 104 = .ok (.iand, 1) := by decide +kernel
theorem dX9_listAt_105 : decode cX9_listAt 105 = .ok (.ifCond .eq 63, 3) := by decide +kernel
theorem dX9_listAt_108 : decode cX9_listAt 108 = .ok (.aload_n 0, 1) := by decide +kernel
theorem dX9_listAt_109 : decode cX9_listAt 109 = .ok (.getfield 21, 3) := by decide +kernel
theorem dX9_listAt_112 : decode cX9_listAt 112 = .ok (.bipush 60, 2) := by decide +kernel
theorem dX9_listAt_114 : decode cX9_listAt 114 = .ok (.if_icmp .ge 54, 3) := by decide +kernel
theorem dX9_listAt_117 : decode cX9_listAt 117 = .ok (.aload_n 0, 1) := by decide +kernel
theorem dX9_listAt_118 : decode cX9_listAt 118 = .ok (.getfield 11, 3) := by decide +kernel
theorem dX9_listAt_121 : decode cX9_listAt 121 = .ok (.aload_n 0, 1) := by decide +kernel
theorem dX9_listAt_122 : decode cX9_listAt 122 = .ok (.getfield 21, 3) := by decide +kernel
theorem dX9_listAt_125 : decode cX9_listAt 125 = .ok (.bipush 100, 2) := by decide +kernel
theorem dX9_listAt_127 : decode cX9_listAt 127 = .ok (.iload_n 3, 1) := by decide +kernel
theorem dX9_listAt_128 : decode cX9_listAt 128 = .ok (.imul, 1) := by decide +kernel
theorem dX9_listAt_129 : decode cX9_listAt 129 = .ok (.bipush 10, 2) := by decide +kernel
theorem dX9_listAt_131 : decode cX9_listAt 131 = .ok (.iload 6, 2) := by decide +kernel
theorem dX9_listAt_133 : decode cX9_listAt 133 = .ok (.imul, 1) := by decide +kernel
theorem dX9_listAt_134 : decode cX9_listAt 134 = .ok (.iadd, 1) := by decide +kernel
theorem dX9_listAt_135 : decode cX9_listAt 135 = .ok (.iload 8, 2) := by decide +kernel
theorem dX9_listAt_137 : decode cX9_listAt 137 = .ok (.iadd, 1) := by decide +kernel
theorem dX9_listAt_138 : decode cX9_listAt 138 = .ok (.iastore, 1) := by decide +kernel
theorem dX9_listAt_139 : decode cX9_listAt 139 = .ok (.aload_n 0, 1) := by decide +kernel
theorem dX9_listAt_140 : decode cX9_listAt 140 = .ok (.getfield 15, 3) := by decide +kernel
theorem dX9_listAt_143 : decode cX9_listAt 143 = .ok (.aload_n 0, 1) := by decide +kernel
theorem dX9_listAt_144 : decode cX9_listAt 144 = .ok (.getfield 21, 3) := by decide +kernel
theorem dX9_listAt_147 : decode cX9_listAt 147 = .ok (.aload_n 1, 1) := by decide +kernel
theorem dX9_listAt_148 : decode cX9_listAt 148 = .ok (.iload_n 2, 1) := by decide +kernel
theorem dX9_listAt_149 : decode cX9_listAt 149 = .ok (.iload_n 3, 1) := by decide +kernel
theorem dX9_listAt_150 : decode cX9_listAt 150 = .ok (.iload 6, 2) := by decide +kernel
theorem dX9_listAt_152 : decode cX9_listAt 152 = .ok (.iload 8, 2) := by decide +kernel
theorem dX9_listAt_154 : decode cX9_listAt 154 = .ok (.invokevirtual 60, 3) := by decide +kernel
theorem dX9_listAt_157 : decode cX9_listAt 157 = .ok (.iastore, 1) := by decide +kernel
theorem dX9_listAt_158 : decode cX9_listAt 158 = .ok (.aload_n 0, 1) := by decide +kernel
theorem dX9_listAt_159 : decode cX9_listAt 159 = .ok (.dup, 1) := by decide +kernel
theorem dX9_listAt_160 : decode cX9_listAt 160 = .ok (.getfield 21, 3) := by decide +kernel
theorem dX9_listAt_163 : decode cX9_listAt 163 = .ok (.iconst 1, 1) := by decide +kernel
theorem dX9_listAt_164 : decode cX9_listAt 164 = .ok (.iadd, 1) := by decide +kernel
theorem dX9_listAt_165 : decode cX9_listAt 165 = .ok (.putfield 21, 3) := by decide +kernel
theorem dX9_listAt_168 : decode cX9_listAt 168 = .ok (.iinc 8 1, 3) := by decide +kernel
theorem dX9_listAt_171 : decode cX9_listAt 171 = .ok (.goto (-85), 3) := by decide +kernel
theorem dX9_listAt_174 : decode cX9_listAt 174 = .ok (.iinc 6 1, 3) := by decide +kernel
theorem dX9_listAt_177 : decode cX9_listAt 177 = .ok (.goto (-137), 3) := by decide +kernel
theorem dX9_listAt_180 : decode cX9_listAt 180 = .ok (.return_, 1) := by decide +kernel
theorem dX10_init_0 : decode cX10_init 0 = .ok (.aload_n 0, 1) := by decide +kernel
theorem dX10_init_1 : decode cX10_init 1 = .ok (.invokespecial 3, 3) := by decide +kernel
theorem dX10_init_4 : decode cX10_init 4 = .ok (.aload_n 0, 1) := by decide +kernel
theorem dX10_init_5 : decode cX10_init 5 = .ok (.bipush 120, 2) := by decide +kernel
theorem dX10_init_7 : decode cX10_init 7 = .ok (.newarray .int, 2) := by decide +kernel
theorem dX10_init_9 : decode cX10_init 9 = .ok (.putfield 9, 3) := by decide +kernel
theorem dX10_init_12 : decode cX10_init 12 = .ok (.aload_n 0, 1) := by decide +kernel
theorem dX10_init_13 : decode cX10_init 13 = .ok (.iconst 0, 1) := by decide +kernel
theorem dX10_init_14 : decode cX10_init 14 = .ok (.putfield 13, 3) := by decide +kernel
theorem dX10_init_17 : decode cX10_init 17 = .ok (.aload_n 0, 1) := by decide +kernel
theorem dX10_init_18 : decode cX10_init 18 = .ok (.bipush 121, 2) := by decide +kernel
theorem dX10_init_20 : decode cX10_init 20 = .ok (.newarray .int, 2) := by decide +kernel
theorem dX10_init_22 : decode cX10_init 22 = .ok (.putfield 17, 3) := by decide +kernel
theorem dX10_init_25 : decode cX10_init 25 = .ok (.aload_n 0, 1) := by decide +kernel
theorem dX10_init_26 : decode cX10_init 26 = .ok (.iconst 0, 1) := by decide +kernel
theorem dX10_init_27 : decode cX10_init 27 = .ok (.putfield 20, 3) := by decide +kernel
theorem dX10_init_30 : decode cX10_init 30 = .ok (.aload_n 0, 1) := by decide +kernel
theorem dX10_init_31 : decode cX10_init 31 = .ok (.iconst 0, 1) := by decide +kernel
theorem dX10_init_32 : decode cX10_init 32 = .ok (.putfield 23, 3) := by decide +kernel
theorem dX10_init_35 : decode cX10_init 35 = .ok (.aload_n 0, 1) := by decide +kernel
theorem dX10_init_36 : decode cX10_init 36 = .ok (.iconst (-1), 1) := by decide +kernel
theorem dX10_init_37 : decode cX10_init 37 = .ok (.putfield 26, 3) := by decide +kernel
theorem dX10_init_40 : decode cX10_init 40 = .ok (.return_, 1) := by decide +kernel
theorem dX10_take_0 : decode cX10_take 0 = .ok (.aload_n 0, 1) := by decide +kernel
theorem dX10_take_1 : decode cX10_take 1 = .ok (.getfield 13, 3) := by decide +kernel
theorem dX10_take_4 : decode cX10_take 4 = .ok (.bipush 120, 2) := by decide +kernel
theorem dX10_take_6 : decode cX10_take 6 = .ok (.if_icmp .lt 5, 3) := by decide +kernel
theorem dX10_take_9 : decode cX10_take 9 = .ok (.iconst 0, 1) := by decide +kernel
theorem dX10_take_10 : decode cX10_take 10 = .ok (.ireturn, 1) := by decide +kernel
theorem dX10_take_11 : decode cX10_take 11 = .ok (.aload_n 0, 1) := by decide +kernel
theorem dX10_take_12 : decode cX10_take 12 = .ok (.getfield 9, 3) := by decide +kernel
theorem dX10_take_15 : decode cX10_take 15 = .ok (.aload_n 0, 1) := by decide +kernel
theorem dX10_take_16 : decode cX10_take 16 = .ok (.getfield 13, 3) := by decide +kernel
theorem dX10_take_19 : decode cX10_take 19 = .ok (.iload_n 1, 1) := by decide +kernel
theorem dX10_take_20 : decode cX10_take 20 = .ok (.iastore, 1) := by decide +kernel
theorem dX10_take_21 : decode cX10_take 21 = .ok (.aload_n 0, 1) := by decide +kernel
theorem dX10_take_22 : decode cX10_take 22 = .ok (.dup, 1) := by decide +kernel
theorem dX10_take_23 : decode cX10_take 23 = .ok (.getfield 13, 3) := by decide +kernel
theorem dX10_take_26 : decode cX10_take 26 = .ok (.iconst 1, 1) := by decide +kernel
theorem dX10_take_27 : decode cX10_take 27 = .ok (.iadd, 1) := by decide +kernel
theorem dX10_take_28 : decode cX10_take 28 = .ok (.putfield 13, 3) := by decide +kernel
theorem dX10_take_31 : decode cX10_take 31 = .ok (.iconst 1, 1) := by decide +kernel
theorem dX10_take_32 : decode cX10_take 32 = .ok (.ireturn, 1) := by decide +kernel
theorem dX10_read_0 : decode cX10_read 0 = .ok (.aload_n 0, 1) := by decide +kernel
theorem dX10_read_1 : decode cX10_read 1 = .ok (.iconst 0, 1) := by decide +kernel
theorem dX10_read_2 : decode cX10_read 2 = .ok (.putfield 23, 3) := by decide +kernel
theorem dX10_read_5 : decode cX10_read 5 = .ok (.aload_n 0, 1) := by decide +kernel
theorem dX10_read_6 : decode cX10_read 6 = .ok (.iconst (-1), 1) := by decide +kernel
theorem dX10_read_7 : decode cX10_read 7 = .ok (.putfield 26, 3) := by decide +kernel
theorem dX10_read_10 : decode cX10_read 10 = .ok (.aload_n 0, 1) := by decide +kernel
theorem dX10_read_11 : decode cX10_read 11 = .ok (.iconst 0, 1) := by decide +kernel
theorem dX10_read_12 : decode cX10_read 12 = .ok (.putfield 20, 3) := by decide +kernel
theorem dX10_read_15 : decode cX10_read 15 = .ok (.aload_n 0, 1) := by decide +kernel
theorem dX10_read_16 : decode cX10_read 16 = .ok (.invokevirtual 29, 3) := by decide +kernel
theorem dX10_read_19 : decode cX10_read 19 = .ok (.iconst 1, 1) := by decide +kernel
theorem dX10_read_20 : decode cX10_read 20 = .ok (.istore_n 1, 1) := by decide +kernel
theorem dX10_read_21 : decode cX10_read 21 = .ok (.iload_n 1, 1) := by decide +kernel
theorem dX10_read_22 : decode cX10_read 22 = .ok (.bipush 120, 2) := by decide +kernel
theorem dX10_read_24 : decode cX10_read 24 = .ok (.if_icmp .ge 32, 3) := by decide +kernel
theorem dX10_read_27 : decode cX10_read 27 = .ok (.aload_n 0, 1) := by decide +kernel
theorem dX10_read_28 : decode cX10_read 28 = .ok (.invokevirtual 32, 3) := by decide +kernel
theorem dX10_read_31 : decode cX10_read 31 = .ok (.bipush 59, 2) := by decide +kernel
theorem dX10_read_33 : decode cX10_read 33 = .ok (.if_icmp .ne 23, 3) := by decide +kernel
theorem dX10_read_36 : decode cX10_read 36 = .ok (.aload_n 0, 1) := by decide +kernel
theorem dX10_read_37 : decode cX10_read 37 = .ok (.dup, 1) := by decide +kernel
theorem dX10_read_38 : decode cX10_read 38 = .ok (.getfield 23, 3) := by decide +kernel
theorem dX10_read_41 : decode cX10_read 41 = .ok (.iconst 1, 1) := by decide +kernel
theorem dX10_read_42 : decode cX10_read 42 = .ok (.iadd, 1) := by decide +kernel
theorem dX10_read_43 : decode cX10_read 43 = .ok (.putfield 23, 3) := by decide +kernel
theorem dX10_read_46 : decode cX10_read 46 = .ok (.aload_n 0, 1) := by decide +kernel
theorem dX10_read_47 : decode cX10_read 47 = .ok (.invokevirtual 29, 3) := by decide +kernel
theorem dX10_read_50 : decode cX10_read 50 = .ok (.iinc 1 1, 3) := by decide +kernel
theorem dX10_read_53 : decode cX10_read 53 = .ok (.goto (-32), 3) := by decide +kernel
theorem dX10_read_56 : decode cX10_read 56 = .ok (.aload_n 0, 1) := by decide +kernel
theorem dX10_read_57 : decode cX10_read 57 = .ok (.getfield 23, 3) := by decide +kernel
theorem dX10_read_60 : decode cX10_read 60 = .ok (.aload_n 0, 1) := by decide +kernel
theorem dX10_read_61 : decode cX10_read 61 = .ok (.getfield 13, 3) := by decide +kernel
theorem dX10_read_64 : decode cX10_read 64 = .ok (.if_icmp .ge 7, 3) := by decide +kernel
theorem dX10_read_67 : decode cX10_read 67 = .ok (.aload_n 0, 1) := by decide +kernel
theorem dX10_read_68 : decode cX10_read 68 = .ok (.invokevirtual 36, 3) := by decide +kernel
theorem dX10_read_71 : decode cX10_read 71 = .ok (.aload_n 0, 1) := by decide +kernel
theorem dX10_read_72 : decode cX10_read 72 = .ok (.getfield 26, 3) := by decide +kernel
theorem dX10_read_75 : decode cX10_read 75 = .ok (.ireturn, 1) := by decide +kernel
theorem dX10_line_0 : decode cX10_line 0 = .ok (.aload_n 0, 1) := by decide +kernel
theorem dX10_line_1 : decode cX10_line 1 = .ok (.iconst 0, 1) := by decide +kernel
theorem dX10_line_2 : decode cX10_line 2 = .ok (.iconst 0, 1) := by decide +kernel
theorem dX10_line_3 : decode cX10_line 3 = .ok (.invokevirtual 39, 3) := by decide +kernel
theorem dX10_line_6 : decode cX10_line 6 = .ok (.aload_n 0, 1) := by decide +kernel
theorem dX10_line_7 : decode cX10_line 7 = .ok (.invokevirtual 32, 3) := by decide +kernel
theorem dX10_line_10 : decode cX10_line 10 = .ok (.bipush 63, 2) := by decide +kernel
theorem dX10_line_12 : decode cX10_line 12 = .ok (.if_icmp .ne 25, 3) := by decide +kernel
theorem dX10_line_15 : decode cX10_line 15 = .ok (.aload_n 0, 1) := by decide +kernel
theorem dX10_line_16 : decode cX10_line 16 = .ok (.dup, 1) := by decide +kernel
theorem dX10_line_17 : decode cX10_line 17 = .ok (.getfield 23, 3) := by decide +kernel
theorem dX10_line_20 : decode cX10_line 20 = .ok (.iconst 1, 1) := by decide +kernel
theorem dX10_line_21 : decode cX10_line 21 = .ok (.iadd, 1) := by decide +kernel
theorem dX10_line_22 : decode cX10_line 22 = .ok (.putfield 23, 3) := by decide +kernel
theorem dX10_line_25 : decode cX10_line 25 = .ok (.aload_n 0, 1) := by decide +kernel
theorem dX10_line_26 : decode cX10_line 26 = .ok (.bipush (-63), 2) := by decide +kernel
theorem dX10_line_28 : decode cX10_line 28 = .ok (.invokevirtual 43, 3) := by decide +kernel
theorem dX10_line_31 : decode cX10_line 31 = .ok (.aload_n 0, 1) := by decide +kernel
theorem dX10_line_32 : decode cX10_line 32 = .ok (.iconst 0, 1) := by decide +kernel
theorem dX10_line_33 : decode cX10_line 33 = .ok (.iconst 0, 1) := by decide +kernel
theorem dX10_line_34 : decode cX10_line 34 = .ok (.invokevirtual 39, 3) := by decide +kernel
theorem dX10_line_37 : decode cX10_line 37 = .ok (.aload_n 0, 1) := by decide +kernel
theorem dX10_line_38 : decode cX10_line 38 = .ok (.bipush (-59), 2) := by decide +kernel
theorem dX10_line_40 : decode cX10_line 40 = .ok (.invokevirtual 43, 3) := by decide +kernel
theorem dX10_line_43 : decode cX10_line 43 = .ok (.return_, 1) := by decide +kernel
theorem dX10_level_0 : decode cX10_level 0 = .ok (.iload_n 1, 1) := by decide +kernel
theorem dX10_level_1 : decode cX10_level 1 = .ok (.iconst 5, 1) := by decide +kernel
theorem dX10_level_2 : decode cX10_level 2 = .ok (.if_icmp .lt 9, 3) := by decide +kernel
theorem dX10_level_5 : decode cX10_level 5 = .ok (.aload_n 0, 1) := by decide +kernel
theorem dX10_level_6 : decode cX10_level 6 = .ok (.iload_n 2, 1) := by decide +kernel
theorem dX10_level_7 : decode cX10_level 7 = .ok (.invokevirtual 47, 3) := by decide +kernel
theorem dX10_level_10 : decode cX10_level 10 = .ok (.return_, 1) := by decide +kernel
theorem dX10_level_11 : decode cX10_level 11 = .ok (.aload_n 0, 1) := by decide +kernel
theorem dX10_level_12 : decode cX10_level 12 = .ok (.iload_n 1, 1) := by decide +kernel
theorem dX10_level_13 : decode cX10_level 13 = .ok (.iconst 1, 1) := by decide +kernel
theorem dX10_level_14 : decode cX10_level 14 = .ok (.iadd, 1) := by decide +kernel
theorem dX10_level_15 : decode cX10_level 15 = .ok (.iload_n 2, 1) := by decide +kernel
theorem dX10_level_16 : decode cX10_level 16 = .ok (.invokevirtual 39, 3) := by decide +kernel
theorem dX10_level_19 : decode cX10_level 19 = .ok (.iconst 0, 1) := by decide +kernel
theorem dX10_level_20 : decode cX10_level 20 = .ok (.istore_n 3, 1) := by decide +kernel
theorem dX10_level_21 : decode cX10_level 21 = .ok (.iload_n 3, 1) := by decide +kernel
theorem dX10_level_22 : decode cX10_level 22 = .ok (.bipush 120, 2) := by decide +kernel
theorem dX10_level_24 : decode cX10_level 24 = .ok (.if_icmp .ge 57, 3) := by decide +kernel
theorem dX10_level_27 : decode cX10_level 27 = .ok (.aload_n 0, 1) := by decide +kernel
theorem dX10_level_28 : decode cX10_level 28 = .ok (.invokevirtual 32, 3) := by decide +kernel
theorem dX10_level_31 : decode cX10_level 31 = .ok (.iload_n 1, 1) := by decide +kernel
theorem dX10_level_32 : decode cX10_level 32 = .ok (.invokestatic 50, 3) := by decide +kernel
theorem dX10_level_35 : decode cX10_level 35 = .ok (.ifCond .eq 46, 3) := by decide +kernel
theorem dX10_level_38 : decode cX10_level 38 = .ok (.aload_n 0, 1) := by decide +kernel
theorem dX10_level_39 : decode cX10_level 39 = .ok (.invokevirtual 32, 3) := by decide +kernel
theorem dX10_level_42 : decode cX10_level 42 = .ok (.istore 4, 2) := by decide +kernel
theorem dX10_level_44 : decode cX10_level 44 = .ok (.aload_n 0, 1) := by decide +kernel
theorem dX10_level_45 : decode cX10_level 45 = .ok (.dup, 1) := by decide +kernel
theorem dX10_level_46 : decode cX10_level 46 = .ok (.getfield 23, 3) := by decide +kernel
theorem dX10_level_49 : decode cX10_level 49 = .ok (.iconst 1, 1) := by decide +kernel
theorem dX10_level_50 : decode cX10_level 50 = .ok (.iadd, 1) := by decide +kernel
theorem dX10_level_51 : decode cX10_level 51 = .ok (.putfield 23, 3) := by decide +kernel
theorem dX10_level_54 : decode cX10_level 54 = .ok (.aload_n 0, 1) := by decide +kernel
theorem dX10_level_55 : decode cX10_level 55 = .ok (.iload_n 1, 1) := by decide +kernel
theorem dX10_level_56 : decode cX10_level 56 = .ok (.iconst 1, 1) := by decide +kernel
theorem dX10_level_57 : decode cX10_level 57 = .ok (.iadd, 1) := by decide +kernel
theorem dX10_level_58 : decode cX10_level 58 = .ok (.iload_n 2, 1) := by decide +kernel
theorem dX10_level_59 : decode cX10_level 59 = .ok (.invokevirtual 39, 3) := by decide +kernel
theorem dX10_level_62 : decode cX10_level 62 = .ok (.aload_n 0, 1) := by decide +kernel
theorem dX10_level_63 : decode cX10_level 63 = .ok (.iload 4, 2) := by decide +kernel
theorem dX10_level_65 : decode cX10_level 65 = .ok (.ineg, 1) := by decide +kernel
theorem dX10_level_66 : decode cX10_level 66 = .ok (.invokevirtual 43, 3) := by decide +kernel
theorem dX10_level_69 : decode cX10_level 69 = .ok (.iload_n 1, 1) := by decide +kernel
theorem dX10_level_70 : decode cX10_level 70 = .ok (.iconst 2, 1) := by decide +kernel
theorem dX10_level_71 : decode cX10_level 71 = .ok (.if_icmp .ne 4, 3) := by decide +kernel
theorem dX10_level_74 : decode cX10_level 74 = .ok (.return_, 1) := by decide +kernel
theorem dX10_level_75 : decode cX10_level 75 = .ok (.iinc 3 1, 3) := by decide +kernel
theorem dX10_level_78 : decode cX10_level 78 = .ok (.goto (-57), 3) := by decide +kernel
theorem dX10_level_81 : decode cX10_level 81 = .ok (.return_, 1) := by decide +kernel
theorem dX10_operand_0 : decode cX10_operand 0 = .ok (.aload_n 0, 1) := by decide +kernel
theorem dX10_operand_1 : decode cX10_operand 1 = .ok (.invokevirtual 32, 3) := by decide +kernel
theorem dX10_operand_4 : decode cX10_operand 4 = .ok (.istore_n 2, 1) := by decide +kernel
theorem dX10_operand_5 : decode cX10_operand 5 = .ok (.iload_n 2, 1) := by decide +kernel
theorem dX10_operand_6 : decode cX10_operand 6 = .ok (.invokestatic 54, 3) := by decide +kernel
theorem dX10_operand_9 : decode cX10_operand 9 = .ok (.ifCond .eq 10, 3) := by decide +kernel
theorem dX10_operand_12 : decode cX10_operand 12 = .ok (.aload_n 0, 1) := by decide +kernel
theorem dX10_operand_13 : decode cX10_operand 13 = .ok (.invokevirtual 58, 3) := by decide +kernel
theorem dX10_operand_16 : decode cX10_operand 16 = .ok (.goto 148, 3) := by decide +kernel
theorem dX10_operand_19 : decode cX10_operand 19 = .ok (.iload_n 2, 1) := by decide +kernel
theorem dX10_operand_20 : decode cX10_operand 20 = .ok (.invokestatic 61, 3) := by decide +kernel
theorem dX10_operand_23 : decode cX10_operand 23 = .ok (.ifCond .eq 22, 3) := by decide +kernel
theorem dX10_operand_26 : decode cX10_operand 26 = .ok (.aload_n 0, 1) := by decide +kernel
theorem dX10_operand_27 : decode cX10_operand 27 = .ok (.dup, 1) := by decide +kernel
theorem dX10_operand_28 : decode cX10_operand 28 = .ok (.getfield 23, 3) := by decide +kernel
theorem dX10_operand_31 : decode cX10_operand 31 = .ok (.iconst 1, 1) := by decide +kernel
theorem dX10_operand_32 : decode cX10_operand 32 = .ok (.iadd, 1) := by decide +kernel
theorem dX10_operand_33 : decode cX10_operand 33 = .ok (.putfield 23, 3) := by decide +kernel
theorem dX10_operand_36 : decode cX10_operand 36 = .ok (.aload_n 0, 1) := by decide +kernel
theorem dX10_operand_37 : decode cX10_operand 37 = .ok (.iload_n 2, 1) := by decide +kernel
theorem dX10_operand_38 : decode cX10_operand 38 = .ok (.ineg, 1) := by decide +kernel
theorem dX10_operand_39 : decode cX10_operand 39 = .ok (.invokevirtual 43, 3) := by decide +kernel
theorem dX10_operand_42 : decode cX10_operand 42 = .ok (.goto 122, 3) := by decide +kernel
theorem dX10_operand_45 : decode cX10_operand 45 = .ok (.iload_n 1, 1) := by decide +kernel
theorem dX10_operand_46 : decode cX10_operand 46 = .ok (.bipush 6, 2) := by decide +kernel
theorem dX10_operand_48 : decode cX10_operand 48 = .ok (.if_icmp .lt 10, 3) := by decide +kernel
theorem dX10_operand_51 : decode cX10_operand 51 = .ok (.aload_n 0, 1) := by decide +kernel
theorem dX10_operand_52 : decode cX10_operand 52 = .ok (.invokevirtual 36, 3) := by decide +kernel
theorem dX10_operand_55 : decode cX10_operand 55 = .ok (.goto 109, 3) := by decide +kernel
theorem dX10_operand_58 : decode cX10_operand 58 = .ok (.iload_n 2, 1) := by decide +kernel
theorem dX10_operand_59 : decode cX10_operand 59 = .ok (.bipush 33, 2) := by decide +kernel
theorem dX10_operand_61 : decode cX10_operand 61 = .ok (.if_icmp .eq 9, 3) := by decide +kernel
theorem dX10_operand_64 : decode cX10_operand 64 = .ok (.iload_n 2, 1) := by decide +kernel
theorem dX10_operand_65 : decode cX10_operand 65 = .ok (.bipush 45, 2) := by decide +kernel
theorem dX10_operand_67 : decode cX10_operand 67 = .ok (.if_icmp .ne 40, 3) := by decide +kernel
theorem dX10_operand_70 : decode cX10_operand 70 = .ok (.aload_n 0, 1) := by decide +kernel
theorem dX10_operand_71 : decode cX10_operand 71 = .ok (.dup, 1) := by decide +kernel
theorem dX10_operand_72 : decode cX10_operand 72 = .ok (.getfield 23, 3) := by decide +kernel
theorem dX10_operand_75 : decode cX10_operand 75 = .ok (.iconst 1, 1) := by decide +kernel
theorem dX10_operand_76 : decode cX10_operand 76 = .ok (.iadd, 1) := by decide +kernel
theorem dX10_operand_77 : decode cX10_operand 77 = .ok (.putfield 23, 3) := by decide +kernel
theorem dX10_operand_80 : decode cX10_operand 80 = .ok (.aload_n 0, 1) := by decide +kernel
theorem dX10_operand_81 : decode cX10_operand 81 = .ok (.iload_n 1, 1) := by decide +kernel
theorem dX10_operand_82 : decode cX10_operand 82 = .ok (.iconst 1, 1) := by decide +kernel
theorem dX10_operand_83 : decode cX10_operand 83 = .ok (.iadd, 1) := by decide +kernel
theorem dX10_operand_84 : decode cX10_operand 84 = .ok (.invokevirtual 47, 3) := by decide +kernel
theorem dX10_operand_87 : decode cX10_operand 87 = .ok (.aload_n 0, 1) := by decide +kernel
theorem dX10_operand_88 : decode cX10_operand 88 = .ok (.iload_n 2, 1) := by decide +kernel
theorem dX10_operand_89 : decode cX10_operand 89 = .ok (.bipush 33, 2) := by decide +kernel
theorem dX10_operand_91 : decode cX10_operand 91 = .ok (.if_icmp .ne 8, 3) := by decide +kernel
theorem dX10_operand_94 : decode cX10_operand 94 = .ok (.bipush (-33), 2) := by decide +kernel
theorem dX10_operand_96 : decode cX10_operand 96 = .ok (.goto 5, 3) := by decide +kernel
theorem dX10_operand_99 : decode cX10_operand 99 = .ok (.bipush (-126), 2) := by decide +kernel
theorem dX10_operand_101 : decode cX10_operand 101 = .ok (.invokevirtual 43, 3) := by decide +kernel
theorem dX10_operand_104 : decode cX10_operand 104 = .ok (.goto 60, 3) := by decide +kernel
theorem dX10_operand_107 : decode cX10_operand 107 = .ok (.iload_n 2, 1) := by decide +kernel
theorem dX10_operand_108 : decode cX10_operand 108 = .ok (.bipush 40, 2) := by decide +kernel
theorem dX10_operand_110 : decode cX10_operand 110 = .ok (.if_icmp .ne 50, 3) := by decide +kernel
theorem dX10_operand_113 : decode cX10_operand 113 = .ok (.aload_n 0, 1) := by decide +kernel
theorem dX10_operand_114 : decode cX10_operand 114 = .ok (.dup, 1) := by decide +kernel
theorem dX10_operand_115 : decode cX10_operand 115 = .ok (.getfield 23, 3) := by decide +kernel
theorem dX10_operand_118 : decode cX10_operand 118 = .ok (.iconst 1, 1) := by decide +kernel
theorem dX10_operand_119 : decode cX10_operand 119 = .ok (.iadd, 1) := by decide +kernel
theorem dX10_operand_120 : decode cX10_operand 120 = .ok (.putfield 23, 3) := by decide +kernel
theorem dX10_operand_123 : decode cX10_operand 123 = .ok (.aload_n 0, 1) := by decide +kernel
theorem dX10_operand_124 : decode cX10_operand 124 = .ok (.iconst 0, 1) := by decide +kernel
theorem dX10_operand_125 : decode cX10_operand 125 = .ok (.iload_n 1, 1) := by decide +kernel
theorem dX10_operand_126 : decode cX10_operand 126 = .ok (.iconst 1, 1) := by decide +kernel
theorem dX10_operand_127 : decode cX10_operand 127 = .ok (.iadd, 1) := by decide +kernel
theorem dX10_operand_128 : decode cX10_operand 128 = .ok (.invokevirtual 39, 3) := by decide +kernel
theorem dX10_operand_131 : decode cX10_operand 131 = .ok (.aload_n 0, 1) := by decide +kernel
theorem dX10_operand_132 : decode cX10_operand 132 = .ok (.invokevirtual 32, 3) := by decide +kernel
theorem dX10_operand_135 : decode cX10_operand 135 = .ok (.bipush 41, 2) := by decide +kernel
theorem dX10_operand_137 : decode cX10_operand 137 = .ok (.if_icmp .ne 16, 3) := by decide +kernel
theorem dX10_operand_140 : decode cX10_operand 140 = .ok (.aload_n 0, 1) := by decide +kernel
theorem dX10_operand_141 : decode cX10_operand 141 = .ok (.dup, 1) := by decide +kernel
theorem dX10_operand_142 : decode cX10_operand 142 = .ok (.getfield 23, 3) := by decide +kernel
theorem dX10_operand_145 : decode cX10_operand 145 = .ok (.iconst 1, 1) := by decide +kernel
theorem dX10_operand_146 : decode cX10_operand 146 = .ok (.iadd, 1) := by decide +kernel
theorem dX10_operand_147 : decode cX10_operand 147 = .ok (.putfield 23, 3) := by decide +kernel
theorem dX10_operand_150 : decode cX10_operand 150 = .ok (.goto 14, 3) := by decide +kernel
theorem dX10_operand_153 : decode cX10_operand 153 = .ok (.aload_n 0, 1) := by decide +kernel
theorem dX10_operand_154 : decode cX10_operand 154 = .ok (.invokevirtual 36, 3) := by decide +kernel
theorem dX10_operand_157 : decode cX10_operand 157 = .ok (.goto 7, 3) := by decide +kernel
theorem dX10_operand_160 : decode cX10_operand 160 = .ok (.aload_n 0, 1) := by decide +kernel
theorem dX10_operand_161 : decode cX10_operand 161 = .ok (.invokevirtual 36, 3) := by decide +kernel
theorem dX10_operand_164 : decode cX10_operand 164 = .ok (.return_, 1) := by decide +kernel
theorem dX10_number_0 : decode cX10_number 0 = .ok (.iconst 0, 1) := by decide +kernel
theorem dX10_number_1 : decode cX10_number 1 = .ok (.istore_n 1, 1) := by decide +kernel
theorem dX10_number_2 : decode cX10_number 2 = .ok (.iconst 0, 1) := by decide +kernel
theorem dX10_number_3 : decode cX10_number 3 = .ok (.istore_n 2, 1) := by decide +kernel
theorem dX10_number_4 : decode cX10_number 4 = .ok (.iload_n 2, 1) := by decide +kernel
theorem dX10_number_5 : decode cX10_number 5 = .ok (.iconst 4, 1) := by decide +kernel
theorem dX10_number_6 : decode cX10_number 6 = .ok (.if_icmp .ge 42, 3) := by decide +kernel
theorem dX10_number_9 : decode cX10_number 9 = .ok (.aload_n 0, 1) := by decide +kernel
theorem dX10_number_10 : decode cX10_number 10 = .ok (.invokevirtual 32, 3) := by decide +kernel
theorem dX10_number_13 : decode cX10_number 13 = .ok (.invokestatic 54, 3) := by decide +kernel
theorem dX10_number_16 : decode cX10_number 16 = .ok (.ifCond .eq 32, 3) := by decide +kernel
theorem dX10_number_19 : decode cX10_number 19 = .ok (.bipush 10, 2) := by decide +kernel
theorem dX10_number_21 : decode cX10_number 21 = .ok (.iload_n 1, 1) := by decide +kernel
theorem dX10_number_22 : decode cX10_number 22 = .ok (.imul, 1) := by decide +kernel
theorem dX10_number_23 : decode cX10_number 23 = .ok (.aload_n 0, 1) := by decide +kernel
theorem dX10_number_24 : decode cX10_number 24 = .ok (.invokevirtual 32, 3) := by decide +kernel
theorem dX10_number_27 : decode cX10_number 27 = .ok (.iadd, 1) := by decide +kernel
theorem dX10_number_28 : decode cX10_number 28 = .ok (.bipush 48, 2) := by decide +kernel
theorem dX10_number_30 : decode cX10_number 30 = .ok (.isub, 1) := by decide +kernel
theorem dX10_number_31 : decode cX10_number 31 = .ok (.istore_n 1, 1) := by decide +kernel
theorem dX10_number_32 : decode cX10_number 32 = .ok (.aload_n 0, 1) := by decide +kernel
theorem dX10_number_33 : decode cX10_number 33 = .ok (.dup, 1) := by decide +kernel
theorem dX10_number_34 : decode cX10_number 34 = .ok (.getfield 23, 3) := by decide +kernel
theorem dX10_number_37 : decode cX10_number 37 = .ok (.iconst 1, 1) := by decide +kernel
theorem dX10_number_38 : decode cX10_number 38 = .ok (.iadd, 1) := by decide +kernel
theorem dX10_number_39 : decode cX10_number 39 = .ok (.putfield 23, 3) := by decide +kernel
theorem dX10_number_42 : decode cX10_number 42 = .ok (.iinc 2 1, 3) := by decide +kernel
theorem dX10_number_45 : decode cX10_number 45 = .ok (.goto (-41), 3) := by decide +kernel
theorem dX10_number_48 : decode cX10_number 48 = .ok (.aload_n 0, 1) := by decide +kernel
theorem dX10_number_49 : decode cX10_number 49 = .ok (.iload_n 1, 1) := by decide +kernel
theorem dX10_number_50 : decode cX10_number 50 = .ok (.invokevirtual 43, 3) := by decide +kernel
theorem dX10_number_53 : decode cX10_number 53 = .ok (.return_, 1) := by decide +kernel
theorem dX10_isDigit_0 : decode cX10_isDigit 0 = .ok (.iload_n 0, 1) := by decide +kernel
theorem dX10_isDigit_1 : decode cX10_isDigit 1 = .ok (.bipush 48, 2) := by decide +kernel
theorem dX10_isDigit_3 : decode cX10_isDigit 3 = .ok (.if_icmp .lt 13, 3) := by decide +kernel
theorem dX10_isDigit_6 : decode cX10_isDigit 6 = .ok (.iload_n 0, 1) := by decide +kernel
theorem dX10_isDigit_7 : decode cX10_isDigit 7 = .ok (.bipush 57, 2) := by decide +kernel
theorem dX10_isDigit_9 : decode cX10_isDigit 9 = .ok (.if_icmp .gt 7, 3) := by decide +kernel
theorem dX10_isDigit_12 : decode cX10_isDigit 12 = .ok (.iconst 1, 1) := by decide +kernel
theorem dX10_isDigit_13 : decode cX10_isDigit 13 = .ok (.goto 4, 3) := by decide +kernel
theorem dX10_isDigit_16 : decode cX10_isDigit 16 = .ok (.iconst 0, 1) := by decide +kernel
theorem dX10_isDigit_17 : decode cX10_isDigit 17 = .ok (.ireturn, 1) := by decide +kernel
theorem dX10_isName_0 : decode cX10_isName 0 = .ok (.iload_n 0, 1) := by decide +kernel
theorem dX10_isName_1 : decode cX10_isName 1 = .ok (.bipush 97, 2) := by decide +kernel
theorem dX10_isName_3 : decode cX10_isName 3 = .ok (.if_icmp .eq 33, 3) := by decide +kernel
theorem dX10_isName_6 : decode cX10_isName 6 = .ok (.iload_n 0, 1) := by decide +kernel
theorem dX10_isName_7 : decode cX10_isName 7 = .ok (.bipush 98, 2) := by decide +kernel
theorem dX10_isName_9 : decode cX10_isName 9 = .ok (.if_icmp .eq 27, 3) := by decide +kernel
theorem dX10_isName_12 : decode cX10_isName 12 = .ok (.iload_n 0, 1) := by decide +kernel
theorem dX10_isName_13 : decode cX10_isName 13 = .ok (.bipush 100, 2) := by decide +kernel
theorem dX10_isName_15 : decode cX10_isName 15 = .ok (.if_icmp .eq 21, 3) := by decide +kernel
theorem dX10_isName_18 : decode cX10_isName 18 = .ok (.iload_n 0, 1) := by decide +kernel
theorem dX10_isName_19 : decode cX10_isName 19 = .ok (.bipush 107, 2) := by decide +kernel
theorem dX10_isName_21 : decode cX10_isName 21 = .ok (.if_icmp .eq 15, 3) := by decide +kernel
theorem dX10_isName_24 : decode cX10_isName 24 = .ok (.iload_n 0, 1) := by decide +kernel
theorem dX10_isName_25 : decode cX10_isName 25 = .ok (.bipush 105, 2) := by decide +kernel
theorem dX10_isName_27 : decode cX10_isName 27 = .ok (.if_icmp .eq 9, 3) := by decide +kernel
theorem dX10_isName_30 : decode cX10_isName 30 = .ok (.iload_n 0, 1) := by decide +kernel
theorem dX10_isName_31 : decode cX10_isName 31 = .ok (.bipush 106, 2) := by decide +kernel
theorem dX10_isName_33 : decode cX10_isName 33 = .ok (.if_icmp .ne 7, 3) := by decide +kernel
theorem dX10_isName_36 : decode cX10_isName 36 = .ok (.iconst 1, 1) := by decide +kernel
theorem dX10_isName_37 : decode cX10_isName 37 = .ok (.goto 4, 3) := by decide +kernel
theorem dX10_isName_40 : decode cX10_isName 40 = .ok (.iconst 0, 1) := by decide +kernel
theorem dX10_isName_41 : decode cX10_isName 41 = .ok (.ireturn, 1) := by decide +kernel
theorem dX10_isJoint_0 : decode cX10_isJoint 0 = .ok (.iload_n 1, 1) := by decide +kernel
theorem dX10_isJoint_1 : decode cX10_isJoint 1 = .ok (.tableswitch 97 0 3 #[31, 43, 55, 79], 31) := by decide +kernel
theorem dX10_isJoint_32 : decode cX10_isJoint 32 = .ok (.iload_n 0, 1) := by decide +kernel
theorem dX10_isJoint_33 : decode cX10_isJoint 33 = .ok (.bipush 124, 2) := by decide +kernel
theorem dX10_isJoint_35 : decode cX10_isJoint 35 = .ok (.if_icmp .ne 7, 3) := by decide +kernel
theorem dX10_isJoint_38 : decode cX10_isJoint 38 = .ok (.iconst 1, 1) := by decide +kernel
theorem dX10_isJoint_39 : decode cX10_isJoint 39 = .ok (.goto 4, 3) := by decide +kernel
theorem dX10_isJoint_42 : decode cX10_isJoint 42 = .ok (.iconst 0, 1) := by decide +kernel
theorem dX10_isJoint_43 : decode cX10_isJoint 43 = .ok (.ireturn, 1) := by decide +kernel
theorem dX10_isJoint_44 : decode cX10_isJoint 44 = .ok (.iload_n 0, 1) := by decide +kernel
theorem dX10_isJoint_45 : decode cX10_isJoint 45 = .ok (.bipush 38, 2) := by decide +kernel
theorem dX10_isJoint_47 : decode cX10_isJoint 47 = .ok (.if_icmp .ne 7, 3) := by decide +kernel
theorem dX10_isJoint_50 : decode cX10_isJoint 50 = .ok (.iconst 1, 1) := by decide +kernel
theorem dX10_isJoint_51 : decode cX10_isJoint 51 = .ok (.goto 4, 3) := by decide +kernel
theorem dX10_isJoint_54 : decode cX10_isJoint 54 = .ok (.iconst 0, 1) := by decide +kernel
theorem dX10_isJoint_55 : decode cX10_isJoint 55 = .ok (.ireturn, 1) := by decide +kernel
theorem dX10_isJoint_56 : decode cX10_isJoint 56 = .ok (.iload_n 0, 1) := by decide +kernel
theorem dX10_isJoint_57 : decode cX10_isJoint 57 = .ok (.bipush 60, 2) := by decide +kernel
theorem dX10_isJoint_59 : decode cX10_isJoint 59 = .ok (.if_icmp .eq 15, 3) := by decide +kernel
theorem dX10_isJoint_62 : decode cX10_isJoint 62 = .ok (.iload_n 0, 1) := by decide +kernel
theorem dX10_isJoint_63 : decode cX10_isJoint 63 = .ok (.bipush 61, 2) := by decide +kernel
theorem dX10_isJoint_65 : decode cX10_isJoint 65 = .ok (.if_icmp .eq 9, 3) := by decide +kernel
theorem dX10_isJoint_68 : decode cX10_isJoint 68 = .ok (.iload_n 0, 1) := by decide +kernel
theorem dX10_isJoint_69 : decode cX10_isJoint 69 = .ok (.bipush 62, 2) := by decide +kernel
theorem dX10_isJoint_71 : decode cX10_isJoint 71 = .ok (.if_icmp .ne 7, 3) := by decide +kernel
theorem dX10_isJoint_74 : decode cX10_isJoint 74 = .ok (.iconst 1, 1) := by decide +kernel
theorem dX10_isJoint_75 : decode cX10_isJoint 75 = .ok (.goto 4, 3) := by decide +kernel
theorem dX10_isJoint_78 : decode cX10_isJoint 78 = .ok (.iconst 0, 1) := by decide +kernel
theorem dX10_isJoint_79 : decode cX10_isJoint 79 = .ok (.ireturn, 1) := by decide +kernel
theorem dX10_isJoint_80 : decode cX10_isJoint 80 = .ok (.iload_n 0, 1) := by decide +kernel
theorem dX10_isJoint_81 : decode cX10_isJoint 81 = .ok (.bipush 43, 2) := by decide +kernel
theorem dX10_isJoint_83 : decode cX10_isJoint 83 = .ok (.if_icmp .eq 9, 3) := by decide +kernel
theorem dX10_isJoint_86 : decode cX10_isJoint 86 = .ok (.iload_n 0, 1) := by decide +kernel
theorem dX10_isJoint_87 : decode cX10_isJoint 87 = .ok (.bipush 45, 2) := by decide +kernel
theorem dX10_isJoint_89 : decode cX10_isJoint 89 = .ok (.if_icmp .ne 7, 3) := by decide +kernel
theorem dX10_isJoint_92 : decode cX10_isJoint 92 = .ok (.iconst 1, 1) := by decide +kernel
theorem dX10_isJoint_93 : decode cX10_isJoint 93 = .ok (.goto 4, 3) := by decide +kernel
theorem dX10_isJoint_96 : decode cX10_isJoint 96 = .ok (.iconst 0, 1) := by decide +kernel
theorem dX10_isJoint_97 : decode cX10_isJoint 97 = .ok (.ireturn, 1) := by decide +kernel
theorem dX10_isJoint_98 : decode cX10_isJoint 98 = .ok (.iload_n 0, 1) := by decide +kernel
theorem dX10_isJoint_99 : decode cX10_isJoint 99 = .ok (.bipush 42, 2) := by decide +kernel
theorem dX10_isJoint_101 : decode cX10_isJoint 101 = .ok (.if_icmp .eq 15, 3) := by decide +kernel
theorem dX10_isJoint_104 : decode cX10_isJoint 104 = .ok (.iload_n 0, 1) := by decide +kernel
theorem dX10_isJoint_105 : decode cX10_isJoint 105 = .ok (.bipush 47, 2) := by decide +kernel
theorem dX10_isJoint_107 : decode cX10_isJoint 107 = .ok (.if_icmp .eq 9, 3) := by decide +kernel
theorem dX10_isJoint_110 : decode cX10_isJoint 110 = .ok (.iload_n 0, 1) := by decide +kernel
theorem dX10_isJoint_111 : decode cX10_isJoint 111 = .ok (.bipush 37, 2) := by decide +kernel
theorem dX10_isJoint_113 : decode cX10_isJoint 113 = .ok (.if_icmp .ne 7, 3) := by decide +kernel
theorem dX10_isJoint_116 : decode cX10_isJoint 116 = .ok (.iconst 1, 1) := by decide +kernel
theorem dX10_isJoint_117 : decode cX10_isJoint 117 = .ok (.goto 4, 3) := by decide +kernel
theorem dX10_isJoint_120 : decode cX10_isJoint 120 = .ok (.iconst 0, 1) := by decide +kernel
theorem dX10_isJoint_121 : decode cX10_isJoint 121 = .ok (.ireturn, 1) := by decide +kernel
theorem dX10_next_0 : decode cX10_next 0 = .ok (.aload_n 0, 1) := by decide +kernel
theorem dX10_next_1 : decode cX10_next 1 = .ok (.getfield 26, 3) := by decide +kernel
theorem dX10_next_4 : decode cX10_next 4 = .ok (.ifCond .ge 26, 3) := by decide +kernel
theorem dX10_next_7 : decode cX10_next 7 = .ok (.aload_n 0, 1) := by decide +kernel
theorem dX10_next_8 : decode cX10_next 8 = .ok (.getfield 23, 3) := by decide +kernel
theorem dX10_next_11 : decode cX10_next 11 = .ok (.aload_n 0, 1) := by decide +kernel
theorem dX10_next_12 : decode cX10_next 12 = .ok (.getfield 13, 3) := by decide +kernel
theorem dX10_next_15 : decode cX10_next 15 = .ok (.if_icmp .ge 15, 3) := by decide +kernel
theorem dX10_next_18 : decode cX10_next 18 = .ok (.aload_n 0, 1) := by decide +kernel
theorem dX10_next_19 : decode cX10_next 19 = .ok (.getfield 9, 3) := by decide +kernel
theorem dX10_next_22 : decode cX10_next 22 = .ok (.aload_n 0, 1) := by decide +kernel
theorem dX10_next_23 : decode cX10_next 23 = .ok (.getfield 23, 3) := by decide +kernel
theorem dX10_next_26 : decode cX10_next 26 = .ok (.iaload, 1) := by decide +kernel
theorem dX10_next_27 : decode cX10_next 27 = .ok (.goto 4, 3) := by decide +kernel
theorem dX10_next_30 : decode cX10_next 30 = .ok (.iconst (-1), 1) := by decide +kernel
theorem dX10_next_31 : decode cX10_next 31 = .ok (.ireturn, 1) := by decide +kernel
theorem dX10_fail_0 : decode cX10_fail 0 = .ok (.aload_n 0, 1) := by decide +kernel
theorem dX10_fail_1 : decode cX10_fail 1 = .ok (.getfield 26, 3) := by decide +kernel
theorem dX10_fail_4 : decode cX10_fail 4 = .ok (.ifCond .ge 11, 3) := by decide +kernel
theorem dX10_fail_7 : decode cX10_fail 7 = .ok (.aload_n 0, 1) := by decide +kernel
theorem dX10_fail_8 : decode cX10_fail 8 = .ok (.aload_n 0, 1) := by decide +kernel
theorem dX10_fail_9 : decode cX10_fail 9 = .ok (.getfield 23, 3) := by decide +kernel
theorem dX10_fail_12 : decode cX10_fail 12 = .ok (.putfield 26, 3) := by decide +kernel
theorem dX10_fail_15 : decode cX10_fail 15 = .ok (.return_, 1) := by decide +kernel
theorem dX10_write_0 : decode cX10_write 0 = .ok (.aload_n 0, 1) := by decide +kernel
theorem dX10_write_1 : decode cX10_write 1 = .ok (.getfield 20, 3) := by decide +kernel
theorem dX10_write_4 : decode cX10_write 4 = .ok (.bipush 121, 2) := by decide +kernel
theorem dX10_write_6 : decode cX10_write 6 = .ok (.if_icmp .ge 23, 3) := by decide +kernel
theorem dX10_write_9 : decode cX10_write 9 = .ok (.aload_n 0, 1) := by decide +kernel
theorem dX10_write_10 : decode cX10_write 10 = .ok (.getfield 17, 3) := by decide +kernel
theorem dX10_write_13 : decode cX10_write 13 = .ok (.aload_n 0, 1) := by decide +kernel
theorem dX10_write_14 : decode cX10_write 14 = .ok (.getfield 20, 3) := by decide +kernel
theorem dX10_write_17 : decode cX10_write 17 = .ok (.iload_n 1, 1) := by decide +kernel
theorem dX10_write_18 : decode cX10_write 18 = .ok (.iastore, 1) := by decide +kernel
theorem dX10_write_19 : decode cX10_write 19 = .ok (.aload_n 0, 1) := by decide +kernel
theorem dX10_write_20 : decode cX10_write 20 = .ok (.dup, 1) := by decide +kernel
theorem dX10_write_21 : decode cX10_write 21 = .ok (.getfield 20, 3) := by decide +kernel
theorem dX10_write_24 : decode cX10_write 24 = .ok (.iconst 1, 1) := by decide +kernel
theorem dX10_write_25 : decode cX10_write 25 = .ok (.iadd, 1) := by decide +kernel
theorem dX10_write_26 : decode cX10_write 26 = .ok (.putfield 20, 3) := by decide +kernel
theorem dX10_write_29 : decode cX10_write 29 = .ok (.return_, 1) := by decide +kernel
theorem dX11_init_0 : decode cX11_init 0 = .ok (.aload_n 0, 1) := by decide +kernel
theorem dX11_init_1 : decode cX11_init 1 = .ok (.invokespecial 1, 3) := by decide +kernel
theorem dX11_init_4 : decode cX11_init 4 = .ok (.aload_n 0, 1) := by decide +kernel
theorem dX11_init_5 : decode cX11_init 5 = .ok (.new 7, 3) := by decide +kernel
theorem dX11_init_8 : decode cX11_init 8 = .ok (.dup, 1) := by decide +kernel
theorem dX11_init_9 : decode cX11_init 9 = .ok (.invokespecial 9, 3) := by decide +kernel
theorem dX11_init_12 : decode cX11_init 12 = .ok (.putfield 10, 3) := by decide +kernel
theorem dX11_init_15 : decode cX11_init 15 = .ok (.aload_n 0, 1) := by decide +kernel
theorem dX11_init_16 : decode cX11_init 16 = .ok (.new 16, 3) := by decide +kernel
theorem dX11_init_19 : decode cX11_init 19 = .ok (.dup, 1) := by decide +kernel
theorem dX11_init_20 : decode cX11_init 20 = .ok (.invokespecial 18, 3) := by decide +kernel
theorem dX11_init_23 : decode cX11_init 23 = .ok (.putfield 19, 3) := by decide +kernel
theorem dX11_init_26 : decode cX11_init 26 = .ok (.aload_n 0, 1) := by decide +kernel
theorem dX11_init_27 : decode cX11_init 27 = .ok (.new 23, 3) := by decide +kernel
theorem dX11_init_30 : decode cX11_init 30 = .ok (.dup, 1) := by decide +kernel
theorem dX11_init_31 : decode cX11_init 31 = .ok (.invokespecial 25, 3) := by decide +kernel
theorem dX11_init_34 : decode cX11_init 34 = .ok (.putfield 26, 3) := by decide +kernel
theorem dX11_init_37 : decode cX11_init 37 = .ok (.aload_n 0, 1) := by decide +kernel
theorem dX11_init_38 : decode cX11_init 38 = .ok (.new 30, 3) := by decide +kernel
theorem dX11_init_41 : decode cX11_init 41 = .ok (.dup, 1) := by decide +kernel
theorem dX11_init_42 : decode cX11_init 42 = .ok (.aload_n 0, 1) := by decide +kernel
theorem dX11_init_43 : decode cX11_init 43 = .ok (.getfield 10, 3) := by decide +kernel
theorem dX11_init_46 : decode cX11_init 46 = .ok (.aload_n 0, 1) := by decide +kernel
theorem dX11_init_47 : decode cX11_init 47 = .ok (.getfield 26, 3) := by decide +kernel
theorem dX11_init_50 : decode cX11_init 50 = .ok (.invokespecial 32, 3) := by decide +kernel
theorem dX11_init_53 : decode cX11_init 53 = .ok (.putfield 35, 3) := by decide +kernel
theorem dX11_init_56 : decode cX11_init 56 = .ok (.aload_n 0, 1) := by decide +kernel
theorem dX11_init_57 : decode cX11_init 57 = .ok (.new 39, 3) := by decide +kernel
theorem dX11_init_60 : decode cX11_init 60 = .ok (.dup, 1) := by decide +kernel
theorem dX11_init_61 : decode cX11_init 61 = .ok (.invokespecial 41, 3) := by decide +kernel
theorem dX11_init_64 : decode cX11_init 64 = .ok (.putfield 42, 3) := by decide +kernel
theorem dX11_init_67 : decode cX11_init 67 = .ok (.aload_n 0, 1) := by decide +kernel
theorem dX11_init_68 : decode cX11_init 68 = .ok (.new 46, 3) := by decide +kernel
theorem dX11_init_71 : decode cX11_init 71 = .ok (.dup, 1) := by decide +kernel
theorem dX11_init_72 : decode cX11_init 72 = .ok (.invokespecial 48, 3) := by decide +kernel
theorem dX11_init_75 : decode cX11_init 75 = .ok (.putfield 49, 3) := by decide +kernel
theorem dX11_init_78 : decode cX11_init 78 = .ok (.aload_n 0, 1) := by decide +kernel
theorem dX11_init_79 : decode cX11_init 79 = .ok (.new 53, 3) := by decide +kernel
theorem dX11_init_82 : decode cX11_init 82 = .ok (.dup, 1) := by decide +kernel
theorem dX11_init_83 : decode cX11_init 83 = .ok (.invokespecial 55, 3) := by decide +kernel
theorem dX11_init_86 : decode cX11_init 86 = .ok (.putfield 56, 3) := by decide +kernel
theorem dX11_init_89 : decode cX11_init 89 = .ok (.aload_n 0, 1) := by decide +kernel
theorem dX11_init_90 : decode cX11_init 90 = .ok (.new 60, 3) := by decide +kernel
theorem dX11_init_93 : decode cX11_init 93 = .ok (.dup, 1) := by decide +kernel
theorem dX11_init_94 : decode cX11_init 94 = .ok (.invokespecial 62, 3) := by decide +kernel
theorem dX11_init_97 : decode cX11_init 97 = .ok (.putfield 63, 3) := by decide +kernel
theorem dX11_init_100 : decode cX11_init 100 = .ok (.aload_n 0, 1) := by decide +kernel
theorem dX11_init_101 : decode cX11_init 101 = .ok (.new 67, 3) := by decide +kernel
theorem dX11_init_104 : decode cX11_init 104 = .ok (.dup, 1) := by decide +kernel
theorem dX11_init_105 : decode cX11_init 105 = .ok (.invokespecial 69, 3) := by decide +kernel
theorem dX11_init_108 : decode cX11_init 108 = .ok (.putfield 70, 3) := by decide +kernel
theorem dX11_init_111 : decode cX11_init 111 = .ok (.aload_n 0, 1) := by decide +kernel
theorem dX11_init_112 : decode cX11_init 112 = .ok (.bipush 6, 2) := by decide +kernel
theorem dX11_init_114 : decode cX11_init 114 = .ok (.anewarray 74, 3) := by decide +kernel
theorem dX11_init_117 : decode cX11_init 117 = .ok (.putfield 76, 3) := by decide +kernel
theorem dX11_init_120 : decode cX11_init 120 = .ok (.aload_n 0, 1) := by decide +kernel
theorem dX11_init_121 : decode cX11_init 121 = .ok (.iconst 0, 1) := by decide +kernel
theorem dX11_init_122 : decode cX11_init 122 = .ok (.putfield 80, 3) := by decide +kernel
theorem dX11_init_125 : decode cX11_init 125 = .ok (.aload_n 0, 1) := by decide +kernel
theorem dX11_init_126 : decode cX11_init 126 = .ok (.iconst 0, 1) := by decide +kernel
theorem dX11_init_127 : decode cX11_init 127 = .ok (.putfield 84, 3) := by decide +kernel
theorem dX11_init_130 : decode cX11_init 130 = .ok (.iconst 0, 1) := by decide +kernel
theorem dX11_init_131 : decode cX11_init 131 = .ok (.istore_n 1, 1) := by decide +kernel
theorem dX11_init_132 : decode cX11_init 132 = .ok (.iload_n 1, 1) := by decide +kernel
theorem dX11_init_133 : decode cX11_init 133 = .ok (.bipush 6, 2) := by decide +kernel
theorem dX11_init_135 : decode cX11_init 135 = .ok (.if_icmp .ge 22, 3) := by decide +kernel
theorem dX11_init_138 : decode cX11_init 138 = .ok (.aload_n 0, 1) := by decide +kernel
theorem dX11_init_139 : decode cX11_init 139 = .ok (.getfield 76, 3) := by decide +kernel
theorem dX11_init_142 : decode cX11_init 142 = .ok (.iload_n 1, 1) := by decide +kernel
theorem dX11_init_143 : decode cX11_init 143 = .ok (.new 74, 3) := by decide +kernel
theorem dX11_init_146 : decode cX11_init 146 = .ok (.dup, 1) := by decide +kernel
theorem dX11_init_147 : decode cX11_init 147 = .ok (.invokespecial 87, 3) := by decide +kernel
theorem dX11_init_150 : decode cX11_init 150 = .ok (.aastore, 1) := by decide +kernel
theorem dX11_init_151 : decode cX11_init 151 = .ok (.iinc 1 1, 3) := by decide +kernel
theorem dX11_init_154 : decode cX11_init 154 = .ok (.goto (-22), 3) := by decide +kernel
theorem dX11_init_157 : decode cX11_init 157 = .ok (.return_, 1) := by decide +kernel
theorem dX11_room_0 : decode cX11_room 0 = .ok (.aload_n 0, 1) := by decide +kernel
theorem dX11_room_1 : decode cX11_room 1 = .ok (.getfield 10, 3) := by decide +kernel
theorem dX11_room_4 : decode cX11_room 4 = .ok (.getfield 88, 3) := by decide +kernel
theorem dX11_room_7 : decode cX11_room 7 = .ok (.iconst 4, 1) := by decide +kernel
theorem dX11_room_8 : decode cX11_room 8 = .ok (.if_icmp .lt 6, 3) := by decide +kernel
theorem dX11_room_11 : decode cX11_room 11 = .ok (.bipush (-3), 2) := by decide +kernel
theorem dX11_room_13 : decode cX11_room 13 = .ok (.ireturn, 1) := by decide +kernel
theorem dX11_room_14 : decode cX11_room 14 = .ok (.aload_n 0, 1) := by decide +kernel
theorem dX11_room_15 : decode cX11_room 15 = .ok (.getfield 10, 3) := by decide +kernel
theorem dX11_room_18 : decode cX11_room 18 = .ok (.dup, 1) := by decide +kernel
theorem dX11_room_19 : decode cX11_room 19 = .ok (.getfield 88, 3) := by decide +kernel
theorem dX11_room_22 : decode cX11_room 22 = .ok (.iconst 1, 1) := by decide +kernel
theorem dX11_room_23 : decode cX11_room 23 = .ok (.iadd, 1) := by decide +kernel
theorem dX11_room_24 : decode cX11_room 24 = .ok (.putfield 88, 3) := by decide +kernel
theorem dX11_room_27 : decode cX11_room 27 = .ok (.aload_n 0, 1) := by decide +kernel
theorem dX11_room_28 : decode cX11_room 28 = .ok (.getfield 10, 3) := by decide +kernel
theorem dX11_room_31 : decode cX11_room 31 = .ok (.getfield 88, 3) := by decide +kernel
theorem dX11_room_34 : decode cX11_room 34 = .ok (.iconst 1, 1) := by decide +kernel
theorem dX11_room_35 : decode cX11_room 35 = .ok (.isub, 1) := by decide +kernel
theorem dX11_room_36 : decode cX11_room 36 = .ok (.ireturn, 1) := by decide +kernel
theorem dX11_door_0 : decode cX11_door 0 = .ok (.iload_n 1, 1) := by decide +kernel
theorem dX11_door_1 : decode cX11_door 1 = .ok (.bipush 10, 2) := by decide +kernel
theorem dX11_door_3 : decode cX11_door 3 = .ok (.idiv, 1) := by decide +kernel
theorem dX11_door_4 : decode cX11_door 4 = .ok (.istore_n 3, 1) := by decide +kernel
theorem dX11_door_5 : decode cX11_door 5 = .ok (.iload_n 1, 1) := by decide +kernel
theorem dX11_door_6 : decode cX11_door 6 = .ok (.bipush 10, 2) := by decide +kernel
theorem dX11_door_8 : decode cX11_door 8 = .ok (.irem, 1) := by decide +kernel
theorem dX11_door_9 : decode cX11_door 9 = .ok (.istore 4, 2) := by decide +kernel
theorem dX11_door_11 : decode cX11_door 11 = .ok (.aload_n 0, 1) := by decide +kernel
theorem dX11_door_12 : decode cX11_door 12 = .ok (.getfield 10, 3) := by decide +kernel
theorem dX11_door_15 : decode cX11_door 15 = .ok (.iload_n 3, 1) := by decide +kernel
theorem dX11_door_16 : decode cX11_door 16 = .ok (.invokevirtual 91, 3) := by decide +kernel
theorem dX11_door_19 : decode cX11_door 19 = .ok (.ifCond .eq 30, 3) := by decide +kernel
theorem dX11_door_22 : decode cX11_door 22 = .ok (.aload_n 0, 1) := by decide +kernel
theorem dX11_door_23 : decode cX11_door 23 = .ok (.getfield 10, 3) := by decide +kernel
theorem dX11_door_26 : decode cX11_door 26 = .ok (.iload 4, 2) := by decide +kernel
theorem dX11_door_28 : decode cX11_door 28 = .ok (.invokevirtual 91, 3) := by decide +kernel
theorem dX11_door_31 : decode cX11_door 31 = .ok (.ifCond .eq 18, 3) := by decide +kernel
theorem dX11_door_34 : decode cX11_door 34 = .ok (.iload_n 3, 1) := by decide +kernel
theorem dX11_door_35 : decode cX11_door 35 = .ok (.iload 4, 2) := by decide +kernel
theorem dX11_door_37 : decode cX11_door 37 = .ok (.if_icmp .eq 12, 3) := by decide +kernel
theorem dX11_door_40 : decode cX11_door 40 = .ok (.iload_n 2, 1) := by decide +kernel
theorem dX11_door_41 : decode cX11_door 41 = .ok (.ifCond .lt 8, 3) := by decide +kernel
theorem dX11_door_44 : decode cX11_door 44 = .ok (.iload_n 2, 1) := by decide +kernel
theorem dX11_door_45 : decode cX11_door 45 = .ok (.iconst 3, 1) := by decide +kernel
theorem dX11_door_46 : decode cX11_door 46 = .ok (.if_icmp .lt 5, 3) := by decide +kernel
theorem dX11_door_49 : decode cX11_door 49 = .ok (.iconst (-1), 1) := by decide +kernel
theorem dX11_door_50 : decode cX11_door 50 = .ok (.ireturn, 1) := by decide +kernel
theorem dX11_door_51 : decode cX11_door 51 = .ok (.aload_n 0, 1) := by decide +kernel
theorem dX11_door_52 : decode cX11_door 52 = .ok (.getfield 10, 3) := by decide +kernel
theorem dX11_door_55 : decode cX11_door 55 = .ok (.iload_n 3, 1) := by decide +kernel
theorem dX11_door_56 : decode cX11_door 56 = .ok (.iload 4, 2) := by decide +kernel
theorem dX11_door_58 : decode cX11_door 58 = .ok (.iload_n 2, 1) := by decide +kernel
theorem dX11_door_59 : decode cX11_door 59 = .ok (.invokevirtual 95, 3) := by decide +kernel
theorem dX11_door_62 : decode cX11_door 62 = .ok (.ireturn, 1) := by decide +kernel
theorem dX11_person_0 : decode cX11_person 0 = .ok (.aload_n 0, 1) := by decide +kernel
theorem dX11_person_1 : decode cX11_person 1 = .ok (.getfield 10, 3) := by decide +kernel
theorem dX11_person_4 : decode cX11_person 4 = .ok (.iload_n 1, 1) := by decide +kernel
theorem dX11_person_5 : decode cX11_person 5 = .ok (.iload_n 2, 1) := by decide +kernel
theorem dX11_person_6 : decode cX11_person 6 = .ok (.invokevirtual 99, 3) := by decide +kernel
theorem dX11_person_9 : decode cX11_person 9 = .ok (.ifCond .ne 5, 3) := by decide +kernel
theorem dX11_person_12 : decode cX11_person 12 = .ok (.iconst (-1), 1) := by decide +kernel
theorem dX11_person_13 : decode cX11_person 13 = .ok (.ireturn, 1) := by decide +kernel
theorem dX11_person_14 : decode cX11_person 14 = .ok (.aload_n 0, 1) := by decide +kernel
theorem dX11_person_15 : decode cX11_person 15 = .ok (.getfield 10, 3) := by decide +kernel
theorem dX11_person_18 : decode cX11_person 18 = .ok (.iload_n 1, 1) := by decide +kernel
theorem dX11_person_19 : decode cX11_person 19 = .ok (.iload_n 2, 1) := by decide +kernel
theorem dX11_person_20 : decode cX11_person 20 = .ok (.invokevirtual 103, 3) := by decide +kernel
theorem dX11_person_23 : decode cX11_person 23 = .ok (.ireturn, 1) := by decide +kernel
theorem dX11_people_0 : decode cX11_people 0 = .ok (.iload_n 1, 1) := by decide +kernel
theorem dX11_people_1 : decode cX11_people 1 = .ok (.invokestatic 107, 3) := by decide +kernel
theorem dX11_people_4 : decode cX11_people 4 = .ok (.ifCond .eq 14, 3) := by decide +kernel
theorem dX11_people_7 : decode cX11_people 7 = .ok (.iload_n 3, 1) := by decide +kernel
theorem dX11_people_8 : decode cX11_people 8 = .ok (.iconst 1, 1) := by decide +kernel
theorem dX11_people_9 : decode cX11_people 9 = .ok (.if_icmp .lt 9, 3) := by decide +kernel
theorem dX11_people_12 : decode cX11_people 12 = .ok (.iload_n 3, 1) := by decide +kernel
theorem dX11_people_13 : decode cX11_people 13 = .ok (.bipush 7, 2) := by decide +kernel
theorem dX11_people_15 : decode cX11_people 15 = .ok (.if_icmp .le 5, 3) := by decide +kernel
theorem dX11_people_18 : decode cX11_people 18 = .ok (.iconst (-1), 1) := by decide +kernel
theorem dX11_people_19 : decode cX11_people 19 = .ok (.ireturn, 1) := by decide +kernel
theorem dX11_people_20 : decode cX11_people 20 = .ok (.aload_n 0, 1) := by decide +kernel
theorem dX11_people_21 : decode cX11_people 21 = .ok (.getfield 76, 3) := by decide +kernel
theorem dX11_people_24 : decode cX11_people 24 = .ok (.iload_n 1, 1) := by decide +kernel
theorem dX11_people_25 : decode cX11_people 25 = .ok (.aaload, 1) := by decide +kernel
theorem dX11_people_26 : decode cX11_people 26 = .ok (.astore 4, 2) := by decide +kernel
theorem dX11_people_28 : decode cX11_people 28 = .ok (.aload 4, 2) := by decide +kernel
theorem dX11_people_30 : decode cX11_people 30 = .ok (.invokevirtual 110, 3) := by decide +kernel
theorem dX11_people_33 : decode cX11_people 33 = .ok (.ifCond .eq 5, 3) := by decide +kernel
theorem dX11_people_36 : decode cX11_people 36 = .ok (.iconst 0, 1) := by decide +kernel
theorem dX11_people_37 : decode cX11_people 37 = .ok (.ireturn, 1) := by decide +kernel
theorem dX11_people_38 : decode cX11_people 38 = .ok (.aload 4, 2) := by decide +kernel
theorem dX11_people_40 : decode cX11_people 40 = .ok (.invokevirtual 114, 3) := by decide +kernel
theorem dX11_people_43 : decode cX11_people 43 = .ok (.ifCond .eq 6, 3) := by decide +kernel
theorem dX11_people_46 : decode cX11_people 46 = .ok (.bipush (-12), 2) := by decide +kernel
theorem dX11_people_48 : decode cX11_people 48 = .ok (.ireturn, 1) := by decide +kernel
theorem dX11_people_49 : decode cX11_people 49 = .ok (.iload_n 2, 1) := by decide +kernel
theorem dX11_people_50 : decode cX11_people 50 = .ok (.ifCond .ge 5, 3) := by decide +kernel
theorem dX11_people_53 : decode cX11_people 53 = .ok (.iconst 0, 1) := by decide +kernel
theorem dX11_people_54 : decode cX11_people 54 = .ok (.ireturn, 1) := by decide +kernel
theorem dX11_people_55 : decode cX11_people 55 = .ok (.iconst 0, 1) := by decide +kernel
theorem dX11_people_56 : decode cX11_people 56 = .ok (.istore 5, 2) := by decide +kernel
theorem dX11_people_58 : decode cX11_people 58 = .ok (.iload 5, 2) := by decide +kernel
theorem dX11_people_60 : decode cX11_people 60 = .ok (.iload_n 3, 1) := by decide +kernel
theorem dX11_people_61 : decode cX11_people 61 = .ok (.if_icmp .ge 96, 3) := by decide +kernel
theorem dX11_people_64 : decode cX11_people 64 = .ok (.aload 4, 2) := by decide +kernel
theorem dX11_people_66 : decode cX11_people 66 = .ok (.getfield 118, 3) := by decide +kernel
theorem dX11_people_69 : decode cX11_people 69 = .ok (.iload_n 2, 1) := by decide +kernel
theorem dX11_people_70 : decode cX11_people 70 = .ok (.isub, 1) := by decide +kernel
theorem dX11_people_71 : decode cX11_people 71 = .ok (.iconst 2, 1) := by decide +kernel
theorem dX11_people_72 : decode cX11_people 72 = .ok (.iload 5, 2) := by decide +kernel
theorem dX11_people_74 : decode cX11_people 74 = .ok (.imul, 1) := by decide +kernel
theorem dX11_people_75 : decode cX11_people 75 = .ok (.iconst 2, 1) := by decide +kernel
theorem dX11_people_76 : decode cX11_people 76 = .ok (.iadd, 1) := by decide +kernel
theorem dX11_people_77 : decode cX11_people 77 = .ok (.if_icmp .lt 80, 3) := by decide +kernel
theorem dX11_people_80 : decode cX11_people 80 = .ok (.aload_n 0, 1) := by decide +kernel
theorem dX11_people_81 : decode cX11_people 81 = .ok (.getfield 10, 3) := by decide +kernel
theorem dX11_people_84 : decode cX11_people 84 = .ok (.getfield 121, 3) := by decide +kernel
theorem dX11_people_87 : decode cX11_people 87 = .ok (.bipush 7, 2) := by decide +kernel
theorem dX11_people_89 : decode cX11_people 89 = .ok (.if_icmp .ge 68, 3) := by decide +kernel
theorem dX11_people_92 : decode cX11_people 92 = .ok (.aload 4, 2) := by decide +kernel
theorem dX11_people_94 : decode cX11_people 94 = .ok (.iload_n 2, 1) := by decide +kernel
theorem dX11_people_95 : decode cX11_people 95 = .ok (.iconst 2, 1) := by decide +kernel
theorem dX11_people_96 : decode cX11_people 96 = .ok (.iload 5, 2) := by decide +kernel
theorem dX11_people_98 : decode cX11_people 98 = .ok (.imul, 1) := by decide +kernel
theorem dX11_people_99 : decode cX11_people 99 = .ok (.iadd, 1) := by decide +kernel
theorem dX11_people_100 : decode cX11_people 100 = .ok (.invokevirtual 124, 3) := by decide +kernel
theorem dX11_people_103 : decode cX11_people 103 = .ok (.l2i, 1) := by decide +kernel
theorem dX11_people_104 : decode cX11_people 104 = .ok (.istore 6, 2) := by decide +kernel
theorem dX11_people_106 : decode cX11_people 106 = .ok (.aload 4, 2) := by decide +kernel
theorem dX11_people_108 : decode cX11_people 108 = .ok (.iload_n 2, 1) := by decide +kernel
theorem dX11_people_109 : decode cX11_people 109 = .ok (.iconst 2, 1) := by decide +kernel
theorem dX11_people_110 : decode cX11_people 110 = .ok (.iload 5, 2) := by decide +kernel
theorem dX11_people_112 : decode cX11_people 112 = .ok (.imul, 1) := by decide +kernel
theorem dX11_people_113 : decode cX11_people 113 = .ok (.iadd, 1) := by decide +kernel
theorem dX11_people_114 : decode cX11_people 114 = .ok (.iconst 1, 1) := by decide +kernel
theorem dX11_people_115 : decode cX11_people 115 = .ok (.iadd, 1) := by decide +kernel
theorem dX11_people_116 : decode cX11_people 116 = .ok (.invokevirtual 124, 3) := by decide +kernel
theorem dX11_people_119 : decode cX11_people 119 = .ok (.l2i, 1) := by decide +kernel
theorem dX11_people_120 : decode cX11_people 120 = .ok (.istore 7, 2) := by decide +kernel
theorem dX11_people_122 : decode cX11_people 122 = .ok (.aload_n 0, 1) := by decide +kernel
theorem dX11_people_123 : decode cX11_people 123 = .ok (.getfield 10, 3) := by decide +kernel
theorem dX11_people_126 : decode cX11_people 126 = .ok (.iload 6, 2) := by decide +kernel
theorem dX11_people_128 : decode cX11_people 128 = .ok (.iload 7, 2) := by decide +kernel
theorem dX11_people_130 : decode cX11_people 130 = .ok (.invokevirtual 99, 3) := by decide +kernel
theorem dX11_people_133 : decode cX11_people 133 = .ok (.ifCond .ne 6, 3) := by decide +kernel
theorem dX11_people_136 : decode cX11_people 136 = .ok (.goto 21, 3) := by decide +kernel
theorem dX11_people_139 : decode cX11_people 139 = .ok (.aload_n 0, 1) := by decide +kernel
theorem dX11_people_140 : decode cX11_people 140 = .ok (.getfield 10, 3) := by decide +kernel
theorem dX11_people_143 : decode cX11_people 143 = .ok (.iload 6, 2) := by decide +kernel
theorem dX11_people_145 : decode cX11_people 145 = .ok (.iload 7, 2) := by decide +kernel
theorem dX11_people_147 : decode cX11_people 147 = .ok (.invokevirtual 103, 3) := by decide +kernel
theorem dX11_people_150 : decode cX11_people 150 = .ok (.pop, 1) := by decide +kernel
theorem dX11_people_151 : decode cX11_people 151 = .ok (.iinc 5 1, 3) := by decide +kernel
theorem dX11_people_154 : decode cX11_people 154 = .ok (.goto (-96), 3) := by decide +kernel
theorem dX11_people_157 : decode cX11_people 157 = .ok (.iload 5, 2) := by decide +kernel
theorem dX11_people_159 : decode cX11_people 159 = .ok (.ireturn, 1) := by decide +kernel
theorem dX11_mend_0 : decode cX11_mend 0 = .ok (.aload_n 0, 1) := by decide +kernel
theorem dX11_mend_1 : decode cX11_mend 1 = .ok (.getfield 10, 3) := by decide +kernel
theorem dX11_mend_4 : decode cX11_mend 4 = .ok (.iload_n 1, 1) := by decide +kernel
theorem dX11_mend_5 : decode cX11_mend 5 = .ok (.iload_n 2, 1) := by decide +kernel
theorem dX11_mend_6 : decode cX11_mend 6 = .ok (.invokevirtual 128, 3) := by decide +kernel
theorem dX11_mend_9 : decode cX11_mend 9 = .ok (.istore 4, 2) := by decide +kernel
theorem dX11_mend_11 : decode cX11_mend 11 = .ok (.iload 4, 2) := by decide +kernel
theorem dX11_mend_13 : decode cX11_mend 13 = .ok (.ifCond .lt 11, 3) := by decide +kernel
theorem dX11_mend_16 : decode cX11_mend 16 = .ok (.iload_n 2, 1) := by decide +kernel
theorem dX11_mend_17 : decode cX11_mend 17 = .ok (.iload_n 3, 1) := by decide +kernel
theorem dX11_mend_18 : decode cX11_mend 18 = .ok (.invokestatic 131, 3) := by decide +kernel
theorem dX11_mend_21 : decode cX11_mend 21 = .ok (.ifCond .ne 5, 3) := by decide +kernel
theorem dX11_mend_24 : decode cX11_mend 24 = .ok (.iconst (-1), 1) := by decide +kernel
theorem dX11_mend_25 : decode cX11_mend 25 = .ok (.ireturn, 1) := by decide +kernel
theorem dX11_mend_26 : decode cX11_mend 26 = .ok (.iload_n 3, 1) := by decide +kernel
theorem dX11_mend_27 : decode cX11_mend 27 = .ok (.iload 4, 2) := by decide +kernel
theorem dX11_mend_29 : decode cX11_mend 29 = .ok (.if_icmp .eq 25, 3) := by decide +kernel
theorem dX11_mend_32 : decode cX11_mend 32 = .ok (.aload_n 0, 1) := by decide +kernel
theorem dX11_mend_33 : decode cX11_mend 33 = .ok (.getfield 10, 3) := by decide +kernel
theorem dX11_mend_36 : decode cX11_mend 36 = .ok (.iload_n 1, 1) := by decide +kernel
theorem dX11_mend_37 : decode cX11_mend 37 = .ok (.iload_n 2, 1) := by decide +kernel
theorem dX11_mend_38 : decode cX11_mend 38 = .ok (.iload_n 3, 1) := by decide +kernel
theorem dX11_mend_39 : decode cX11_mend 39 = .ok (.invokevirtual 134, 3) := by decide +kernel
theorem dX11_mend_42 : decode cX11_mend 42 = .ok (.aload_n 0, 1) := by decide +kernel
theorem dX11_mend_43 : decode cX11_mend 43 = .ok (.getfield 63, 3) := by decide +kernel
theorem dX11_mend_46 : decode cX11_mend 46 = .ok (.iload_n 1, 1) := by decide +kernel
theorem dX11_mend_47 : decode cX11_mend 47 = .ok (.iload_n 2, 1) := by decide +kernel
theorem dX11_mend_48 : decode cX11_mend 48 = .ok (.iload 4, 2) := by decide +kernel
theorem dX11_mend_50 : decode cX11_mend 50 = .ok (.iload_n 3, 1) := by decide +kernel
theorem dX11_mend_51 : decode cX11_mend 51 = .ok (.invokevirtual 138, 3) := by decide +kernel
theorem dX11_mend_54 : decode cX11_mend 54 = .ok (.iload 4, 2) := by decide +kernel
theorem dX11_mend_56 : decode cX11_mend 56 = .ok (.ireturn, 1) := by decide +kernel
theorem dX11_wear_0 : decode cX11_wear 0 = .ok (.iload_n 1, 1) := by decide +kernel
theorem dX11_wear_1 : decode cX11_wear 1 = .ok (.iconst (-1), 1) := by decide +kernel
theorem dX11_wear_2 : decode cX11_wear 2 = .ok (.if_icmp .eq 17, 3) := by decide +kernel
theorem dX11_wear_5 : decode cX11_wear 5 = .ok (.aload_n 0, 1) := by decide +kernel
theorem dX11_wear_6 : decode cX11_wear 6 = .ok (.getfield 10, 3) := by decide +kernel
theorem dX11_wear_9 : decode cX11_wear 9 = .ok (.iload_n 1, 1) := by decide +kernel
theorem dX11_wear_10 : decode cX11_wear 10 = .ok (.invokevirtual 142, 3) := by decide +kernel
theorem dX11_wear_13 : decode cX11_wear 13 = .ok (.ifCond .ne 6, 3) := by decide +kernel
theorem dX11_wear_16 : decode cX11_wear 16 = .ok (.ldc 145, 2) := by decide +kernel
theorem dX11_wear_18 : decode cX11_wear 18 = .ok (.ireturn, 1) := by decide +kernel
theorem dX11_wear_19 : decode cX11_wear 19 = .ok (.aload_n 0, 1) := by decide +kernel
theorem dX11_wear_20 : decode cX11_wear 20 = .ok (.getfield 10, 3) := by decide +kernel
theorem dX11_wear_23 : decode cX11_wear 23 = .ok (.getfield 146, 3) := by decide +kernel
theorem dX11_wear_26 : decode cX11_wear 26 = .ok (.istore_n 2, 1) := by decide +kernel
theorem dX11_wear_27 : decode cX11_wear 27 = .ok (.aload_n 0, 1) := by decide +kernel
theorem dX11_wear_28 : decode cX11_wear 28 = .ok (.getfield 10, 3) := by decide +kernel
theorem dX11_wear_31 : decode cX11_wear 31 = .ok (.iload_n 1, 1) := by decide +kernel
theorem dX11_wear_32 : decode cX11_wear 32 = .ok (.putfield 146, 3) := by decide +kernel
theorem dX11_wear_35 : decode cX11_wear 35 = .ok (.iload_n 2, 1) := by decide +kernel
theorem dX11_wear_36 : decode cX11_wear 36 = .ok (.ireturn, 1) := by decide +kernel
theorem dX11_of_0 : decode cX11_of 0 = .ok (.iload_n 2, 1) := by decide +kernel
theorem dX11_of_1 : decode cX11_of 1 = .ok (.ifCond .lt 30, 3) := by decide +kernel
theorem dX11_of_4 : decode cX11_of 4 = .ok (.iload_n 2, 1) := by decide +kernel
theorem dX11_of_5 : decode cX11_of 5 = .ok (.iconst 3, 1) := by decide +kernel
theorem dX11_of_6 : decode cX11_of 6 = .ok (.if_icmp .gt 25, 3) := by decide +kernel
theorem dX11_of_9 : decode cX11_of 9 = .ok (.aload_n 0, 1) := by decide +kernel
theorem dX11_of_10 : decode cX11_of 10 = .ok (.getfield 10, 3) := by decide +kernel
theorem dX11_of_13 : decode cX11_of 13 = .ok (.iload_n 1, 1) := by decide +kernel
theorem dX11_of_14 : decode cX11_of 14 = .ok (.invokevirtual 142, 3) := by decide +kernel
theorem dX11_of_17 : decode cX11_of 17 = .ok (.ifCond .eq 12, 3) := by decide +kernel
theorem dX11_of_20 : decode cX11_of 20 = .ok (.aload_n 0, 1) := by decide +kernel
theorem dX11_of_21 : decode cX11_of 21 = .ok (.iload_n 1, 1) := by decide +kernel
theorem dX11_of_22 : decode cX11_of 22 = .ok (.iload_n 2, 1) := by decide +kernel
theorem dX11_of_23 : decode cX11_of 23 = .ok (.invokevirtual 149, 3) := by decide +kernel
theorem dX11_of_26 : decode cX11_of 26 = .ok (.goto 4, 3) := by decide +kernel
theorem dX11_of_29 : decode cX11_of 29 = .ok (.iconst (-1), 1) := by decide +kernel
theorem dX11_of_30 : decode cX11_of 30 = .ok (.ireturn, 1) := by decide +kernel
theorem dX11_of_31 : decode cX11_of 31 = .ok (.iload_n 2, 1) := by decide +kernel
theorem dX11_of_32 : decode cX11_of 32 = .ok (.lookupswitch 126 #[(10, 44), (11, 82), (20, 92), (30, 116)], 44) := by decide +kernel
theorem dX11_of_76 : decode cX11_of 76 = .ok (.aload_n 0, 1) := by decide +kernel
theorem dX11_of_77 : decode cX11_of 77 = .ok (.getfield 10, 3) := by decide +kernel
theorem dX11_of_80 : decode cX11_of 80 = .ok (.iload_n 1, 1) := by decide +kernel
theorem dX11_of_81 : decode cX11_of 81 = .ok (.invokevirtual 152, 3) := by decide +kernel
theorem dX11_of_84 : decode cX11_of 84 = .ok (.ifCond .eq 28, 3) := by decide +kernel
theorem dX11_of_87 : decode cX11_of 87 = .ok (.bipush 10, 2) := by decide +kernel
theorem dX11_of_89 : decode cX11_of 89 = .ok (.aload_n 0, 1) := by decide +kernel
theorem dX11_of_90 : decode cX11_of 90 = .ok (.getfield 10, 3) := by decide +kernel
theorem dX11_of_93 : decode cX11_of 93 = .ok (.getfield 155, 3) := by decide +kernel
theorem dX11_of_96 : decode cX11_of 96 = .ok (.iload_n 1, 1) := by decide +kernel
theorem dX11_of_97 : decode cX11_of 97 = .ok (.iaload, 1) := by decide +kernel
theorem dX11_of_98 : decode cX11_of 98 = .ok (.imul, 1) := by decide +kernel
theorem dX11_of_99 : decode cX11_of 99 = .ok (.aload_n 0, 1) := by decide +kernel
theorem dX11_of_100 : decode cX11_of 100 = .ok (.getfield 10, 3) := by decide +kernel
theorem dX11_of_103 : decode cX11_of 103 = .ok (.getfield 159, 3) := by decide +kernel
theorem dX11_of_106 : decode cX11_of 106 = .ok (.iload_n 1, 1) := by decide +kernel
theorem dX11_of_107 : decode cX11_of 107 = .ok (.iaload, 1) := by decide +kernel
theorem dX11_of_108 : decode cX11_of 108 = .ok (.iadd, 1) := by decide +kernel
theorem dX11_of_109 : decode cX11_of 109 = .ok (.goto 4, 3) := by decide +kernel
theorem dX11_of_112 : decode cX11_of 112 = .ok (.iconst (-1), 1) := by decide +kernel
theorem dX11_of_113 : decode cX11_of 113 = .ok (.ireturn, 1) := by decide +kernel
theorem dX11_of_114 : decode cX11_of 114 = .ok (.aload_n 0, 1) := by decide +kernel
theorem dX11_of_115 : decode cX11_of 115 = .ok (.getfield 10, 3) := by decide +kernel
theorem dX11_of_118 : decode cX11_of 118 = .ok (.iload_n 1, 1) := by decide +kernel
theorem dX11_of_119 : decode cX11_of 119 = .ok (.iconst 2, 1) := by decide +kernel
theorem dX11_of_120 : decode cX11_of 120 = .ok (.invokevirtual 128, 3) := by decide +kernel
theorem dX11_of_123 : decode cX11_of 123 = .ok (.ireturn, 1) := by decide +kernel
theorem dX11_of_124 : decode cX11_of 124 = .ok (.aload_n 0, 1) := by decide +kernel
theorem dX11_of_125 : decode cX11_of 125 = .ok (.getfield 10, 3) := by decide +kernel
theorem dX11_of_128 : decode cX11_of 128 = .ok (.iload_n 1, 1) := by decide +kernel
theorem dX11_of_129 : decode cX11_of 129 = .ok (.invokevirtual 91, 3) := by decide +kernel
theorem dX11_of_132 : decode cX11_of 132 = .ok (.ifCond .eq 14, 3) := by decide +kernel
theorem dX11_of_135 : decode cX11_of 135 = .ok (.aload_n 0, 1) := by decide +kernel
theorem dX11_of_136 : decode cX11_of 136 = .ok (.getfield 10, 3) := by decide +kernel
theorem dX11_of_139 : decode cX11_of 139 = .ok (.iload_n 1, 1) := by decide +kernel
theorem dX11_of_140 : decode cX11_of 140 = .ok (.invokevirtual 162, 3) := by decide +kernel
theorem dX11_of_143 : decode cX11_of 143 = .ok (.goto 4, 3) := by decide +kernel
theorem dX11_of_146 : decode cX11_of 146 = .ok (.iconst (-1), 1) := by decide +kernel
theorem dX11_of_147 : decode cX11_of 147 = .ok (.ireturn, 1) := by decide +kernel
theorem dX11_of_148 : decode cX11_of 148 = .ok (.aload_n 0, 1) := by decide +kernel
theorem dX11_of_149 : decode cX11_of 149 = .ok (.getfield 10, 3) := by decide +kernel
theorem dX11_of_152 : decode cX11_of 152 = .ok (.iload_n 1, 1) := by decide +kernel
theorem dX11_of_153 : decode cX11_of 153 = .ok (.iconst 3, 1) := by decide +kernel
theorem dX11_of_154 : decode cX11_of 154 = .ok (.invokevirtual 128, 3) := by decide +kernel
theorem dX11_of_157 : decode cX11_of 157 = .ok (.ireturn, 1) := by decide +kernel
theorem dX11_of_158 : decode cX11_of 158 = .ok (.iconst (-1), 1) := by decide +kernel
theorem dX11_of_159 : decode cX11_of 159 = .ok (.ireturn, 1) := by decide +kernel
theorem dX11_ofPerson_0 : decode cX11_ofPerson 0 = .ok (.iload_n 2, 1) := by decide +kernel
theorem dX11_ofPerson_1 : decode cX11_ofPerson 1 = .ok (.tableswitch 57 0 2 #[27, 37, 47], 27) := by decide +kernel
theorem dX11_ofPerson_28 : decode cX11_ofPerson 28 = .ok (.aload_n 0, 1) := by decide +kernel
theorem dX11_ofPerson_29 : decode cX11_ofPerson 29 = .ok (.getfield 10, 3) := by decide +kernel
theorem dX11_ofPerson_32 : decode cX11_ofPerson 32 = .ok (.getfield 166, 3) := by decide +kernel
theorem dX11_ofPerson_35 : decode cX11_ofPerson 35 = .ok (.iload_n 1, 1) := by decide +kernel
theorem dX11_ofPerson_36 : decode cX11_ofPerson 36 = .ok (.iaload, 1) := by decide +kernel
theorem dX11_ofPerson_37 : decode cX11_ofPerson 37 = .ok (.ireturn, 1) := by decide +kernel
theorem dX11_ofPerson_38 : decode cX11_ofPerson 38 = .ok (.aload_n 0, 1) := by decide +kernel
theorem dX11_ofPerson_39 : decode cX11_ofPerson 39 = .ok (.getfield 10, 3) := by decide +kernel
theorem dX11_ofPerson_42 : decode cX11_ofPerson 42 = .ok (.getfield 169, 3) := by decide +kernel
theorem dX11_ofPerson_45 : decode cX11_ofPerson 45 = .ok (.iload_n 1, 1) := by decide +kernel
theorem dX11_ofPerson_46 : decode cX11_ofPerson 46 = .ok (.iaload, 1) := by decide +kernel
theorem dX11_ofPerson_47 : decode cX11_ofPerson 47 = .ok (.ireturn, 1) := by decide +kernel
theorem dX11_ofPerson_48 : decode cX11_ofPerson 48 = .ok (.aload_n 0, 1) := by decide +kernel
theorem dX11_ofPerson_49 : decode cX11_ofPerson 49 = .ok (.getfield 10, 3) := by decide +kernel
theorem dX11_ofPerson_52 : decode cX11_ofPerson 52 = .ok (.getfield 172, 3) := by decide +kernel
theorem dX11_ofPerson_55 : decode cX11_ofPerson 55 = .ok (.iload_n 1, 1) := by decide +kernel
theorem dX11_ofPerson_56 : decode cX11_ofPerson 56 = .ok (.iaload, 1) := by decide +kernel
theorem dX11_ofPerson_57 : decode cX11_ofPerson 57 = .ok (.ireturn, 1) := by decide +kernel
theorem dX11_ofPerson_58 : decode cX11_ofPerson 58 = .ok (.aload_n 0, 1) := by decide +kernel
theorem dX11_ofPerson_59 : decode cX11_ofPerson 59 = .ok (.getfield 10, 3) := by decide +kernel
theorem dX11_ofPerson_62 : decode cX11_ofPerson 62 = .ok (.iload_n 1, 1) := by decide +kernel
theorem dX11_ofPerson_63 : decode cX11_ofPerson 63 = .ok (.aload_n 0, 1) := by decide +kernel
theorem dX11_ofPerson_64 : decode cX11_ofPerson 64 = .ok (.getfield 10, 3) := by decide +kernel
theorem dX11_ofPerson_67 : decode cX11_ofPerson 67 = .ok (.getfield 146, 3) := by decide +kernel
theorem dX11_ofPerson_70 : decode cX11_ofPerson 70 = .ok (.iconst 0, 1) := by decide +kernel
theorem dX11_ofPerson_71 : decode cX11_ofPerson 71 = .ok (.invokevirtual 175, 3) := by decide +kernel
theorem dX11_ofPerson_74 : decode cX11_ofPerson 74 = .ok (.ireturn, 1) := by decide +kernel
theorem dX11_feed_0 : decode cX11_feed 0 = .ok (.iload_n 1, 1) := by decide +kernel
theorem dX11_feed_1 : decode cX11_feed 1 = .ok (.ifCond .lt 10, 3) := by decide +kernel
theorem dX11_feed_4 : decode cX11_feed 4 = .ok (.iload_n 1, 1) := by decide +kernel
theorem dX11_feed_5 : decode cX11_feed 5 = .ok (.sipush 255, 3) := by decide +kernel
theorem dX11_feed_8 : decode cX11_feed 8 = .ok (.if_icmp .le 5, 3) := by decide +kernel
theorem dX11_feed_11 : decode cX11_feed 11 = .ok (.iconst (-1), 1) := by decide +kernel
theorem dX11_feed_12 : decode cX11_feed 12 = .ok (.ireturn, 1) := by decide +kernel
theorem dX11_feed_13 : decode cX11_feed 13 = .ok (.aload_n 0, 1) := by decide +kernel
theorem dX11_feed_14 : decode cX11_feed 14 = .ok (.getfield 19, 3) := by decide +kernel
theorem dX11_feed_17 : decode cX11_feed 17 = .ok (.iload_n 1, 1) := by decide +kernel
theorem dX11_feed_18 : decode cX11_feed 18 = .ok (.invokevirtual 178, 3) := by decide +kernel
theorem dX11_feed_21 : decode cX11_feed 21 = .ok (.ifCond .eq 13, 3) := by decide +kernel
theorem dX11_feed_24 : decode cX11_feed 24 = .ok (.aload_n 0, 1) := by decide +kernel
theorem dX11_feed_25 : decode cX11_feed 25 = .ok (.getfield 19, 3) := by decide +kernel
theorem dX11_feed_28 : decode cX11_feed 28 = .ok (.getfield 181, 3) := by decide +kernel
theorem dX11_feed_31 : decode cX11_feed 31 = .ok (.goto 5, 3) := by decide +kernel
theorem dX11_feed_34 : decode cX11_feed 34 = .ok (.bipush (-3), 2) := by decide +kernel
theorem dX11_feed_36 : decode cX11_feed 36 = .ok (.ireturn, 1) := by decide +kernel
theorem dX11_law_0 : decode cX11_law 0 = .ok (.aload_n 0, 1) := by decide +kernel
theorem dX11_law_1 : decode cX11_law 1 = .ok (.getfield 19, 3) := by decide +kernel
theorem dX11_law_4 : decode cX11_law 4 = .ok (.invokevirtual 182, 3) := by decide +kernel
theorem dX11_law_7 : decode cX11_law 7 = .ok (.istore_n 1, 1) := by decide +kernel
theorem dX11_law_8 : decode cX11_law 8 = .ok (.aload_n 0, 1) := by decide +kernel
theorem dX11_law_9 : decode cX11_law 9 = .ok (.getfield 19, 3) := by decide +kernel
theorem dX11_law_12 : decode cX11_law 12 = .ok (.iconst 0, 1) := by decide +kernel
theorem dX11_law_13 : decode cX11_law 13 = .ok (.putfield 181, 3) := by decide +kernel
theorem dX11_law_16 : decode cX11_law 16 = .ok (.iload_n 1, 1) := by decide +kernel
theorem dX11_law_17 : decode cX11_law 17 = .ok (.ifCond .lt 8, 3) := by decide +kernel
theorem dX11_law_20 : decode cX11_law 20 = .ok (.bipush (-100), 2) := by decide +kernel
theorem dX11_law_22 : decode cX11_law 22 = .ok (.iload_n 1, 1) := by decide +kernel
theorem dX11_law_23 : decode cX11_law 23 = .ok (.isub, 1) := by decide +kernel
theorem dX11_law_24 : decode cX11_law 24 = .ok (.ireturn, 1) := by decide +kernel
theorem dX11_law_25 : decode cX11_law 25 = .ok (.aload_n 0, 1) := by decide +kernel
theorem dX11_law_26 : decode cX11_law 26 = .ok (.getfield 26, 3) := by decide +kernel
theorem dX11_law_29 : decode cX11_law 29 = .ok (.aload_n 0, 1) := by decide +kernel
theorem dX11_law_30 : decode cX11_law 30 = .ok (.getfield 19, 3) := by decide +kernel
theorem dX11_law_33 : decode cX11_law 33 = .ok (.getfield 185, 3) := by decide +kernel
theorem dX11_law_36 : decode cX11_law 36 = .ok (.aload_n 0, 1) := by decide +kernel
theorem dX11_law_37 : decode cX11_law 37 = .ok (.getfield 19, 3) := by decide +kernel
theorem dX11_law_40 : decode cX11_law 40 = .ok (.getfield 188, 3) := by decide +kernel
theorem dX11_law_43 : decode cX11_law 43 = .ok (.invokevirtual 191, 3) := by decide +kernel
theorem dX11_law_46 : decode cX11_law 46 = .ok (.iconst 1, 1) := by decide +kernel
theorem dX11_law_47 : decode cX11_law 47 = .ok (.ireturn, 1) := by decide +kernel
theorem dX11_may_0 : decode cX11_may 0 = .ok (.iload_n 2, 1) := by decide +kernel
theorem dX11_may_1 : decode cX11_may 1 = .ok (.bipush 10, 2) := by decide +kernel
theorem dX11_may_3 : decode cX11_may 3 = .ok (.idiv, 1) := by decide +kernel
theorem dX11_may_4 : decode cX11_may 4 = .ok (.istore_n 3, 1) := by decide +kernel
theorem dX11_may_5 : decode cX11_may 5 = .ok (.iload_n 2, 1) := by decide +kernel
theorem dX11_may_6 : decode cX11_may 6 = .ok (.bipush 10, 2) := by decide +kernel
theorem dX11_may_8 : decode cX11_may 8 = .ok (.irem, 1) := by decide +kernel
theorem dX11_may_9 : decode cX11_may 9 = .ok (.istore 4, 2) := by decide +kernel
theorem dX11_may_11 : decode cX11_may 11 = .ok (.aload_n 0, 1) := by decide +kernel
theorem dX11_may_12 : decode cX11_may 12 = .ok (.getfield 10, 3) := by decide +kernel
theorem dX11_may_15 : decode cX11_may 15 = .ok (.iload_n 1, 1) := by decide +kernel
theorem dX11_may_16 : decode cX11_may 16 = .ok (.invokevirtual 152, 3) := by decide +kernel
theorem dX11_may_19 : decode cX11_may 19 = .ok (.ifCond .eq 32, 3) := by decide +kernel
theorem dX11_may_22 : decode cX11_may 22 = .ok (.aload_n 0, 1) := by decide +kernel
theorem dX11_may_23 : decode cX11_may 23 = .ok (.getfield 10, 3) := by decide +kernel
theorem dX11_may_26 : decode cX11_may 26 = .ok (.iload_n 3, 1) := by decide +kernel
theorem dX11_may_27 : decode cX11_may 27 = .ok (.invokevirtual 142, 3) := by decide +kernel
theorem dX11_may_30 : decode cX11_may 30 = .ok (.ifCond .eq 21, 3) := by decide +kernel
theorem dX11_may_33 : decode cX11_may 33 = .ok (.aload_n 0, 1) := by decide +kernel
theorem dX11_may_34 : decode cX11_may 34 = .ok (.getfield 10, 3) := by decide +kernel
theorem dX11_may_37 : decode cX11_may 37 = .ok (.iload 4, 2) := by decide +kernel
theorem dX11_may_39 : decode cX11_may 39 = .ok (.invokevirtual 142, 3) := by decide +kernel
theorem dX11_may_42 : decode cX11_may 42 = .ok (.ifCond .eq 9, 3) := by decide +kernel
theorem dX11_may_45 : decode cX11_may 45 = .ok (.iload_n 3, 1) := by decide +kernel
theorem dX11_may_46 : decode cX11_may 46 = .ok (.iload 4, 2) := by decide +kernel
theorem dX11_may_48 : decode cX11_may 48 = .ok (.if_icmp .ne 5, 3) := by decide +kernel
theorem dX11_may_51 : decode cX11_may 51 = .ok (.iconst (-1), 1) := by decide +kernel
theorem dX11_may_52 : decode cX11_may 52 = .ok (.ireturn, 1) := by decide +kernel
theorem dX11_may_53 : decode cX11_may 53 = .ok (.aload_n 0, 1) := by decide +kernel
theorem dX11_may_54 : decode cX11_may 54 = .ok (.getfield 35, 3) := by decide +kernel
theorem dX11_may_57 : decode cX11_may 57 = .ok (.iconst 0, 1) := by decide +kernel
theorem dX11_may_58 : decode cX11_may 58 = .ok (.aload_n 0, 1) := by decide +kernel
theorem dX11_may_59 : decode cX11_may 59 = .ok (.getfield 10, 3) := by decide +kernel
theorem dX11_may_62 : decode cX11_may 62 = .ok (.getfield 146, 3) := by decide +kernel
theorem dX11_may_65 : decode cX11_may 65 = .ok (.iconst 0, 1) := by decide +kernel
theorem dX11_may_66 : decode cX11_may 66 = .ok (.invokevirtual 195, 3) := by decide +kernel
theorem dX11_may_69 : decode cX11_may 69 = .ok (.aload_n 0, 1) := by decide +kernel
theorem dX11_may_70 : decode cX11_may 70 = .ok (.getfield 35, 3) := by decide +kernel
theorem dX11_may_73 : decode cX11_may 73 = .ok (.aload_n 0, 1) := by decide +kernel
theorem dX11_may_74 : decode cX11_may 74 = .ok (.getfield 10, 3) := by decide +kernel
theorem dX11_may_77 : decode cX11_may 77 = .ok (.invokevirtual 198, 3) := by decide +kernel
theorem dX11_may_80 : decode cX11_may 80 = .ok (.iload_n 1, 1) := by decide +kernel
theorem dX11_may_81 : decode cX11_may 81 = .ok (.iload_n 3, 1) := by decide +kernel
theorem dX11_may_82 : decode cX11_may 82 = .ok (.iload 4, 2) := by decide +kernel
theorem dX11_may_84 : decode cX11_may 84 = .ok (.invokevirtual 201, 3) := by decide +kernel
theorem dX11_may_87 : decode cX11_may 87 = .ok (.ifCond .eq 7, 3) := by decide +kernel
theorem dX11_may_90 : decode cX11_may 90 = .ok (.iconst 1, 1) := by decide +kernel
theorem dX11_may_91 : decode cX11_may 91 = .ok (.goto 4, 3) := by decide +kernel
theorem dX11_may_94 : decode cX11_may 94 = .ok (.iconst 0, 1) := by decide +kernel
theorem dX11_may_95 : decode cX11_may 95 = .ok (.ireturn, 1) := by decide +kernel
theorem dX11_changes_0 : decode cX11_changes 0 = .ok (.iload_n 1, 1) := by decide +kernel
theorem dX11_changes_1 : decode cX11_changes 1 = .ok (.iconst (-1), 1) := by decide +kernel
theorem dX11_changes_2 : decode cX11_changes 2 = .ok (.if_icmp .ge 5, 3) := by decide +kernel
theorem dX11_changes_5 : decode cX11_changes 5 = .ok (.iconst (-1), 1) := by decide +kernel
theorem dX11_changes_6 : decode cX11_changes 6 = .ok (.ireturn, 1) := by decide +kernel
theorem dX11_changes_7 : decode cX11_changes 7 = .ok (.aload_n 0, 1) := by decide +kernel
theorem dX11_changes_8 : decode cX11_changes 8 = .ok (.getfield 35, 3) := by decide +kernel
theorem dX11_changes_11 : decode cX11_changes 11 = .ok (.iconst 0, 1) := by decide +kernel
theorem dX11_changes_12 : decode cX11_changes 12 = .ok (.aload_n 0, 1) := by decide +kernel
theorem dX11_changes_13 : decode cX11_changes 13 = .ok (.getfield 10, 3) := by decide +kernel
theorem dX11_changes_16 : decode cX11_changes 16 = .ok (.getfield 146, 3) := by decide +kernel
theorem dX11_changes_19 : decode cX11_changes 19 = .ok (.iconst 0, 1) := by decide +kernel
theorem dX11_changes_20 : decode cX11_changes 20 = .ok (.invokevirtual 205, 3) := by decide +kernel
theorem dX11_changes_23 : decode cX11_changes 23 = .ok (.aload_n 0, 1) := by decide +kernel
theorem dX11_changes_24 : decode cX11_changes 24 = .ok (.getfield 42, 3) := by decide +kernel
theorem dX11_changes_27 : decode cX11_changes 27 = .ok (.getfield 208, 3) := by decide +kernel
theorem dX11_changes_30 : decode cX11_changes 30 = .ok (.astore_n 2, 1) := by decide +kernel
theorem dX11_changes_31 : decode cX11_changes 31 = .ok (.aload_n 2, 1) := by decide +kernel
theorem dX11_changes_32 : decode cX11_changes 32 = .ok (.aload_n 0, 1) := by decide +kernel
theorem dX11_changes_33 : decode cX11_changes 33 = .ok (.getfield 35, 3) := by decide +kernel
theorem dX11_changes_36 : decode cX11_changes 36 = .ok (.aload_n 0, 1) := by decide +kernel
theorem dX11_changes_37 : decode cX11_changes 37 = .ok (.getfield 10, 3) := by decide +kernel
theorem dX11_changes_40 : decode cX11_changes 40 = .ok (.invokevirtual 198, 3) := by decide +kernel
theorem dX11_changes_43 : decode cX11_changes 43 = .ok (.invokevirtual 212, 3) := by decide +kernel
theorem dX11_changes_46 : decode cX11_changes 46 = .ok (.iload_n 1, 1) := by decide +kernel
theorem dX11_changes_47 : decode cX11_changes 47 = .ok (.iconst (-1), 1) := by decide +kernel
theorem dX11_changes_48 : decode cX11_changes 48 = .ok (.if_icmp .ne 8, 3) := by decide +kernel
theorem dX11_changes_51 : decode cX11_changes 51 = .ok (.aload_n 2, 1) := by decide +kernel
theorem dX11_changes_52 : decode cX11_changes 52 = .ok (.getfield 218, 3) := by decide +kernel
theorem dX11_changes_55 : decode cX11_changes 55 = .ok (.ireturn, 1) := by decide +kernel
theorem dX11_changes_56 : decode cX11_changes 56 = .ok (.iload_n 1, 1) := by decide +kernel
theorem dX11_changes_57 : decode cX11_changes 57 = .ok (.aload_n 2, 1) := by decide +kernel
theorem dX11_changes_58 : decode cX11_changes 58 = .ok (.getfield 218, 3) := by decide +kernel
theorem dX11_changes_61 : decode cX11_changes 61 = .ok (.if_icmp .ge 12, 3) := by decide +kernel
theorem dX11_changes_64 : decode cX11_changes 64 = .ok (.aload_n 2, 1) := by decide +kernel
theorem dX11_changes_65 : decode cX11_changes 65 = .ok (.getfield 221, 3) := by decide +kernel
theorem dX11_changes_68 : decode cX11_changes 68 = .ok (.iload_n 1, 1) := by decide +kernel
theorem dX11_changes_69 : decode cX11_changes 69 = .ok (.iaload, 1) := by decide +kernel
theorem dX11_changes_70 : decode cX11_changes 70 = .ok (.goto 4, 3) := by decide +kernel
theorem dX11_changes_73 : decode cX11_changes 73 = .ok (.iconst (-1), 1) := by decide +kernel
theorem dX11_changes_74 : decode cX11_changes 74 = .ok (.ireturn, 1) := by decide +kernel
theorem dX11_change_0 : decode cX11_change 0 = .ok (.aload_n 0, 1) := by decide +kernel
theorem dX11_change_1 : decode cX11_change 1 = .ok (.iload_n 1, 1) := by decide +kernel
theorem dX11_change_2 : decode cX11_change 2 = .ok (.iload_n 2, 1) := by decide +kernel
theorem dX11_change_3 : decode cX11_change 3 = .ok (.invokevirtual 224, 3) := by decide +kernel
theorem dX11_change_6 : decode cX11_change 6 = .ok (.istore_n 3, 1) := by decide +kernel
theorem dX11_change_7 : decode cX11_change 7 = .ok (.iload_n 3, 1) := by decide +kernel
theorem dX11_change_8 : decode cX11_change 8 = .ok (.ifCond .ge 5, 3) := by decide +kernel
theorem dX11_change_11 : decode cX11_change 11 = .ok (.iconst (-1), 1) := by decide +kernel
theorem dX11_change_12 : decode cX11_change 12 = .ok (.ireturn, 1) := by decide +kernel
theorem dX11_change_13 : decode cX11_change 13 = .ok (.iload_n 3, 1) := by decide +kernel
theorem dX11_change_14 : decode cX11_change 14 = .ok (.ifCond .ne 6, 3) := by decide +kernel
theorem dX11_change_17 : decode cX11_change 17 = .ok (.bipush (-2), 2) := by decide +kernel
theorem dX11_change_19 : decode cX11_change 19 = .ok (.ireturn, 1) := by decide +kernel
theorem dX11_change_20 : decode cX11_change 20 = .ok (.aload_n 0, 1) := by decide +kernel
theorem dX11_change_21 : decode cX11_change 21 = .ok (.getfield 10, 3) := by decide +kernel
theorem dX11_change_24 : decode cX11_change 24 = .ok (.getfield 169, 3) := by decide +kernel
theorem dX11_change_27 : decode cX11_change 27 = .ok (.iload_n 2, 1) := by decide +kernel
theorem dX11_change_28 : decode cX11_change 28 = .ok (.bipush 10, 2) := by decide +kernel
theorem dX11_change_30 : decode cX11_change 30 = .ok (.idiv, 1) := by decide +kernel
theorem dX11_change_31 : decode cX11_change 31 = .ok (.aload_n 0, 1) := by decide +kernel
theorem dX11_change_32 : decode cX11_change 32 = .ok (.getfield 10, 3) := by decide +kernel
theorem dX11_change_35 : decode cX11_change 35 = .ok (.getfield 159, 3) := by decide +kernel
theorem dX11_change_38 : decode cX11_change 38 = .ok (.iload_n 1, 1) := by decide +kernel
theorem dX11_change_39 : decode cX11_change 39 = .ok (.iaload, 1) := by decide +kernel
theorem dX11_change_40 : decode cX11_change 40 = .ok (.iastore, 1) := by decide +kernel
theorem dX11_change_41 : decode cX11_change 41 = .ok (.aload_n 0, 1) := by decide +kernel
theorem dX11_change_42 : decode cX11_change 42 = .ok (.getfield 10, 3) := by decide +kernel
theorem dX11_change_45 : decode cX11_change 45 = .ok (.getfield 169, 3) := by decide +kernel
theorem dX11_change_48 : decode cX11_change 48 = .ok (.iload_n 2, 1) := by decide +kernel
theorem dX11_change_49 : decode cX11_change 49 = .ok (.bipush 10, 2) := by decide +kernel
theorem dX11_change_51 : decode cX11_change 51 = .ok (.irem, 1) := by decide +kernel
theorem dX11_change_52 : decode cX11_change 52 = .ok (.aload_n 0, 1) := by decide +kernel
theorem dX11_change_53 : decode cX11_change 53 = .ok (.getfield 10, 3) := by decide +kernel
theorem dX11_change_56 : decode cX11_change 56 = .ok (.getfield 155, 3) := by decide +kernel
theorem dX11_change_59 : decode cX11_change 59 = .ok (.iload_n 1, 1) := by decide +kernel
theorem dX11_change_60 : decode cX11_change 60 = .ok (.iaload, 1) := by decide +kernel
theorem dX11_change_61 : decode cX11_change 61 = .ok (.iastore, 1) := by decide +kernel
theorem dX11_change_62 : decode cX11_change 62 = .ok (.aload_n 0, 1) := by decide +kernel
theorem dX11_change_63 : decode cX11_change 63 = .ok (.bipush 100, 2) := by decide +kernel
theorem dX11_change_65 : decode cX11_change 65 = .ok (.iload_n 1, 1) := by decide +kernel
theorem dX11_change_66 : decode cX11_change 66 = .ok (.imul, 1) := by decide +kernel
theorem dX11_change_67 : decode cX11_change 67 = .ok (.iload_n 2, 1) := by decide +kernel
theorem dX11_change_68 : decode cX11_change 68 = .ok (.iadd, 1) := by decide +kernel
theorem dX11_change_69 : decode cX11_change 69 = .ok (.putfield 84, 3) := by decide +kernel
theorem dX11_change_72 : decode cX11_change 72 = .ok (.aload_n 0, 1) := by decide +kernel
theorem dX11_change_73 : decode cX11_change 73 = .ok (.dup, 1) := by decide +kernel
theorem dX11_change_74 : decode cX11_change 74 = .ok (.getfield 80, 3) := by decide +kernel
theorem dX11_change_77 : decode cX11_change 77 = .ok (.iconst 1, 1) := by decide +kernel
theorem dX11_change_78 : decode cX11_change 78 = .ok (.iadd, 1) := by decide +kernel
theorem dX11_change_79 : decode cX11_change 79 = .ok (.putfield 80, 3) := by decide +kernel
theorem dX11_change_82 : decode cX11_change 82 = .ok (.aload_n 0, 1) := by decide +kernel
theorem dX11_change_83 : decode cX11_change 83 = .ok (.getfield 80, 3) := by decide +kernel
theorem dX11_change_86 : decode cX11_change 86 = .ok (.ireturn, 1) := by decide +kernel
theorem dX11_led_0 : decode cX11_led 0 = .ok (.iload_n 1, 1) := by decide +kernel
theorem dX11_led_1 : decode cX11_led 1 = .ok (.ifCond .ne 8, 3) := by decide +kernel
theorem dX11_led_4 : decode cX11_led 4 = .ok (.aload_n 0, 1) := by decide +kernel
theorem dX11_led_5 : decode cX11_led 5 = .ok (.getfield 80, 3) := by decide +kernel
theorem dX11_led_8 : decode cX11_led 8 = .ok (.ireturn, 1) := by decide +kernel
theorem dX11_led_9 : decode cX11_led 9 = .ok (.iload_n 1, 1) := by decide +kernel
theorem dX11_led_10 : decode cX11_led 10 = .ok (.iconst 1, 1) := by decide +kernel
theorem dX11_led_11 : decode cX11_led 11 = .ok (.if_icmp .eq 5, 3) := by decide +kernel
theorem dX11_led_14 : decode cX11_led 14 = .ok (.iconst (-1), 1) := by decide +kernel
theorem dX11_led_15 : decode cX11_led 15 = .ok (.ireturn, 1) := by decide +kernel
theorem dX11_led_16 : decode cX11_led 16 = .ok (.aload_n 0, 1) := by decide +kernel
theorem dX11_led_17 : decode cX11_led 17 = .ok (.getfield 80, 3) := by decide +kernel
theorem dX11_led_20 : decode cX11_led 20 = .ok (.ifCond .ne 8, 3) := by decide +kernel
theorem dX11_led_23 : decode cX11_led 23 = .ok (.bipush (-5), 2) := by decide +kernel
theorem dX11_led_25 : decode cX11_led 25 = .ok (.goto 7, 3) := by decide +kernel
theorem dX11_led_28 : decode cX11_led 28 = .ok (.aload_n 0, 1) := by decide +kernel
theorem dX11_led_29 : decode cX11_led 29 = .ok (.getfield 84, 3) := by decide +kernel
theorem dX11_led_32 : decode cX11_led 32 = .ok (.ireturn, 1) := by decide +kernel
theorem dX11_reach_0 : decode cX11_reach 0 = .ok (.iload_n 1, 1) := by decide +kernel
theorem dX11_reach_1 : decode cX11_reach 1 = .ok (.ifCond .lt 8, 3) := by decide +kernel
theorem dX11_reach_4 : decode cX11_reach 4 = .ok (.iload_n 1, 1) := by decide +kernel
theorem dX11_reach_5 : decode cX11_reach 5 = .ok (.iconst 2, 1) := by decide +kernel
theorem dX11_reach_6 : decode cX11_reach 6 = .ok (.if_icmp .le 5, 3) := by decide +kernel
theorem dX11_reach_9 : decode cX11_reach 9 = .ok (.iconst (-1), 1) := by decide +kernel
theorem dX11_reach_10 : decode cX11_reach 10 = .ok (.ireturn, 1) := by decide +kernel
theorem dX11_reach_11 : decode cX11_reach 11 = .ok (.aload_n 0, 1) := by decide +kernel
theorem dX11_reach_12 : decode cX11_reach 12 = .ok (.getfield 35, 3) := by decide +kernel
theorem dX11_reach_15 : decode cX11_reach 15 = .ok (.iconst 0, 1) := by decide +kernel
theorem dX11_reach_16 : decode cX11_reach 16 = .ok (.aload_n 0, 1) := by decide +kernel
theorem dX11_reach_17 : decode cX11_reach 17 = .ok (.getfield 10, 3) := by decide +kernel
theorem dX11_reach_20 : decode cX11_reach 20 = .ok (.getfield 146, 3) := by decide +kernel
theorem dX11_reach_23 : decode cX11_reach 23 = .ok (.iconst 0, 1) := by decide +kernel
theorem dX11_reach_24 : decode cX11_reach 24 = .ok (.invokevirtual 205, 3) := by decide +kernel
theorem dX11_reach_27 : decode cX11_reach 27 = .ok (.aload_n 0, 1) := by decide +kernel
theorem dX11_reach_28 : decode cX11_reach 28 = .ok (.getfield 42, 3) := by decide +kernel
theorem dX11_reach_31 : decode cX11_reach 31 = .ok (.aload_n 0, 1) := by decide +kernel
theorem dX11_reach_32 : decode cX11_reach 32 = .ok (.getfield 35, 3) := by decide +kernel
theorem dX11_reach_35 : decode cX11_reach 35 = .ok (.aload_n 0, 1) := by decide +kernel
theorem dX11_reach_36 : decode cX11_reach 36 = .ok (.getfield 10, 3) := by decide +kernel
theorem dX11_reach_39 : decode cX11_reach 39 = .ok (.invokevirtual 198, 3) := by decide +kernel
theorem dX11_reach_42 : decode cX11_reach 42 = .ok (.invokevirtual 227, 3) := by decide +kernel
theorem dX11_reach_45 : decode cX11_reach 45 = .ok (.iload_n 1, 1) := by decide +kernel
theorem dX11_reach_46 : decode cX11_reach 46 = .ok (.ifCond .ne 11, 3) := by decide +kernel
theorem dX11_reach_49 : decode cX11_reach 49 = .ok (.aload_n 0, 1) := by decide +kernel
theorem dX11_reach_50 : decode cX11_reach 50 = .ok (.getfield 42, 3) := by decide +kernel
theorem dX11_reach_53 : decode cX11_reach 53 = .ok (.getfield 230, 3) := by decide +kernel
theorem dX11_reach_56 : decode cX11_reach 56 = .ok (.ireturn, 1) := by decide +kernel
theorem dX11_reach_57 : decode cX11_reach 57 = .ok (.iload_n 1, 1) := by decide +kernel
theorem dX11_reach_58 : decode cX11_reach 58 = .ok (.iconst 1, 1) := by decide +kernel
theorem dX11_reach_59 : decode cX11_reach 59 = .ok (.if_icmp .ne 17, 3) := by decide +kernel
theorem dX11_reach_62 : decode cX11_reach 62 = .ok (.aload_n 0, 1) := by decide +kernel
theorem dX11_reach_63 : decode cX11_reach 63 = .ok (.getfield 42, 3) := by decide +kernel
theorem dX11_reach_66 : decode cX11_reach 66 = .ok (.aload_n 0, 1) := by decide +kernel
theorem dX11_reach_67 : decode cX11_reach 67 = .ok (.getfield 35, 3) := by decide +kernel
theorem dX11_reach_70 : decode cX11_reach 70 = .ok (.invokevirtual 233, 3) := by decide +kernel
theorem dX11_reach_73 : decode cX11_reach 73 = .ok (.goto 14, 3) := by decide +kernel
theorem dX11_reach_76 : decode cX11_reach 76 = .ok (.aload_n 0, 1) := by decide +kernel
theorem dX11_reach_77 : decode cX11_reach 77 = .ok (.getfield 42, 3) := by decide +kernel
theorem dX11_reach_80 : decode cX11_reach 80 = .ok (.aload_n 0, 1) := by decide +kernel
theorem dX11_reach_81 : decode cX11_reach 81 = .ok (.getfield 35, 3) := by decide +kernel
theorem dX11_reach_84 : decode cX11_reach 84 = .ok (.invokevirtual 237, 3) := by decide +kernel
theorem dX11_reach_87 : decode cX11_reach 87 = .ok (.ireturn, 1) := by decide +kernel
theorem dX11_canBe_0 : decode cX11_canBe 0 = .ok (.aload_n 0, 1) := by decide +kernel
theorem dX11_canBe_1 : decode cX11_canBe 1 = .ok (.getfield 10, 3) := by decide +kernel
theorem dX11_canBe_4 : decode cX11_canBe 4 = .ok (.iload_n 1, 1) := by decide +kernel
theorem dX11_canBe_5 : decode cX11_canBe 5 = .ok (.invokevirtual 142, 3) := by decide +kernel
theorem dX11_canBe_8 : decode cX11_canBe 8 = .ok (.ifCond .ne 5, 3) := by decide +kernel
theorem dX11_canBe_11 : decode cX11_canBe 11 = .ok (.iconst (-1), 1) := by decide +kernel
theorem dX11_canBe_12 : decode cX11_canBe 12 = .ok (.ireturn, 1) := by decide +kernel
theorem dX11_canBe_13 : decode cX11_canBe 13 = .ok (.aload_n 0, 1) := by decide +kernel
theorem dX11_canBe_14 : decode cX11_canBe 14 = .ok (.getfield 35, 3) := by decide +kernel
theorem dX11_canBe_17 : decode cX11_canBe 17 = .ok (.iconst 0, 1) := by decide +kernel
theorem dX11_canBe_18 : decode cX11_canBe 18 = .ok (.aload_n 0, 1) := by decide +kernel
theorem dX11_canBe_19 : decode cX11_canBe 19 = .ok (.getfield 10, 3) := by decide +kernel
theorem dX11_canBe_22 : decode cX11_canBe 22 = .ok (.getfield 146, 3) := by decide +kernel
theorem dX11_canBe_25 : decode cX11_canBe 25 = .ok (.iconst 0, 1) := by decide +kernel
theorem dX11_canBe_26 : decode cX11_canBe 26 = .ok (.invokevirtual 205, 3) := by decide +kernel
theorem dX11_canBe_29 : decode cX11_canBe 29 = .ok (.aload_n 0, 1) := by decide +kernel
theorem dX11_canBe_30 : decode cX11_canBe 30 = .ok (.getfield 42, 3) := by decide +kernel
theorem dX11_canBe_33 : decode cX11_canBe 33 = .ok (.aload_n 0, 1) := by decide +kernel
theorem dX11_canBe_34 : decode cX11_canBe 34 = .ok (.getfield 35, 3) := by decide +kernel
theorem dX11_canBe_37 : decode cX11_canBe 37 = .ok (.aload_n 0, 1) := by decide +kernel
theorem dX11_canBe_38 : decode cX11_canBe 38 = .ok (.getfield 10, 3) := by decide +kernel
theorem dX11_canBe_41 : decode cX11_canBe 41 = .ok (.invokevirtual 198, 3) := by decide +kernel
theorem dX11_canBe_44 : decode cX11_canBe 44 = .ok (.invokevirtual 227, 3) := by decide +kernel
theorem dX11_canBe_47 : decode cX11_canBe 47 = .ok (.iconst 0, 1) := by decide +kernel
theorem dX11_canBe_48 : decode cX11_canBe 48 = .ok (.istore_n 2, 1) := by decide +kernel
theorem dX11_canBe_49 : decode cX11_canBe 49 = .ok (.iconst 0, 1) := by decide +kernel
theorem dX11_canBe_50 : decode cX11_canBe 50 = .ok (.istore_n 3, 1) := by decide +kernel
theorem dX11_canBe_51 : decode cX11_canBe 51 = .ok (.iload_n 3, 1) := by decide +kernel
theorem dX11_canBe_52 : decode cX11_canBe 52 = .ok (.aload_n 0, 1) := by decide +kernel
theorem dX11_canBe_53 : decode cX11_canBe 53 = .ok (.getfield 42, 3) := by decide +kernel
theorem dX11_canBe_56 : decode cX11_canBe 56 = .ok (.getfield 230, 3) := by decide +kernel
theorem dX11_canBe_59 : decode cX11_canBe 59 = .ok (.if_icmp .ge 27, 3) := by decide +kernel
theorem dX11_canBe_62 : decode cX11_canBe 62 = .ok (.iload_n 2, 1) := by decide +kernel
theorem dX11_canBe_63 : decode cX11_canBe 63 = .ok (.iconst 1, 1) := by decide +kernel
theorem dX11_canBe_64 : decode cX11_canBe 64 = .ok (.aload_n 0, 1) := by decide +kernel
theorem dX11_canBe_65 : decode cX11_canBe 65 = .ok (.getfield 42, 3) := by decide +kernel
theorem dX11_canBe_68 : decode cX11_canBe 68 = .ok (.getfield 240, 3) := by decide +kernel
theorem dX11_canBe_71 : decode cX11_canBe 71 = .ok (.iload_n 3, 1) := by decide +kernel
theorem dX11_canBe_72 : decode cX11_canBe 72 = .ok (.iaload, 1) := by decide +kernel
theorem dX11_canBe_73 : decode cX11_canBe 73 = .ok (.iload_n 1, 1) := by decide +kernel
theorem dX11_canBe_74 : decode cX11_canBe 74 = .ok (.invokestatic 243, 3) := by decide +kernel
theorem dX11_canBe_77 : decode cX11_canBe 77 = .ok (.ishl, 1) := by decide +kernel
theorem dX11_canBe_78 : decode cX11_canBe 78 = .ok (.ior, 1) := by decide +kernel
theorem dX11_canBe_79 : decode cX11_canBe 79 = .ok (.istore_n 2, 1) := by decide +kernel
theorem dX11_canBe_80 : decode cX11_canBe 80 = .ok (.iinc 3 1, 3) := by decide +kernel
theorem dX11_canBe_83 : decode cX11_canBe 83 = .ok (.goto (-32), 3) := by decide +kernel
theorem dX11_canBe_86 : decode cX11_canBe 86 = .ok (.iload_n 2, 1) := by decide +kernel
theorem dX11_canBe_87 : decode cX11_canBe 87 = .ok (.ireturn, 1) := by decide +kernel
theorem dX11_fewest_0 : decode cX11_fewest 0 = .ok (.aload_n 0, 1) := by decide +kernel
theorem dX11_fewest_1 : decode cX11_fewest 1 = .ok (.iload_n 1, 1) := by decide +kernel
theorem dX11_fewest_2 : decode cX11_fewest 2 = .ok (.iload_n 2, 1) := by decide +kernel
theorem dX11_fewest_3 : decode cX11_fewest 3 = .ok (.invokevirtual 246, 3) := by decide +kernel
theorem dX11_fewest_6 : decode cX11_fewest 6 = .ok (.ifCond .eq 19, 3) := by decide +kernel
theorem dX11_fewest_9 : decode cX11_fewest 9 = .ok (.iload_n 3, 1) := by decide +kernel
theorem dX11_fewest_10 : decode cX11_fewest 10 = .ok (.iconst (-1), 1) := by decide +kernel
theorem dX11_fewest_11 : decode cX11_fewest 11 = .ok (.if_icmp .eq 16, 3) := by decide +kernel
theorem dX11_fewest_14 : decode cX11_fewest 14 = .ok (.aload_n 0, 1) := by decide +kernel
theorem dX11_fewest_15 : decode cX11_fewest 15 = .ok (.getfield 10, 3) := by decide +kernel
theorem dX11_fewest_18 : decode cX11_fewest 18 = .ok (.iload_n 3, 1) := by decide +kernel
theorem dX11_fewest_19 : decode cX11_fewest 19 = .ok (.invokevirtual 142, 3) := by decide +kernel
theorem dX11_fewest_22 : decode cX11_fewest 22 = .ok (.ifCond .ne 5, 3) := by decide +kernel
theorem dX11_fewest_25 : decode cX11_fewest 25 = .ok (.iconst (-1), 1) := by decide +kernel
theorem dX11_fewest_26 : decode cX11_fewest 26 = .ok (.ireturn, 1) := by decide +kernel
theorem dX11_fewest_27 : decode cX11_fewest 27 = .ok (.aload_n 0, 1) := by decide +kernel
theorem dX11_fewest_28 : decode cX11_fewest 28 = .ok (.getfield 35, 3) := by decide +kernel
theorem dX11_fewest_31 : decode cX11_fewest 31 = .ok (.iconst 0, 1) := by decide +kernel
theorem dX11_fewest_32 : decode cX11_fewest 32 = .ok (.aload_n 0, 1) := by decide +kernel
theorem dX11_fewest_33 : decode cX11_fewest 33 = .ok (.getfield 10, 3) := by decide +kernel
theorem dX11_fewest_36 : decode cX11_fewest 36 = .ok (.getfield 146, 3) := by decide +kernel
theorem dX11_fewest_39 : decode cX11_fewest 39 = .ok (.iconst 0, 1) := by decide +kernel
theorem dX11_fewest_40 : decode cX11_fewest 40 = .ok (.invokevirtual 205, 3) := by decide +kernel
theorem dX11_fewest_43 : decode cX11_fewest 43 = .ok (.iload_n 3, 1) := by decide +kernel
theorem dX11_fewest_44 : decode cX11_fewest 44 = .ok (.ifCond .lt 11, 3) := by decide +kernel
theorem dX11_fewest_47 : decode cX11_fewest 47 = .ok (.aload_n 0, 1) := by decide +kernel
theorem dX11_fewest_48 : decode cX11_fewest 48 = .ok (.getfield 35, 3) := by decide +kernel
theorem dX11_fewest_51 : decode cX11_fewest 51 = .ok (.iload_n 3, 1) := by decide +kernel
theorem dX11_fewest_52 : decode cX11_fewest 52 = .ok (.invokevirtual 249, 3) := by decide +kernel
theorem dX11_fewest_55 : decode cX11_fewest 55 = .ok (.aload_n 0, 1) := by decide +kernel
theorem dX11_fewest_56 : decode cX11_fewest 56 = .ok (.iload_n 1, 1) := by decide +kernel
theorem dX11_fewest_57 : decode cX11_fewest 57 = .ok (.iload_n 2, 1) := by decide +kernel
theorem dX11_fewest_58 : decode cX11_fewest 58 = .ok (.invokevirtual 253, 3) := by decide +kernel
theorem dX11_fewest_61 : decode cX11_fewest 61 = .ok (.ireturn, 1) := by decide +kernel
theorem dX11_first_0 : decode cX11_first 0 = .ok (.aload_n 0, 1) := by decide +kernel
theorem dX11_first_1 : decode cX11_first 1 = .ok (.iload_n 1, 1) := by decide +kernel
theorem dX11_first_2 : decode cX11_first 2 = .ok (.iload_n 2, 1) := by decide +kernel
theorem dX11_first_3 : decode cX11_first 3 = .ok (.invokevirtual 246, 3) := by decide +kernel
theorem dX11_first_6 : decode cX11_first 6 = .ok (.ifCond .ne 5, 3) := by decide +kernel
theorem dX11_first_9 : decode cX11_first 9 = .ok (.iconst (-1), 1) := by decide +kernel
theorem dX11_first_10 : decode cX11_first 10 = .ok (.ireturn, 1) := by decide +kernel
theorem dX11_first_11 : decode cX11_first 11 = .ok (.aload_n 0, 1) := by decide +kernel
theorem dX11_first_12 : decode cX11_first 12 = .ok (.getfield 35, 3) := by decide +kernel
theorem dX11_first_15 : decode cX11_first 15 = .ok (.iconst 0, 1) := by decide +kernel
theorem dX11_first_16 : decode cX11_first 16 = .ok (.aload_n 0, 1) := by decide +kernel
theorem dX11_first_17 : decode cX11_first 17 = .ok (.getfield 10, 3) := by decide +kernel
theorem dX11_first_20 : decode cX11_first 20 = .ok (.getfield 146, 3) := by decide +kernel
theorem dX11_first_23 : decode cX11_first 23 = .ok (.iconst 0, 1) := by decide +kernel
theorem dX11_first_24 : decode cX11_first 24 = .ok (.invokevirtual 205, 3) := by decide +kernel
theorem dX11_first_27 : decode cX11_first 27 = .ok (.aload_n 0, 1) := by decide +kernel
theorem dX11_first_28 : decode cX11_first 28 = .ok (.getfield 42, 3) := by decide +kernel
theorem dX11_first_31 : decode cX11_first 31 = .ok (.aload_n 0, 1) := by decide +kernel
theorem dX11_first_32 : decode cX11_first 32 = .ok (.getfield 35, 3) := by decide +kernel
theorem dX11_first_35 : decode cX11_first 35 = .ok (.aload_n 0, 1) := by decide +kernel
theorem dX11_first_36 : decode cX11_first 36 = .ok (.getfield 10, 3) := by decide +kernel
theorem dX11_first_39 : decode cX11_first 39 = .ok (.invokevirtual 198, 3) := by decide +kernel
theorem dX11_first_42 : decode cX11_first 42 = .ok (.iconst 3, 1) := by decide +kernel
theorem dX11_first_43 : decode cX11_first 43 = .ok (.iload_n 1, 1) := by decide +kernel
theorem dX11_first_44 : decode cX11_first 44 = .ok (.invokestatic 256, 3) := by decide +kernel
theorem dX11_first_47 : decode cX11_first 47 = .ok (.imul, 1) := by decide +kernel
theorem dX11_first_48 : decode cX11_first 48 = .ok (.iload_n 2, 1) := by decide +kernel
theorem dX11_first_49 : decode cX11_first 49 = .ok (.iload_n 1, 1) := by decide +kernel
theorem dX11_first_50 : decode cX11_first 50 = .ok (.invokestatic 256, 3) := by decide +kernel
theorem dX11_first_53 : decode cX11_first 53 = .ok (.imul, 1) := by decide +kernel
theorem dX11_first_54 : decode cX11_first 54 = .ok (.invokevirtual 259, 3) := by decide +kernel
theorem dX11_first_57 : decode cX11_first 57 = .ok (.istore_n 3, 1) := by decide +kernel
theorem dX11_first_58 : decode cX11_first 58 = .ok (.iload_n 3, 1) := by decide +kernel
theorem dX11_first_59 : decode cX11_first 59 = .ok (.ifCond .ge 6, 3) := by decide +kernel
theorem dX11_first_62 : decode cX11_first 62 = .ok (.bipush (-2), 2) := by decide +kernel
theorem dX11_first_64 : decode cX11_first 64 = .ok (.ireturn, 1) := by decide +kernel
theorem dX11_first_65 : decode cX11_first 65 = .ok (.iload_n 3, 1) := by decide +kernel
theorem dX11_first_66 : decode cX11_first 66 = .ok (.ifCond .ne 8, 3) := by decide +kernel
theorem dX11_first_69 : decode cX11_first 69 = .ok (.bipush (-5), 2) := by decide +kernel
theorem dX11_first_71 : decode cX11_first 71 = .ok (.goto 12, 3) := by decide +kernel
theorem dX11_first_74 : decode cX11_first 74 = .ok (.aload_n 0, 1) := by decide +kernel
theorem dX11_first_75 : decode cX11_first 75 = .ok (.getfield 42, 3) := by decide +kernel
theorem dX11_first_78 : decode cX11_first 78 = .ok (.getfield 263, 3) := by decide +kernel
theorem dX11_first_81 : decode cX11_first 81 = .ok (.iload_n 3, 1) := by decide +kernel
theorem dX11_first_82 : decode cX11_first 82 = .ok (.iaload, 1) := by decide +kernel
theorem dX11_first_83 : decode cX11_first 83 = .ok (.ireturn, 1) := by decide +kernel
theorem dX11_turn_0 : decode cX11_turn 0 = .ok (.aload_n 0, 1) := by decide +kernel
theorem dX11_turn_1 : decode cX11_turn 1 = .ok (.iload_n 1, 1) := by decide +kernel
theorem dX11_turn_2 : decode cX11_turn 2 = .ok (.iload_n 2, 1) := by decide +kernel
theorem dX11_turn_3 : decode cX11_turn 3 = .ok (.invokevirtual 246, 3) := by decide +kernel
theorem dX11_turn_6 : decode cX11_turn 6 = .ok (.ifCond .ne 5, 3) := by decide +kernel
theorem dX11_turn_9 : decode cX11_turn 9 = .ok (.iconst (-1), 1) := by decide +kernel
theorem dX11_turn_10 : decode cX11_turn 10 = .ok (.ireturn, 1) := by decide +kernel
theorem dX11_turn_11 : decode cX11_turn 11 = .ok (.iconst 1, 1) := by decide +kernel
theorem dX11_turn_12 : decode cX11_turn 12 = .ok (.aload_n 0, 1) := by decide +kernel
theorem dX11_turn_13 : decode cX11_turn 13 = .ok (.getfield 10, 3) := by decide +kernel
theorem dX11_turn_16 : decode cX11_turn 16 = .ok (.getfield 266, 3) := by decide +kernel
theorem dX11_turn_19 : decode cX11_turn 19 = .ok (.ishl, 1) := by decide +kernel
theorem dX11_turn_20 : decode cX11_turn 20 = .ok (.istore_n 3, 1) := by decide +kernel
theorem dX11_turn_21 : decode cX11_turn 21 = .ok (.iconst 0, 1) := by decide +kernel
theorem dX11_turn_22 : decode cX11_turn 22 = .ok (.istore 4, 2) := by decide +kernel
theorem dX11_turn_24 : decode cX11_turn 24 = .ok (.iload 4, 2) := by decide +kernel
theorem dX11_turn_26 : decode cX11_turn 26 = .ok (.aload_n 0, 1) := by decide +kernel
theorem dX11_turn_27 : decode cX11_turn 27 = .ok (.getfield 10, 3) := by decide +kernel
theorem dX11_turn_30 : decode cX11_turn 30 = .ok (.getfield 266, 3) := by decide +kernel
theorem dX11_turn_33 : decode cX11_turn 33 = .ok (.if_icmp .gt 66, 3) := by decide +kernel
theorem dX11_turn_36 : decode cX11_turn 36 = .ok (.iconst 0, 1) := by decide +kernel
theorem dX11_turn_37 : decode cX11_turn 37 = .ok (.istore 5, 2) := by decide +kernel
theorem dX11_turn_39 : decode cX11_turn 39 = .ok (.iload 5, 2) := by decide +kernel
theorem dX11_turn_41 : decode cX11_turn 41 = .ok (.iload_n 3, 1) := by decide +kernel
theorem dX11_turn_42 : decode cX11_turn 42 = .ok (.if_icmp .ge 51, 3) := by decide +kernel
theorem dX11_turn_45 : decode cX11_turn 45 = .ok (.iload 5, 2) := by decide +kernel
theorem dX11_turn_47 : decode cX11_turn 47 = .ok (.invokestatic 269, 3) := by decide +kernel
theorem dX11_turn_50 : decode cX11_turn 50 = .ok (.iload 4, 2) := by decide +kernel
theorem dX11_turn_52 : decode cX11_turn 52 = .ok (.if_icmp .eq 6, 3) := by decide +kernel
theorem dX11_turn_55 : decode cX11_turn 55 = .ok (.goto 32, 3) := by decide +kernel
theorem dX11_turn_58 : decode cX11_turn 58 = .ok (.aload_n 0, 1) := by decide +kernel
theorem dX11_turn_59 : decode cX11_turn 59 = .ok (.getfield 35, 3) := by decide +kernel
theorem dX11_turn_62 : decode cX11_turn 62 = .ok (.iconst 0, 1) := by decide +kernel
theorem dX11_turn_63 : decode cX11_turn 63 = .ok (.aload_n 0, 1) := by decide +kernel
theorem dX11_turn_64 : decode cX11_turn 64 = .ok (.getfield 10, 3) := by decide +kernel
theorem dX11_turn_67 : decode cX11_turn 67 = .ok (.getfield 146, 3) := by decide +kernel
theorem dX11_turn_70 : decode cX11_turn 70 = .ok (.iload 5, 2) := by decide +kernel
theorem dX11_turn_72 : decode cX11_turn 72 = .ok (.invokevirtual 205, 3) := by decide +kernel
theorem dX11_turn_75 : decode cX11_turn 75 = .ok (.aload_n 0, 1) := by decide +kernel
theorem dX11_turn_76 : decode cX11_turn 76 = .ok (.iload_n 1, 1) := by decide +kernel
theorem dX11_turn_77 : decode cX11_turn 77 = .ok (.iload_n 2, 1) := by decide +kernel
theorem dX11_turn_78 : decode cX11_turn 78 = .ok (.invokevirtual 253, 3) := by decide +kernel
theorem dX11_turn_81 : decode cX11_turn 81 = .ok (.ifCond .lt 6, 3) := by decide +kernel
theorem dX11_turn_84 : decode cX11_turn 84 = .ok (.iload 5, 2) := by decide +kernel
theorem dX11_turn_86 : decode cX11_turn 86 = .ok (.ireturn, 1) := by decide +kernel
theorem dX11_turn_87 : decode cX11_turn 87 = .ok (.iinc 5 1, 3) := by decide +kernel
theorem dX11_turn_90 : decode cX11_turn 90 = .ok (.goto (-51), 3) := by decide +kernel
theorem dX11_turn_93 : decode cX11_turn 93 = .ok (.iinc 4 1, 3) := by decide +kernel
theorem dX11_turn_96 : decode cX11_turn 96 = .ok (.goto (-72), 3) := by decide +kernel
theorem dX11_turn_99 : decode cX11_turn 99 = .ok (.bipush (-2), 2) := by decide +kernel
theorem dX11_turn_101 : decode cX11_turn 101 = .ok (.ireturn, 1) := by decide +kernel
theorem dX11_boots_0 : decode cX11_boots 0 = .ok (.aload_n 0, 1) := by decide +kernel
theorem dX11_boots_1 : decode cX11_boots 1 = .ok (.iload_n 1, 1) := by decide +kernel
theorem dX11_boots_2 : decode cX11_boots 2 = .ok (.iload_n 2, 1) := by decide +kernel
theorem dX11_boots_3 : decode cX11_boots 3 = .ok (.invokevirtual 246, 3) := by decide +kernel
theorem dX11_boots_6 : decode cX11_boots 6 = .ok (.ifCond .eq 12, 3) := by decide +kernel
theorem dX11_boots_9 : decode cX11_boots 9 = .ok (.iload_n 3, 1) := by decide +kernel
theorem dX11_boots_10 : decode cX11_boots 10 = .ok (.ifCond .lt 8, 3) := by decide +kernel
theorem dX11_boots_13 : decode cX11_boots 13 = .ok (.iload_n 3, 1) := by decide +kernel
theorem dX11_boots_14 : decode cX11_boots 14 = .ok (.iconst 1, 1) := by decide +kernel
theorem dX11_boots_15 : decode cX11_boots 15 = .ok (.if_icmp .le 6, 3) := by decide +kernel
theorem dX11_boots_18 : decode cX11_boots 18 = .ok (.ldc 145, 2) := by decide +kernel
theorem dX11_boots_20 : decode cX11_boots 20 = .ok (.ireturn, 1) := by decide +kernel
theorem dX11_boots_21 : decode cX11_boots 21 = .ok (.bipush (-2), 2) := by decide +kernel
theorem dX11_boots_23 : decode cX11_boots 23 = .ok (.istore 4, 2) := by decide +kernel
theorem dX11_boots_25 : decode cX11_boots 25 = .ok (.iconst (-1), 1) := by decide +kernel
theorem dX11_boots_26 : decode cX11_boots 26 = .ok (.istore 5, 2) := by decide +kernel
theorem dX11_boots_28 : decode cX11_boots 28 = .ok (.iconst (-1), 1) := by decide +kernel
theorem dX11_boots_29 : decode cX11_boots 29 = .ok (.istore 6, 2) := by decide +kernel
theorem dX11_boots_31 : decode cX11_boots 31 = .ok (.iload 6, 2) := by decide +kernel
theorem dX11_boots_33 : decode cX11_boots 33 = .ok (.aload_n 0, 1) := by decide +kernel
theorem dX11_boots_34 : decode cX11_boots 34 = .ok (.getfield 10, 3) := by decide +kernel
theorem dX11_boots_37 : decode cX11_boots 37 = .ok (.getfield 121, 3) := by decide +kernel
theorem dX11_boots_40 : decode cX11_boots 40 = .ok (.if_icmp .ge 53, 3) := by decide +kernel
theorem dX11_boots_43 : decode cX11_boots 43 = .ok (.aload_n 0, 1) := by decide +kernel
theorem dX11_boots_44 : decode cX11_boots 44 = .ok (.getfield 35, 3) := by decide +kernel
theorem dX11_boots_47 : decode cX11_boots 47 = .ok (.iconst 0, 1) := by decide +kernel
theorem dX11_boots_48 : decode cX11_boots 48 = .ok (.iload 6, 2) := by decide +kernel
theorem dX11_boots_50 : decode cX11_boots 50 = .ok (.iconst 0, 1) := by decide +kernel
theorem dX11_boots_51 : decode cX11_boots 51 = .ok (.invokevirtual 205, 3) := by decide +kernel
theorem dX11_boots_54 : decode cX11_boots 54 = .ok (.aload_n 0, 1) := by decide +kernel
theorem dX11_boots_55 : decode cX11_boots 55 = .ok (.iload_n 1, 1) := by decide +kernel
theorem dX11_boots_56 : decode cX11_boots 56 = .ok (.iload_n 2, 1) := by decide +kernel
theorem dX11_boots_57 : decode cX11_boots 57 = .ok (.invokevirtual 253, 3) := by decide +kernel
theorem dX11_boots_60 : decode cX11_boots 60 = .ok (.istore 7, 2) := by decide +kernel
theorem dX11_boots_62 : decode cX11_boots 62 = .ok (.iload 7, 2) := by decide +kernel
theorem dX11_boots_64 : decode cX11_boots 64 = .ok (.ifCond .lt 23, 3) := by decide +kernel
theorem dX11_boots_67 : decode cX11_boots 67 = .ok (.iload 4, 2) := by decide +kernel
theorem dX11_boots_69 : decode cX11_boots 69 = .ok (.ifCond .lt 10, 3) := by decide +kernel
theorem dX11_boots_72 : decode cX11_boots 72 = .ok (.iload 7, 2) := by decide +kernel
theorem dX11_boots_74 : decode cX11_boots 74 = .ok (.iload 4, 2) := by decide +kernel
theorem dX11_boots_76 : decode cX11_boots 76 = .ok (.if_icmp .ge 11, 3) := by decide +kernel
theorem dX11_boots_79 : decode cX11_boots 79 = .ok (.iload 7, 2) := by decide +kernel
theorem dX11_boots_81 : decode cX11_boots 81 = .ok (.istore 4, 2) := by decide +kernel
theorem dX11_boots_83 : decode cX11_boots 83 = .ok (.iload 6, 2) := by decide +kernel
theorem dX11_boots_85 : decode cX11_boots 85 = .ok (.istore 5, 2) := by decide +kernel
theorem dX11_boots_87 : decode cX11_boots 87 = .ok (.iinc 6 1, 3) := by decide +kernel
theorem dX11_boots_90 : decode cX11_boots 90 = .ok (.goto (-59), 3) := by decide +kernel
theorem dX11_boots_93 : decode cX11_boots 93 = .ok (.iload 4, 2) := by decide +kernel
theorem dX11_boots_95 : decode cX11_boots 95 = .ok (.ifCond .ge 6, 3) := by decide +kernel
theorem dX11_boots_98 : decode cX11_boots 98 = .ok (.bipush (-2), 2) := by decide +kernel
theorem dX11_boots_100 : decode cX11_boots 100 = .ok (.ireturn, 1) := by decide +kernel
theorem dX11_boots_101 : decode cX11_boots 101 = .ok (.iload_n 3, 1) := by decide +kernel
theorem dX11_boots_102 : decode cX11_boots 102 = .ok (.ifCond .ne 8, 3) := by decide +kernel
theorem dX11_boots_105 : decode cX11_boots 105 = .ok (.iload 5, 2) := by decide +kernel
theorem dX11_boots_107 : decode cX11_boots 107 = .ok (.goto 5, 3) := by decide +kernel
theorem dX11_boots_110 : decode cX11_boots 110 = .ok (.iload 4, 2) := by decide +kernel
theorem dX11_boots_112 : decode cX11_boots 112 = .ok (.ireturn, 1) := by decide +kernel
theorem dX11_month_0 : decode cX11_month 0 = .ok (.aload_n 0, 1) := by decide +kernel
theorem dX11_month_1 : decode cX11_month 1 = .ok (.iload_n 1, 1) := by decide +kernel
theorem dX11_month_2 : decode cX11_month 2 = .ok (.iload_n 2, 1) := by decide +kernel
theorem dX11_month_3 : decode cX11_month 3 = .ok (.invokevirtual 246, 3) := by decide +kernel
theorem dX11_month_6 : decode cX11_month 6 = .ok (.ifCond .ne 5, 3) := by decide +kernel
theorem dX11_month_9 : decode cX11_month 9 = .ok (.iconst (-1), 1) := by decide +kernel
theorem dX11_month_10 : decode cX11_month 10 = .ok (.ireturn, 1) := by decide +kernel
theorem dX11_month_11 : decode cX11_month 11 = .ok (.iconst 0, 1) := by decide +kernel
theorem dX11_month_12 : decode cX11_month 12 = .ok (.istore_n 3, 1) := by decide +kernel
theorem dX11_month_13 : decode cX11_month 13 = .ok (.iload_n 3, 1) := by decide +kernel
theorem dX11_month_14 : decode cX11_month 14 = .ok (.bipush 24, 2) := by decide +kernel
theorem dX11_month_16 : decode cX11_month 16 = .ok (.if_icmp .gt 36, 3) := by decide +kernel
theorem dX11_month_19 : decode cX11_month 19 = .ok (.aload_n 0, 1) := by decide +kernel
theorem dX11_month_20 : decode cX11_month 20 = .ok (.getfield 35, 3) := by decide +kernel
theorem dX11_month_23 : decode cX11_month 23 = .ok (.iload_n 3, 1) := by decide +kernel
theorem dX11_month_24 : decode cX11_month 24 = .ok (.aload_n 0, 1) := by decide +kernel
theorem dX11_month_25 : decode cX11_month 25 = .ok (.getfield 10, 3) := by decide +kernel
theorem dX11_month_28 : decode cX11_month 28 = .ok (.getfield 146, 3) := by decide +kernel
theorem dX11_month_31 : decode cX11_month 31 = .ok (.iconst 0, 1) := by decide +kernel
theorem dX11_month_32 : decode cX11_month 32 = .ok (.invokevirtual 205, 3) := by decide +kernel
