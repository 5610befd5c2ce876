/-! what each instruction is (rows that TURN printed) -/
theorem dX11_month_35 : decode cX11_month 35 = .ok (.aload_n 0, 1) := by decide +kernel
theorem dX11_month_36 : decode cX11_month 36 = .ok (.iload_n 1, 1) := by decide +kernel
theorem dX11_month_37 : decode cX11_month 37 = .ok (.iload_n 2, 1) := by decide +kernel
theorem dX11_month_38 : decode cX11_month 38 = .ok (.invokevirtual 253, 3) := by decide +kernel
theorem dX11_month_41 : decode cX11_month 41 = .ok (.ifCond .lt 5, 3) := by decide +kernel
theorem dX11_month_44 : decode cX11_month 44 = .ok (.iload_n 3, 1) := by decide +kernel
theorem dX11_month_45 : decode cX11_month 45 = .ok (.ireturn, 1) := by decide +kernel
theorem dX11_month_46 : decode cX11_month 46 = .ok (.iinc 3 1, 3) := by decide +kernel
theorem dX11_month_49 : decode cX11_month 49 = .ok (.goto (-36), 3) := by decide +kernel
theorem dX11_month_52 : decode cX11_month 52 = .ok (.bipush (-2), 2) := by decide +kernel
theorem dX11_month_54 : decode cX11_month 54 = .ok (.ireturn, 1) := by decide +kernel
theorem dX11_isGoal_0 : decode cX11_isGoal 0 = .ok (.iload_n 1, 1) := by decide +kernel
theorem dX11_isGoal_1 : decode cX11_isGoal 1 = .ok (.ifCond .le 31, 3) := by decide +kernel
theorem dX11_isGoal_4 : decode cX11_isGoal 4 = .ok (.iload_n 1, 1) := by decide +kernel
theorem dX11_isGoal_5 : decode cX11_isGoal 5 = .ok (.iconst 1, 1) := by decide +kernel
theorem dX11_isGoal_6 : decode cX11_isGoal 6 = .ok (.aload_n 0, 1) := by decide +kernel
theorem dX11_isGoal_7 : decode cX11_isGoal 7 = .ok (.getfield 10, 3) := by decide +kernel
theorem dX11_isGoal_10 : decode cX11_isGoal 10 = .ok (.getfield 121, 3) := by decide +kernel
theorem dX11_isGoal_13 : decode cX11_isGoal 13 = .ok (.ishl, 1) := by decide +kernel
theorem dX11_isGoal_14 : decode cX11_isGoal 14 = .ok (.if_icmp .ge 18, 3) := by decide +kernel
theorem dX11_isGoal_17 : decode cX11_isGoal 17 = .ok (.aload_n 0, 1) := by decide +kernel
theorem dX11_isGoal_18 : decode cX11_isGoal 18 = .ok (.getfield 10, 3) := by decide +kernel
theorem dX11_isGoal_21 : decode cX11_isGoal 21 = .ok (.iload_n 2, 1) := by decide +kernel
theorem dX11_isGoal_22 : decode cX11_isGoal 22 = .ok (.invokevirtual 91, 3) := by decide +kernel
theorem dX11_isGoal_25 : decode cX11_isGoal 25 = .ok (.ifCond .eq 7, 3) := by decide +kernel
theorem dX11_isGoal_28 : decode cX11_isGoal 28 = .ok (.iconst 1, 1) := by decide +kernel
theorem dX11_isGoal_29 : decode cX11_isGoal 29 = .ok (.goto 4, 3) := by decide +kernel
theorem dX11_isGoal_32 : decode cX11_isGoal 32 = .ok (.iconst 0, 1) := by decide +kernel
theorem dX11_isGoal_33 : decode cX11_isGoal 33 = .ok (.ireturn, 1) := by decide +kernel
theorem dX11_fewestTo_0 : decode cX11_fewestTo 0 = .ok (.aload_n 0, 1) := by decide +kernel
theorem dX11_fewestTo_1 : decode cX11_fewestTo 1 = .ok (.getfield 42, 3) := by decide +kernel
theorem dX11_fewestTo_4 : decode cX11_fewestTo 4 = .ok (.aload_n 0, 1) := by decide +kernel
theorem dX11_fewestTo_5 : decode cX11_fewestTo 5 = .ok (.getfield 35, 3) := by decide +kernel
theorem dX11_fewestTo_8 : decode cX11_fewestTo 8 = .ok (.aload_n 0, 1) := by decide +kernel
theorem dX11_fewestTo_9 : decode cX11_fewestTo 9 = .ok (.getfield 10, 3) := by decide +kernel
theorem dX11_fewestTo_12 : decode cX11_fewestTo 12 = .ok (.invokevirtual 198, 3) := by decide +kernel
theorem dX11_fewestTo_15 : decode cX11_fewestTo 15 = .ok (.iconst 3, 1) := by decide +kernel
theorem dX11_fewestTo_16 : decode cX11_fewestTo 16 = .ok (.iload_n 1, 1) := by decide +kernel
theorem dX11_fewestTo_17 : decode cX11_fewestTo 17 = .ok (.invokestatic 256, 3) := by decide +kernel
theorem dX11_fewestTo_20 : decode cX11_fewestTo 20 = .ok (.imul, 1) := by decide +kernel
theorem dX11_fewestTo_21 : decode cX11_fewestTo 21 = .ok (.iload_n 2, 1) := by decide +kernel
theorem dX11_fewestTo_22 : decode cX11_fewestTo 22 = .ok (.iload_n 1, 1) := by decide +kernel
theorem dX11_fewestTo_23 : decode cX11_fewestTo 23 = .ok (.invokestatic 256, 3) := by decide +kernel
theorem dX11_fewestTo_26 : decode cX11_fewestTo 26 = .ok (.imul, 1) := by decide +kernel
theorem dX11_fewestTo_27 : decode cX11_fewestTo 27 = .ok (.invokevirtual 274, 3) := by decide +kernel
theorem dX11_fewestTo_30 : decode cX11_fewestTo 30 = .ok (.ireturn, 1) := by decide +kernel
theorem dX11_tries_0 : decode cX11_tries 0 = .ok (.aload_n 0, 1) := by decide +kernel
theorem dX11_tries_1 : decode cX11_tries 1 = .ok (.getfield 10, 3) := by decide +kernel
theorem dX11_tries_4 : decode cX11_tries 4 = .ok (.iload_n 3, 1) := by decide +kernel
theorem dX11_tries_5 : decode cX11_tries 5 = .ok (.invokevirtual 142, 3) := by decide +kernel
theorem dX11_tries_8 : decode cX11_tries 8 = .ok (.ifCond .eq 12, 3) := by decide +kernel
theorem dX11_tries_11 : decode cX11_tries 11 = .ok (.iload 4, 2) := by decide +kernel
theorem dX11_tries_13 : decode cX11_tries 13 = .ok (.ifCond .ne 7, 3) := by decide +kernel
theorem dX11_tries_16 : decode cX11_tries 16 = .ok (.iconst 1, 1) := by decide +kernel
theorem dX11_tries_17 : decode cX11_tries 17 = .ok (.goto 4, 3) := by decide +kernel
theorem dX11_tries_20 : decode cX11_tries 20 = .ok (.iconst 0, 1) := by decide +kernel
theorem dX11_tries_21 : decode cX11_tries 21 = .ok (.istore 5, 2) := by decide +kernel
theorem dX11_tries_23 : decode cX11_tries 23 = .ok (.iload_n 3, 1) := by decide +kernel
theorem dX11_tries_24 : decode cX11_tries 24 = .ok (.iconst (-1), 1) := by decide +kernel
theorem dX11_tries_25 : decode cX11_tries 25 = .ok (.if_icmp .ne 18, 3) := by decide +kernel
theorem dX11_tries_28 : decode cX11_tries 28 = .ok (.iload 4, 2) := by decide +kernel
theorem dX11_tries_30 : decode cX11_tries 30 = .ok (.ifCond .eq 9, 3) := by decide +kernel
theorem dX11_tries_33 : decode cX11_tries 33 = .ok (.iload 4, 2) := by decide +kernel
theorem dX11_tries_35 : decode cX11_tries 35 = .ok (.iconst 1, 1) := by decide +kernel
theorem dX11_tries_36 : decode cX11_tries 36 = .ok (.if_icmp .ne 7, 3) := by decide +kernel
theorem dX11_tries_39 : decode cX11_tries 39 = .ok (.iconst 1, 1) := by decide +kernel
theorem dX11_tries_40 : decode cX11_tries 40 = .ok (.goto 4, 3) := by decide +kernel
theorem dX11_tries_43 : decode cX11_tries 43 = .ok (.iconst 0, 1) := by decide +kernel
theorem dX11_tries_44 : decode cX11_tries 44 = .ok (.istore 6, 2) := by decide +kernel
theorem dX11_tries_46 : decode cX11_tries 46 = .ok (.iload_n 2, 1) := by decide +kernel
theorem dX11_tries_47 : decode cX11_tries 47 = .ok (.iconst 1, 1) := by decide +kernel
theorem dX11_tries_48 : decode cX11_tries 48 = .ok (.if_icmp .lt 19, 3) := by decide +kernel
theorem dX11_tries_51 : decode cX11_tries 51 = .ok (.iload_n 2, 1) := by decide +kernel
theorem dX11_tries_52 : decode cX11_tries 52 = .ok (.bipush 99, 2) := by decide +kernel
theorem dX11_tries_54 : decode cX11_tries 54 = .ok (.if_icmp .gt 13, 3) := by decide +kernel
theorem dX11_tries_57 : decode cX11_tries 57 = .ok (.iload 5, 2) := by decide +kernel
theorem dX11_tries_59 : decode cX11_tries 59 = .ok (.ifCond .ne 10, 3) := by decide +kernel
theorem dX11_tries_62 : decode cX11_tries 62 = .ok (.iload 6, 2) := by decide +kernel
theorem dX11_tries_64 : decode cX11_tries 64 = .ok (.ifCond .ne 5, 3) := by decide +kernel
theorem dX11_tries_67 : decode cX11_tries 67 = .ok (.iconst (-1), 1) := by decide +kernel
theorem dX11_tries_68 : decode cX11_tries 68 = .ok (.ireturn, 1) := by decide +kernel
theorem dX11_tries_69 : decode cX11_tries 69 = .ok (.aload_n 0, 1) := by decide +kernel
theorem dX11_tries_70 : decode cX11_tries 70 = .ok (.getfield 10, 3) := by decide +kernel
theorem dX11_tries_73 : decode cX11_tries 73 = .ok (.getfield 266, 3) := by decide +kernel
theorem dX11_tries_76 : decode cX11_tries 76 = .ok (.ifCond .ne 6, 3) := by decide +kernel
theorem dX11_tries_79 : decode cX11_tries 79 = .ok (.bipush (-5), 2) := by decide +kernel
theorem dX11_tries_81 : decode cX11_tries 81 = .ok (.ireturn, 1) := by decide +kernel
theorem dX11_tries_82 : decode cX11_tries 82 = .ok (.aload_n 0, 1) := by decide +kernel
theorem dX11_tries_83 : decode cX11_tries 83 = .ok (.getfield 35, 3) := by decide +kernel
theorem dX11_tries_86 : decode cX11_tries 86 = .ok (.iconst 0, 1) := by decide +kernel
theorem dX11_tries_87 : decode cX11_tries 87 = .ok (.aload_n 0, 1) := by decide +kernel
theorem dX11_tries_88 : decode cX11_tries 88 = .ok (.getfield 10, 3) := by decide +kernel
theorem dX11_tries_91 : decode cX11_tries 91 = .ok (.getfield 146, 3) := by decide +kernel
theorem dX11_tries_94 : decode cX11_tries 94 = .ok (.iconst 0, 1) := by decide +kernel
theorem dX11_tries_95 : decode cX11_tries 95 = .ok (.invokevirtual 205, 3) := by decide +kernel
theorem dX11_tries_98 : decode cX11_tries 98 = .ok (.aload_n 0, 1) := by decide +kernel
theorem dX11_tries_99 : decode cX11_tries 99 = .ok (.getfield 49, 3) := by decide +kernel
theorem dX11_tries_102 : decode cX11_tries 102 = .ok (.aload_n 0, 1) := by decide +kernel
theorem dX11_tries_103 : decode cX11_tries 103 = .ok (.getfield 35, 3) := by decide +kernel
theorem dX11_tries_106 : decode cX11_tries 106 = .ok (.aload_n 0, 1) := by decide +kernel
theorem dX11_tries_107 : decode cX11_tries 107 = .ok (.getfield 42, 3) := by decide +kernel
theorem dX11_tries_110 : decode cX11_tries 110 = .ok (.getfield 208, 3) := by decide +kernel
theorem dX11_tries_113 : decode cX11_tries 113 = .ok (.iload_n 1, 1) := by decide +kernel
theorem dX11_tries_114 : decode cX11_tries 114 = .ok (.iload_n 2, 1) := by decide +kernel
theorem dX11_tries_115 : decode cX11_tries 115 = .ok (.aload_n 0, 1) := by decide +kernel
theorem dX11_tries_116 : decode cX11_tries 116 = .ok (.getfield 10, 3) := by decide +kernel
theorem dX11_tries_119 : decode cX11_tries 119 = .ok (.invokevirtual 198, 3) := by decide +kernel
theorem dX11_tries_122 : decode cX11_tries 122 = .ok (.invokevirtual 277, 3) := by decide +kernel
theorem dX11_tries_125 : decode cX11_tries 125 = .ok (.iload 5, 2) := by decide +kernel
theorem dX11_tries_127 : decode cX11_tries 127 = .ok (.ifCond .eq 15, 3) := by decide +kernel
theorem dX11_tries_130 : decode cX11_tries 130 = .ok (.aload_n 0, 1) := by decide +kernel
theorem dX11_tries_131 : decode cX11_tries 131 = .ok (.getfield 49, 3) := by decide +kernel
theorem dX11_tries_134 : decode cX11_tries 134 = .ok (.getfield 281, 3) := by decide +kernel
theorem dX11_tries_137 : decode cX11_tries 137 = .ok (.iload_n 3, 1) := by decide +kernel
theorem dX11_tries_138 : decode cX11_tries 138 = .ok (.invokestatic 243, 3) := by decide +kernel
theorem dX11_tries_141 : decode cX11_tries 141 = .ok (.ireturn, 1) := by decide +kernel
theorem dX11_tries_142 : decode cX11_tries 142 = .ok (.iload 4, 2) := by decide +kernel
theorem dX11_tries_144 : decode cX11_tries 144 = .ok (.ifCond .ne 13, 3) := by decide +kernel
theorem dX11_tries_147 : decode cX11_tries 147 = .ok (.aload_n 0, 1) := by decide +kernel
theorem dX11_tries_148 : decode cX11_tries 148 = .ok (.getfield 49, 3) := by decide +kernel
theorem dX11_tries_151 : decode cX11_tries 151 = .ok (.getfield 284, 3) := by decide +kernel
theorem dX11_tries_154 : decode cX11_tries 154 = .ok (.goto 10, 3) := by decide +kernel
theorem dX11_tries_157 : decode cX11_tries 157 = .ok (.aload_n 0, 1) := by decide +kernel
theorem dX11_tries_158 : decode cX11_tries 158 = .ok (.getfield 49, 3) := by decide +kernel
theorem dX11_tries_161 : decode cX11_tries 161 = .ok (.getfield 287, 3) := by decide +kernel
theorem dX11_tries_164 : decode cX11_tries 164 = .ok (.ireturn, 1) := by decide +kernel
theorem dX11_judge_0 : decode cX11_judge 0 = .ok (.iload_n 1, 1) := by decide +kernel
theorem dX11_judge_1 : decode cX11_judge 1 = .ok (.invokestatic 107, 3) := by decide +kernel
theorem dX11_judge_4 : decode cX11_judge 4 = .ok (.ifCond .ne 5, 3) := by decide +kernel
theorem dX11_judge_7 : decode cX11_judge 7 = .ok (.iconst (-1), 1) := by decide +kernel
theorem dX11_judge_8 : decode cX11_judge 8 = .ok (.ireturn, 1) := by decide +kernel
theorem dX11_judge_9 : decode cX11_judge 9 = .ok (.aload_n 0, 1) := by decide +kernel
theorem dX11_judge_10 : decode cX11_judge 10 = .ok (.getfield 76, 3) := by decide +kernel
theorem dX11_judge_13 : decode cX11_judge 13 = .ok (.iload_n 1, 1) := by decide +kernel
theorem dX11_judge_14 : decode cX11_judge 14 = .ok (.aaload, 1) := by decide +kernel
theorem dX11_judge_15 : decode cX11_judge 15 = .ok (.astore_n 2, 1) := by decide +kernel
theorem dX11_judge_16 : decode cX11_judge 16 = .ok (.aload_n 2, 1) := by decide +kernel
theorem dX11_judge_17 : decode cX11_judge 17 = .ok (.invokevirtual 114, 3) := by decide +kernel
theorem dX11_judge_20 : decode cX11_judge 20 = .ok (.istore_n 3, 1) := by decide +kernel
theorem dX11_judge_21 : decode cX11_judge 21 = .ok (.iload_n 3, 1) := by decide +kernel
theorem dX11_judge_22 : decode cX11_judge 22 = .ok (.ifCond .eq 5, 3) := by decide +kernel
theorem dX11_judge_25 : decode cX11_judge 25 = .ok (.iload_n 3, 1) := by decide +kernel
theorem dX11_judge_26 : decode cX11_judge 26 = .ok (.ireturn, 1) := by decide +kernel
theorem dX11_judge_27 : decode cX11_judge 27 = .ok (.aload_n 0, 1) := by decide +kernel
theorem dX11_judge_28 : decode cX11_judge 28 = .ok (.getfield 35, 3) := by decide +kernel
theorem dX11_judge_31 : decode cX11_judge 31 = .ok (.iconst 0, 1) := by decide +kernel
theorem dX11_judge_32 : decode cX11_judge 32 = .ok (.aload_n 0, 1) := by decide +kernel
theorem dX11_judge_33 : decode cX11_judge 33 = .ok (.getfield 10, 3) := by decide +kernel
theorem dX11_judge_36 : decode cX11_judge 36 = .ok (.getfield 146, 3) := by decide +kernel
theorem dX11_judge_39 : decode cX11_judge 39 = .ok (.iconst 0, 1) := by decide +kernel
theorem dX11_judge_40 : decode cX11_judge 40 = .ok (.invokevirtual 195, 3) := by decide +kernel
theorem dX11_judge_43 : decode cX11_judge 43 = .ok (.aload_n 0, 1) := by decide +kernel
theorem dX11_judge_44 : decode cX11_judge 44 = .ok (.getfield 10, 3) := by decide +kernel
theorem dX11_judge_47 : decode cX11_judge 47 = .ok (.invokevirtual 198, 3) := by decide +kernel
theorem dX11_judge_50 : decode cX11_judge 50 = .ok (.istore 4, 2) := by decide +kernel
theorem dX11_judge_52 : decode cX11_judge 52 = .ok (.iconst 0, 1) := by decide +kernel
theorem dX11_judge_53 : decode cX11_judge 53 = .ok (.istore 5, 2) := by decide +kernel
theorem dX11_judge_55 : decode cX11_judge 55 = .ok (.iload 5, 2) := by decide +kernel
theorem dX11_judge_57 : decode cX11_judge 57 = .ok (.aload_n 2, 1) := by decide +kernel
theorem dX11_judge_58 : decode cX11_judge 58 = .ok (.getfield 118, 3) := by decide +kernel
theorem dX11_judge_61 : decode cX11_judge 61 = .ok (.if_icmp .ge 91, 3) := by decide +kernel
theorem dX11_judge_64 : decode cX11_judge 64 = .ok (.aload_n 2, 1) := by decide +kernel
theorem dX11_judge_65 : decode cX11_judge 65 = .ok (.iload 5, 2) := by decide +kernel
theorem dX11_judge_67 : decode cX11_judge 67 = .ok (.invokevirtual 124, 3) := by decide +kernel
theorem dX11_judge_70 : decode cX11_judge 70 = .ok (.l2i, 1) := by decide +kernel
theorem dX11_judge_71 : decode cX11_judge 71 = .ok (.istore 6, 2) := by decide +kernel
theorem dX11_judge_73 : decode cX11_judge 73 = .ok (.aload_n 2, 1) := by decide +kernel
theorem dX11_judge_74 : decode cX11_judge 74 = .ok (.iload 5, 2) := by decide +kernel
theorem dX11_judge_76 : decode cX11_judge 76 = .ok (.iconst 1, 1) := by decide +kernel
theorem dX11_judge_77 : decode cX11_judge 77 = .ok (.iadd, 1) := by decide +kernel
theorem dX11_judge_78 : decode cX11_judge 78 = .ok (.invokevirtual 124, 3) := by decide +kernel
theorem dX11_judge_81 : decode cX11_judge 81 = .ok (.l2i, 1) := by decide +kernel
theorem dX11_judge_82 : decode cX11_judge 82 = .ok (.istore 7, 2) := by decide +kernel
theorem dX11_judge_84 : decode cX11_judge 84 = .ok (.aload_n 2, 1) := by decide +kernel
theorem dX11_judge_85 : decode cX11_judge 85 = .ok (.iload 5, 2) := by decide +kernel
theorem dX11_judge_87 : decode cX11_judge 87 = .ok (.iconst 2, 1) := by decide +kernel
theorem dX11_judge_88 : decode cX11_judge 88 = .ok (.iadd, 1) := by decide +kernel
theorem dX11_judge_89 : decode cX11_judge 89 = .ok (.invokevirtual 124, 3) := by decide +kernel
theorem dX11_judge_92 : decode cX11_judge 92 = .ok (.l2i, 1) := by decide +kernel
theorem dX11_judge_93 : decode cX11_judge 93 = .ok (.istore 8, 2) := by decide +kernel
theorem dX11_judge_95 : decode cX11_judge 95 = .ok (.iload 5, 2) := by decide +kernel
theorem dX11_judge_97 : decode cX11_judge 97 = .ok (.iconst 3, 1) := by decide +kernel
theorem dX11_judge_98 : decode cX11_judge 98 = .ok (.iadd, 1) := by decide +kernel
theorem dX11_judge_99 : decode cX11_judge 99 = .ok (.aload_n 2, 1) := by decide +kernel
theorem dX11_judge_100 : decode cX11_judge 100 = .ok (.getfield 118, 3) := by decide +kernel
theorem dX11_judge_103 : decode cX11_judge 103 = .ok (.if_icmp .gt 21, 3) := by decide +kernel
theorem dX11_judge_106 : decode cX11_judge 106 = .ok (.aload_n 0, 1) := by decide +kernel
theorem dX11_judge_107 : decode cX11_judge 107 = .ok (.getfield 35, 3) := by decide +kernel
theorem dX11_judge_110 : decode cX11_judge 110 = .ok (.iload 4, 2) := by decide +kernel
theorem dX11_judge_112 : decode cX11_judge 112 = .ok (.iload 6, 2) := by decide +kernel
theorem dX11_judge_114 : decode cX11_judge 114 = .ok (.iload 7, 2) := by decide +kernel
theorem dX11_judge_116 : decode cX11_judge 116 = .ok (.iload 8, 2) := by decide +kernel
theorem dX11_judge_118 : decode cX11_judge 118 = .ok (.invokevirtual 201, 3) := by decide +kernel
theorem dX11_judge_121 : decode cX11_judge 121 = .ok (.ifCond .ne 8, 3) := by decide +kernel
theorem dX11_judge_124 : decode cX11_judge 124 = .ok (.iload 5, 2) := by decide +kernel
theorem dX11_judge_126 : decode cX11_judge 126 = .ok (.iconst 3, 1) := by decide +kernel
theorem dX11_judge_127 : decode cX11_judge 127 = .ok (.idiv, 1) := by decide +kernel
theorem dX11_judge_128 : decode cX11_judge 128 = .ok (.ireturn, 1) := by decide +kernel
theorem dX11_judge_129 : decode cX11_judge 129 = .ok (.aload_n 0, 1) := by decide +kernel
theorem dX11_judge_130 : decode cX11_judge 130 = .ok (.getfield 35, 3) := by decide +kernel
theorem dX11_judge_133 : decode cX11_judge 133 = .ok (.iload 4, 2) := by decide +kernel
theorem dX11_judge_135 : decode cX11_judge 135 = .ok (.iload 6, 2) := by decide +kernel
theorem dX11_judge_137 : decode cX11_judge 137 = .ok (.iload 7, 2) := by decide +kernel
theorem dX11_judge_139 : decode cX11_judge 139 = .ok (.iload 8, 2) := by decide +kernel
theorem dX11_judge_141 : decode cX11_judge 141 = .ok (.invokevirtual 290, 3) := by decide +kernel
theorem dX11_judge_144 : decode cX11_judge 144 = .ok (.istore 4, 2) := by decide +kernel
theorem dX11_judge_146 : decode cX11_judge 146 = .ok (.iinc 5 3, 3) := by decide +kernel
theorem dX11_judge_149 : decode cX11_judge 149 = .ok (.goto (-94), 3) := by decide +kernel
theorem dX11_judge_152 : decode cX11_judge 152 = .ok (.bipush (-2), 2) := by decide +kernel
theorem dX11_judge_154 : decode cX11_judge 154 = .ok (.ireturn, 1) := by decide +kernel
theorem dX11_seen_0 : decode cX11_seen 0 = .ok (.iload_n 1, 1) := by decide +kernel
theorem dX11_seen_1 : decode cX11_seen 1 = .ok (.invokestatic 107, 3) := by decide +kernel
theorem dX11_seen_4 : decode cX11_seen 4 = .ok (.ifCond .ne 5, 3) := by decide +kernel
theorem dX11_seen_7 : decode cX11_seen 7 = .ok (.iconst (-1), 1) := by decide +kernel
theorem dX11_seen_8 : decode cX11_seen 8 = .ok (.ireturn, 1) := by decide +kernel
theorem dX11_seen_9 : decode cX11_seen 9 = .ok (.aload_n 0, 1) := by decide +kernel
theorem dX11_seen_10 : decode cX11_seen 10 = .ok (.getfield 76, 3) := by decide +kernel
theorem dX11_seen_13 : decode cX11_seen 13 = .ok (.iload_n 1, 1) := by decide +kernel
theorem dX11_seen_14 : decode cX11_seen 14 = .ok (.aaload, 1) := by decide +kernel
theorem dX11_seen_15 : decode cX11_seen 15 = .ok (.astore_n 2, 1) := by decide +kernel
theorem dX11_seen_16 : decode cX11_seen 16 = .ok (.aload_n 2, 1) := by decide +kernel
theorem dX11_seen_17 : decode cX11_seen 17 = .ok (.invokevirtual 114, 3) := by decide +kernel
theorem dX11_seen_20 : decode cX11_seen 20 = .ok (.istore_n 3, 1) := by decide +kernel
theorem dX11_seen_21 : decode cX11_seen 21 = .ok (.iload_n 3, 1) := by decide +kernel
theorem dX11_seen_22 : decode cX11_seen 22 = .ok (.ifCond .eq 5, 3) := by decide +kernel
theorem dX11_seen_25 : decode cX11_seen 25 = .ok (.iload_n 3, 1) := by decide +kernel
theorem dX11_seen_26 : decode cX11_seen 26 = .ok (.ireturn, 1) := by decide +kernel
theorem dX11_seen_27 : decode cX11_seen 27 = .ok (.aload_n 2, 1) := by decide +kernel
theorem dX11_seen_28 : decode cX11_seen 28 = .ok (.getfield 118, 3) := by decide +kernel
theorem dX11_seen_31 : decode cX11_seen 31 = .ok (.aload_n 0, 1) := by decide +kernel
theorem dX11_seen_32 : decode cX11_seen 32 = .ok (.getfield 10, 3) := by decide +kernel
theorem dX11_seen_35 : decode cX11_seen 35 = .ok (.getfield 121, 3) := by decide +kernel
theorem dX11_seen_38 : decode cX11_seen 38 = .ok (.if_icmp .ge 6, 3) := by decide +kernel
theorem dX11_seen_41 : decode cX11_seen 41 = .ok (.bipush (-2), 2) := by decide +kernel
theorem dX11_seen_43 : decode cX11_seen 43 = .ok (.ireturn, 1) := by decide +kernel
theorem dX11_seen_44 : decode cX11_seen 44 = .ok (.iconst 0, 1) := by decide +kernel
theorem dX11_seen_45 : decode cX11_seen 45 = .ok (.istore 4, 2) := by decide +kernel
theorem dX11_seen_47 : decode cX11_seen 47 = .ok (.iconst 0, 1) := by decide +kernel
theorem dX11_seen_48 : decode cX11_seen 48 = .ok (.istore 5, 2) := by decide +kernel
theorem dX11_seen_50 : decode cX11_seen 50 = .ok (.iload 5, 2) := by decide +kernel
theorem dX11_seen_52 : decode cX11_seen 52 = .ok (.aload_n 0, 1) := by decide +kernel
theorem dX11_seen_53 : decode cX11_seen 53 = .ok (.getfield 10, 3) := by decide +kernel
theorem dX11_seen_56 : decode cX11_seen 56 = .ok (.getfield 121, 3) := by decide +kernel
theorem dX11_seen_59 : decode cX11_seen 59 = .ok (.if_icmp .ge 45, 3) := by decide +kernel
theorem dX11_seen_62 : decode cX11_seen 62 = .ok (.aload_n 2, 1) := by decide +kernel
theorem dX11_seen_63 : decode cX11_seen 63 = .ok (.iload 5, 2) := by decide +kernel
theorem dX11_seen_65 : decode cX11_seen 65 = .ok (.invokevirtual 124, 3) := by decide +kernel
theorem dX11_seen_68 : decode cX11_seen 68 = .ok (.l2i, 1) := by decide +kernel
theorem dX11_seen_69 : decode cX11_seen 69 = .ok (.istore 6, 2) := by decide +kernel
theorem dX11_seen_71 : decode cX11_seen 71 = .ok (.aload_n 0, 1) := by decide +kernel
theorem dX11_seen_72 : decode cX11_seen 72 = .ok (.getfield 10, 3) := by decide +kernel
theorem dX11_seen_75 : decode cX11_seen 75 = .ok (.iload 6, 2) := by decide +kernel
theorem dX11_seen_77 : decode cX11_seen 77 = .ok (.invokevirtual 91, 3) := by decide +kernel
theorem dX11_seen_80 : decode cX11_seen 80 = .ok (.ifCond .ne 6, 3) := by decide +kernel
theorem dX11_seen_83 : decode cX11_seen 83 = .ok (.bipush (-2), 2) := by decide +kernel
theorem dX11_seen_85 : decode cX11_seen 85 = .ok (.ireturn, 1) := by decide +kernel
theorem dX11_seen_86 : decode cX11_seen 86 = .ok (.iload 4, 2) := by decide +kernel
theorem dX11_seen_88 : decode cX11_seen 88 = .ok (.iload 6, 2) := by decide +kernel
theorem dX11_seen_90 : decode cX11_seen 90 = .ok (.iconst 2, 1) := by decide +kernel
theorem dX11_seen_91 : decode cX11_seen 91 = .ok (.iload 5, 2) := by decide +kernel
theorem dX11_seen_93 : decode cX11_seen 93 = .ok (.imul, 1) := by decide +kernel
theorem dX11_seen_94 : decode cX11_seen 94 = .ok (.ishl, 1) := by decide +kernel
theorem dX11_seen_95 : decode cX11_seen 95 = .ok (.ior, 1) := by decide +kernel
theorem dX11_seen_96 : decode cX11_seen 96 = .ok (.istore 4, 2) := by decide +kernel
theorem dX11_seen_98 : decode cX11_seen 98 = .ok (.iinc 5 1, 3) := by decide +kernel
theorem dX11_seen_101 : decode cX11_seen 101 = .ok (.goto (-51), 3) := by decide +kernel
theorem dX11_seen_104 : decode cX11_seen 104 = .ok (.aload_n 0, 1) := by decide +kernel
theorem dX11_seen_105 : decode cX11_seen 105 = .ok (.getfield 35, 3) := by decide +kernel
theorem dX11_seen_108 : decode cX11_seen 108 = .ok (.iconst 0, 1) := by decide +kernel
theorem dX11_seen_109 : decode cX11_seen 109 = .ok (.aload_n 0, 1) := by decide +kernel
theorem dX11_seen_110 : decode cX11_seen 110 = .ok (.getfield 10, 3) := by decide +kernel
theorem dX11_seen_113 : decode cX11_seen 113 = .ok (.getfield 146, 3) := by decide +kernel
theorem dX11_seen_116 : decode cX11_seen 116 = .ok (.iconst 0, 1) := by decide +kernel
theorem dX11_seen_117 : decode cX11_seen 117 = .ok (.invokevirtual 205, 3) := by decide +kernel
theorem dX11_seen_120 : decode cX11_seen 120 = .ok (.aload_n 0, 1) := by decide +kernel
theorem dX11_seen_121 : decode cX11_seen 121 = .ok (.getfield 42, 3) := by decide +kernel
theorem dX11_seen_124 : decode cX11_seen 124 = .ok (.aload_n 0, 1) := by decide +kernel
theorem dX11_seen_125 : decode cX11_seen 125 = .ok (.getfield 35, 3) := by decide +kernel
theorem dX11_seen_128 : decode cX11_seen 128 = .ok (.aload_n 0, 1) := by decide +kernel
theorem dX11_seen_129 : decode cX11_seen 129 = .ok (.getfield 10, 3) := by decide +kernel
theorem dX11_seen_132 : decode cX11_seen 132 = .ok (.invokevirtual 198, 3) := by decide +kernel
theorem dX11_seen_135 : decode cX11_seen 135 = .ok (.iconst (-1), 1) := by decide +kernel
theorem dX11_seen_136 : decode cX11_seen 136 = .ok (.iload 4, 2) := by decide +kernel
theorem dX11_seen_138 : decode cX11_seen 138 = .ok (.invokevirtual 274, 3) := by decide +kernel
theorem dX11_seen_141 : decode cX11_seen 141 = .ok (.ireturn, 1) := by decide +kernel
theorem dX11_image_0 : decode cX11_image 0 = .ok (.aload_n 0, 1) := by decide +kernel
theorem dX11_image_1 : decode cX11_image 1 = .ok (.getfield 56, 3) := by decide +kernel
theorem dX11_image_4 : decode cX11_image 4 = .ok (.aload_n 0, 1) := by decide +kernel
theorem dX11_image_5 : decode cX11_image 5 = .ok (.getfield 10, 3) := by decide +kernel
theorem dX11_image_8 : decode cX11_image 8 = .ok (.invokevirtual 293, 3) := by decide +kernel
theorem dX11_image_11 : decode cX11_image 11 = .ok (.ireturn, 1) := by decide +kernel
theorem dX11_back_0 : decode cX11_back 0 = .ok (.aload_n 0, 1) := by decide +kernel
theorem dX11_back_1 : decode cX11_back 1 = .ok (.getfield 56, 3) := by decide +kernel
theorem dX11_back_4 : decode cX11_back 4 = .ok (.aload_n 0, 1) := by decide +kernel
theorem dX11_back_5 : decode cX11_back 5 = .ok (.getfield 10, 3) := by decide +kernel
theorem dX11_back_8 : decode cX11_back 8 = .ok (.invokevirtual 296, 3) := by decide +kernel
theorem dX11_back_11 : decode cX11_back 11 = .ok (.ireturn, 1) := by decide +kernel
theorem dX11_undo_0 : decode cX11_undo 0 = .ok (.aload_n 0, 1) := by decide +kernel
theorem dX11_undo_1 : decode cX11_undo 1 = .ok (.getfield 63, 3) := by decide +kernel
theorem dX11_undo_4 : decode cX11_undo 4 = .ok (.getfield 299, 3) := by decide +kernel
theorem dX11_undo_7 : decode cX11_undo 7 = .ok (.ifCond .ne 6, 3) := by decide +kernel
theorem dX11_undo_10 : decode cX11_undo 10 = .ok (.bipush (-5), 2) := by decide +kernel
theorem dX11_undo_12 : decode cX11_undo 12 = .ok (.ireturn, 1) := by decide +kernel
theorem dX11_undo_13 : decode cX11_undo 13 = .ok (.aload_n 0, 1) := by decide +kernel
theorem dX11_undo_14 : decode cX11_undo 14 = .ok (.getfield 63, 3) := by decide +kernel
theorem dX11_undo_17 : decode cX11_undo 17 = .ok (.aload_n 0, 1) := by decide +kernel
theorem dX11_undo_18 : decode cX11_undo 18 = .ok (.getfield 10, 3) := by decide +kernel
theorem dX11_undo_21 : decode cX11_undo 21 = .ok (.invokevirtual 302, 3) := by decide +kernel
theorem dX11_undo_24 : decode cX11_undo 24 = .ok (.aload_n 0, 1) := by decide +kernel
theorem dX11_undo_25 : decode cX11_undo 25 = .ok (.getfield 63, 3) := by decide +kernel
theorem dX11_undo_28 : decode cX11_undo 28 = .ok (.getfield 299, 3) := by decide +kernel
theorem dX11_undo_31 : decode cX11_undo 31 = .ok (.ireturn, 1) := by decide +kernel
theorem dX11_redo_0 : decode cX11_redo 0 = .ok (.aload_n 0, 1) := by decide +kernel
theorem dX11_redo_1 : decode cX11_redo 1 = .ok (.getfield 63, 3) := by decide +kernel
theorem dX11_redo_4 : decode cX11_redo 4 = .ok (.getfield 306, 3) := by decide +kernel
theorem dX11_redo_7 : decode cX11_redo 7 = .ok (.ifCond .ne 6, 3) := by decide +kernel
theorem dX11_redo_10 : decode cX11_redo 10 = .ok (.bipush (-5), 2) := by decide +kernel
theorem dX11_redo_12 : decode cX11_redo 12 = .ok (.ireturn, 1) := by decide +kernel
theorem dX11_redo_13 : decode cX11_redo 13 = .ok (.aload_n 0, 1) := by decide +kernel
theorem dX11_redo_14 : decode cX11_redo 14 = .ok (.getfield 63, 3) := by decide +kernel
theorem dX11_redo_17 : decode cX11_redo 17 = .ok (.aload_n 0, 1) := by decide +kernel
theorem dX11_redo_18 : decode cX11_redo 18 = .ok (.getfield 10, 3) := by decide +kernel
theorem dX11_redo_21 : decode cX11_redo 21 = .ok (.invokevirtual 309, 3) := by decide +kernel
theorem dX11_redo_24 : decode cX11_redo 24 = .ok (.aload_n 0, 1) := by decide +kernel
theorem dX11_redo_25 : decode cX11_redo 25 = .ok (.getfield 63, 3) := by decide +kernel
theorem dX11_redo_28 : decode cX11_redo 28 = .ok (.getfield 306, 3) := by decide +kernel
theorem dX11_redo_31 : decode cX11_redo 31 = .ok (.ireturn, 1) := by decide +kernel
theorem dX11_body_0 : decode cX11_body 0 = .ok (.iload_n 1, 1) := by decide +kernel
theorem dX11_body_1 : decode cX11_body 1 = .ok (.ifCond .lt 9, 3) := by decide +kernel
theorem dX11_body_4 : decode cX11_body 4 = .ok (.iload_n 1, 1) := by decide +kernel
theorem dX11_body_5 : decode cX11_body 5 = .ok (.bipush 8, 2) := by decide +kernel
theorem dX11_body_7 : decode cX11_body 7 = .ok (.if_icmp .lt 5, 3) := by decide +kernel
theorem dX11_body_10 : decode cX11_body 10 = .ok (.iconst (-1), 1) := by decide +kernel
theorem dX11_body_11 : decode cX11_body 11 = .ok (.ireturn, 1) := by decide +kernel
theorem dX11_body_12 : decode cX11_body 12 = .ok (.aload_n 0, 1) := by decide +kernel
theorem dX11_body_13 : decode cX11_body 13 = .ok (.getfield 70, 3) := by decide +kernel
theorem dX11_body_16 : decode cX11_body 16 = .ok (.iload_n 1, 1) := by decide +kernel
theorem dX11_body_17 : decode cX11_body 17 = .ok (.invokevirtual 312, 3) := by decide +kernel
theorem dX11_body_20 : decode cX11_body 20 = .ok (.ireturn, 1) := by decide +kernel
theorem dX11_act_0 : decode cX11_act 0 = .ok (.aload_n 0, 1) := by decide +kernel
theorem dX11_act_1 : decode cX11_act 1 = .ok (.getfield 70, 3) := by decide +kernel
theorem dX11_act_4 : decode cX11_act 4 = .ok (.iload_n 1, 1) := by decide +kernel
theorem dX11_act_5 : decode cX11_act 5 = .ok (.iload_n 2, 1) := by decide +kernel
theorem dX11_act_6 : decode cX11_act 6 = .ok (.iload_n 3, 1) := by decide +kernel
theorem dX11_act_7 : decode cX11_act 7 = .ok (.invokevirtual 315, 3) := by decide +kernel
theorem dX11_act_10 : decode cX11_act 10 = .ok (.ireturn, 1) := by decide +kernel
theorem dX11_trace_0 : decode cX11_trace 0 = .ok (.iload_n 1, 1) := by decide +kernel
theorem dX11_trace_1 : decode cX11_trace 1 = .ok (.ifCond .lt 26, 3) := by decide +kernel
theorem dX11_trace_4 : decode cX11_trace 4 = .ok (.iload_n 1, 1) := by decide +kernel
theorem dX11_trace_5 : decode cX11_trace 5 = .ok (.aload_n 0, 1) := by decide +kernel
theorem dX11_trace_6 : decode cX11_trace 6 = .ok (.getfield 70, 3) := by decide +kernel
theorem dX11_trace_9 : decode cX11_trace 9 = .ok (.invokevirtual 318, 3) := by decide +kernel
theorem dX11_trace_12 : decode cX11_trace 12 = .ok (.if_icmp .ge 15, 3) := by decide +kernel
theorem dX11_trace_15 : decode cX11_trace 15 = .ok (.aload_n 0, 1) := by decide +kernel
theorem dX11_trace_16 : decode cX11_trace 16 = .ok (.getfield 70, 3) := by decide +kernel
theorem dX11_trace_19 : decode cX11_trace 19 = .ok (.getfield 321, 3) := by decide +kernel
theorem dX11_trace_22 : decode cX11_trace 22 = .ok (.iload_n 1, 1) := by decide +kernel
theorem dX11_trace_23 : decode cX11_trace 23 = .ok (.iaload, 1) := by decide +kernel
theorem dX11_trace_24 : decode cX11_trace 24 = .ok (.goto 4, 3) := by decide +kernel
theorem dX11_trace_27 : decode cX11_trace 27 = .ok (.iconst (-1), 1) := by decide +kernel
theorem dX11_trace_28 : decode cX11_trace 28 = .ok (.ireturn, 1) := by decide +kernel
theorem dX11_keep_0 : decode cX11_keep 0 = .ok (.iload_n 1, 1) := by decide +kernel
theorem dX11_keep_1 : decode cX11_keep 1 = .ok (.invokestatic 107, 3) := by decide +kernel
theorem dX11_keep_4 : decode cX11_keep 4 = .ok (.ifCond .eq 19, 3) := by decide +kernel
theorem dX11_keep_7 : decode cX11_keep 7 = .ok (.iload_n 2, 1) := by decide +kernel
theorem dX11_keep_8 : decode cX11_keep 8 = .ok (.iconst (-1), 1) := by decide +kernel
theorem dX11_keep_9 : decode cX11_keep 9 = .ok (.if_icmp .eq 16, 3) := by decide +kernel
theorem dX11_keep_12 : decode cX11_keep 12 = .ok (.aload_n 0, 1) := by decide +kernel
theorem dX11_keep_13 : decode cX11_keep 13 = .ok (.getfield 70, 3) := by decide +kernel
theorem dX11_keep_16 : decode cX11_keep 16 = .ok (.iload_n 2, 1) := by decide +kernel
theorem dX11_keep_17 : decode cX11_keep 17 = .ok (.invokevirtual 324, 3) := by decide +kernel
theorem dX11_keep_20 : decode cX11_keep 20 = .ok (.ifCond .ne 5, 3) := by decide +kernel
theorem dX11_keep_23 : decode cX11_keep 23 = .ok (.iconst (-1), 1) := by decide +kernel
theorem dX11_keep_24 : decode cX11_keep 24 = .ok (.ireturn, 1) := by decide +kernel
theorem dX11_keep_25 : decode cX11_keep 25 = .ok (.aload_n 0, 1) := by decide +kernel
theorem dX11_keep_26 : decode cX11_keep 26 = .ok (.getfield 76, 3) := by decide +kernel
theorem dX11_keep_29 : decode cX11_keep 29 = .ok (.iload_n 1, 1) := by decide +kernel
theorem dX11_keep_30 : decode cX11_keep 30 = .ok (.aaload, 1) := by decide +kernel
theorem dX11_keep_31 : decode cX11_keep 31 = .ok (.iload_n 2, 1) := by decide +kernel
theorem dX11_keep_32 : decode cX11_keep 32 = .ok (.invokevirtual 327, 3) := by decide +kernel
theorem dX11_keep_35 : decode cX11_keep 35 = .ok (.iconst 1, 1) := by decide +kernel
theorem dX11_keep_36 : decode cX11_keep 36 = .ok (.ireturn, 1) := by decide +kernel
theorem dX11_row_0 : decode cX11_row 0 = .ok (.iload_n 1, 1) := by decide +kernel
theorem dX11_row_1 : decode cX11_row 1 = .ok (.invokestatic 107, 3) := by decide +kernel
theorem dX11_row_4 : decode cX11_row 4 = .ok (.ifCond .eq 18, 3) := by decide +kernel
theorem dX11_row_7 : decode cX11_row 7 = .ok (.iload_n 2, 1) := by decide +kernel
theorem dX11_row_8 : decode cX11_row 8 = .ok (.ifCond .lt 14, 3) := by decide +kernel
theorem dX11_row_11 : decode cX11_row 11 = .ok (.iload_n 2, 1) := by decide +kernel
theorem dX11_row_12 : decode cX11_row 12 = .ok (.iconst 5, 1) := by decide +kernel
theorem dX11_row_13 : decode cX11_row 13 = .ok (.if_icmp .ge 9, 3) := by decide +kernel
theorem dX11_row_16 : decode cX11_row 16 = .ok (.iload_n 3, 1) := by decide +kernel
theorem dX11_row_17 : decode cX11_row 17 = .ok (.bipush 60, 2) := by decide +kernel
theorem dX11_row_19 : decode cX11_row 19 = .ok (.if_icmp .le 5, 3) := by decide +kernel
theorem dX11_row_22 : decode cX11_row 22 = .ok (.iconst (-1), 1) := by decide +kernel
theorem dX11_row_23 : decode cX11_row 23 = .ok (.ireturn, 1) := by decide +kernel
theorem dX11_row_24 : decode cX11_row 24 = .ok (.iload_n 3, 1) := by decide +kernel
theorem dX11_row_25 : decode cX11_row 25 = .ok (.ifCond .ge 6, 3) := by decide +kernel
theorem dX11_row_28 : decode cX11_row 28 = .ok (.bipush (-14), 2) := by decide +kernel
theorem dX11_row_30 : decode cX11_row 30 = .ok (.ireturn, 1) := by decide +kernel
theorem dX11_row_31 : decode cX11_row 31 = .ok (.aload_n 0, 1) := by decide +kernel
theorem dX11_row_32 : decode cX11_row 32 = .ok (.getfield 76, 3) := by decide +kernel
theorem dX11_row_35 : decode cX11_row 35 = .ok (.iload_n 1, 1) := by decide +kernel
theorem dX11_row_36 : decode cX11_row 36 = .ok (.aaload, 1) := by decide +kernel
theorem dX11_row_37 : decode cX11_row 37 = .ok (.iload_n 2, 1) := by decide +kernel
theorem dX11_row_38 : decode cX11_row 38 = .ok (.iload_n 3, 1) := by decide +kernel
theorem dX11_row_39 : decode cX11_row 39 = .ok (.invokevirtual 330, 3) := by decide +kernel
theorem dX11_row_42 : decode cX11_row 42 = .ok (.iconst 1, 1) := by decide +kernel
theorem dX11_row_43 : decode cX11_row 43 = .ok (.ireturn, 1) := by decide +kernel
theorem dX11_put_0 : decode cX11_put 0 = .ok (.aload_n 0, 1) := by decide +kernel
theorem dX11_put_1 : decode cX11_put 1 = .ok (.iload_n 1, 1) := by decide +kernel
theorem dX11_put_2 : decode cX11_put 2 = .ok (.iload_n 2, 1) := by decide +kernel
theorem dX11_put_3 : decode cX11_put 3 = .ok (.invokevirtual 334, 3) := by decide +kernel
theorem dX11_put_6 : decode cX11_put 6 = .ok (.istore 5, 2) := by decide +kernel
theorem dX11_put_8 : decode cX11_put 8 = .ok (.iload 5, 2) := by decide +kernel
theorem dX11_put_10 : decode cX11_put 10 = .ok (.ifCond .eq 6, 3) := by decide +kernel
theorem dX11_put_13 : decode cX11_put 13 = .ok (.iload 5, 2) := by decide +kernel
theorem dX11_put_15 : decode cX11_put 15 = .ok (.ireturn, 1) := by decide +kernel
theorem dX11_put_16 : decode cX11_put 16 = .ok (.aload_n 0, 1) := by decide +kernel
theorem dX11_put_17 : decode cX11_put 17 = .ok (.getfield 76, 3) := by decide +kernel
theorem dX11_put_20 : decode cX11_put 20 = .ok (.iload_n 1, 1) := by decide +kernel
theorem dX11_put_21 : decode cX11_put 21 = .ok (.aaload, 1) := by decide +kernel
theorem dX11_put_22 : decode cX11_put 22 = .ok (.iload_n 2, 1) := by decide +kernel
theorem dX11_put_23 : decode cX11_put 23 = .ok (.lload_n 3, 1) := by decide +kernel
theorem dX11_put_24 : decode cX11_put 24 = .ok (.invokevirtual 337, 3) := by decide +kernel
theorem dX11_put_27 : decode cX11_put 27 = .ok (.iconst 1, 1) := by decide +kernel
theorem dX11_put_28 : decode cX11_put 28 = .ok (.ireturn, 1) := by decide +kernel
theorem dX11_element_0 : decode cX11_element 0 = .ok (.aload_n 0, 1) := by decide +kernel
theorem dX11_element_1 : decode cX11_element 1 = .ok (.iload_n 1, 1) := by decide +kernel
theorem dX11_element_2 : decode cX11_element 2 = .ok (.iload_n 2, 1) := by decide +kernel
theorem dX11_element_3 : decode cX11_element 3 = .ok (.invokevirtual 334, 3) := by decide +kernel
theorem dX11_element_6 : decode cX11_element 6 = .ok (.ifCond .eq 9, 3) := by decide +kernel
theorem dX11_element_9 : decode cX11_element 9 = .ok (.ldc2_w 343, 3) := by decide +kernel
theorem dX11_element_12 : decode cX11_element 12 = .ok (.goto 13, 3) := by decide +kernel
theorem dX11_element_15 : decode cX11_element 15 = .ok (.aload_n 0, 1) := by decide +kernel
theorem dX11_element_16 : decode cX11_element 16 = .ok (.getfield 76, 3) := by decide +kernel
theorem dX11_element_19 : decode cX11_element 19 = .ok (.iload_n 1, 1) := by decide +kernel
theorem dX11_element_20 : decode cX11_element 20 = .ok (.aaload, 1) := by decide +kernel
theorem dX11_element_21 : decode cX11_element 21 = .ok (.iload_n 2, 1) := by decide +kernel
theorem dX11_element_22 : decode cX11_element 22 = .ok (.invokevirtual 124, 3) := by decide +kernel
theorem dX11_element_25 : decode cX11_element 25 = .ok (.lreturn, 1) := by decide +kernel
theorem dX11_elementRefusal_0 : decode cX11_elementRefusal 0 = .ok (.iload_n 1, 1) := by decide +kernel
theorem dX11_elementRefusal_1 : decode cX11_elementRefusal 1 = .ok (.invokestatic 107, 3) := by decide +kernel
theorem dX11_elementRefusal_4 : decode cX11_elementRefusal 4 = .ok (.ifCond .ne 5, 3) := by decide +kernel
theorem dX11_elementRefusal_7 : decode cX11_elementRefusal 7 = .ok (.iconst (-1), 1) := by decide +kernel
theorem dX11_elementRefusal_8 : decode cX11_elementRefusal 8 = .ok (.ireturn, 1) := by decide +kernel
theorem dX11_elementRefusal_9 : decode cX11_elementRefusal 9 = .ok (.aload_n 0, 1) := by decide +kernel
theorem dX11_elementRefusal_10 : decode cX11_elementRefusal 10 = .ok (.getfield 76, 3) := by decide +kernel
theorem dX11_elementRefusal_13 : decode cX11_elementRefusal 13 = .ok (.iload_n 1, 1) := by decide +kernel
theorem dX11_elementRefusal_14 : decode cX11_elementRefusal 14 = .ok (.aaload, 1) := by decide +kernel
theorem dX11_elementRefusal_15 : decode cX11_elementRefusal 15 = .ok (.invokevirtual 345, 3) := by decide +kernel
theorem dX11_elementRefusal_18 : decode cX11_elementRefusal 18 = .ok (.istore_n 3, 1) := by decide +kernel
theorem dX11_elementRefusal_19 : decode cX11_elementRefusal 19 = .ok (.iload_n 3, 1) := by decide +kernel
theorem dX11_elementRefusal_20 : decode cX11_elementRefusal 20 = .ok (.ifCond .eq 5, 3) := by decide +kernel
theorem dX11_elementRefusal_23 : decode cX11_elementRefusal 23 = .ok (.iload_n 3, 1) := by decide +kernel
theorem dX11_elementRefusal_24 : decode cX11_elementRefusal 24 = .ok (.ireturn, 1) := by decide +kernel
theorem dX11_elementRefusal_25 : decode cX11_elementRefusal 25 = .ok (.iload_n 2, 1) := by decide +kernel
theorem dX11_elementRefusal_26 : decode cX11_elementRefusal 26 = .ok (.ifCond .lt 16, 3) := by decide +kernel
theorem dX11_elementRefusal_29 : decode cX11_elementRefusal 29 = .ok (.iload_n 2, 1) := by decide +kernel
theorem dX11_elementRefusal_30 : decode cX11_elementRefusal 30 = .ok (.aload_n 0, 1) := by decide +kernel
theorem dX11_elementRefusal_31 : decode cX11_elementRefusal 31 = .ok (.getfield 76, 3) := by decide +kernel
theorem dX11_elementRefusal_34 : decode cX11_elementRefusal 34 = .ok (.iload_n 1, 1) := by decide +kernel
theorem dX11_elementRefusal_35 : decode cX11_elementRefusal 35 = .ok (.aaload, 1) := by decide +kernel
theorem dX11_elementRefusal_36 : decode cX11_elementRefusal 36 = .ok (.getfield 118, 3) := by decide +kernel
theorem dX11_elementRefusal_39 : decode cX11_elementRefusal 39 = .ok (.if_icmp .lt 8, 3) := by decide +kernel
theorem dX11_elementRefusal_42 : decode cX11_elementRefusal 42 = .ok (.bipush (-13), 2) := by decide +kernel
theorem dX11_elementRefusal_44 : decode cX11_elementRefusal 44 = .ok (.goto 4, 3) := by decide +kernel
theorem dX11_elementRefusal_47 : decode cX11_elementRefusal 47 = .ok (.iconst 0, 1) := by decide +kernel
theorem dX11_elementRefusal_48 : decode cX11_elementRefusal 48 = .ok (.ireturn, 1) := by decide +kernel
theorem dX11_shift_0 : decode cX11_shift 0 = .ok (.iload_n 1, 1) := by decide +kernel
theorem dX11_shift_1 : decode cX11_shift 1 = .ok (.invokestatic 107, 3) := by decide +kernel
theorem dX11_shift_4 : decode cX11_shift 4 = .ok (.ifCond .eq 10, 3) := by decide +kernel
theorem dX11_shift_7 : decode cX11_shift 7 = .ok (.iload_n 3, 1) := by decide +kernel
theorem dX11_shift_8 : decode cX11_shift 8 = .ok (.invokestatic 107, 3) := by decide +kernel
theorem dX11_shift_11 : decode cX11_shift 11 = .ok (.ifCond .ne 5, 3) := by decide +kernel
theorem dX11_shift_14 : decode cX11_shift 14 = .ok (.iconst (-1), 1) := by decide +kernel
theorem dX11_shift_15 : decode cX11_shift 15 = .ok (.ireturn, 1) := by decide +kernel
theorem dX11_shift_16 : decode cX11_shift 16 = .ok (.aload_n 0, 1) := by decide +kernel
theorem dX11_shift_17 : decode cX11_shift 17 = .ok (.getfield 76, 3) := by decide +kernel
theorem dX11_shift_20 : decode cX11_shift 20 = .ok (.iload_n 1, 1) := by decide +kernel
theorem dX11_shift_21 : decode cX11_shift 21 = .ok (.aaload, 1) := by decide +kernel
theorem dX11_shift_22 : decode cX11_shift 22 = .ok (.astore 6, 2) := by decide +kernel
theorem dX11_shift_24 : decode cX11_shift 24 = .ok (.aload_n 0, 1) := by decide +kernel
theorem dX11_shift_25 : decode cX11_shift 25 = .ok (.getfield 76, 3) := by decide +kernel
theorem dX11_shift_28 : decode cX11_shift 28 = .ok (.iload_n 3, 1) := by decide +kernel
theorem dX11_shift_29 : decode cX11_shift 29 = .ok (.aaload, 1) := by decide +kernel
theorem dX11_shift_30 : decode cX11_shift 30 = .ok (.astore 7, 2) := by decide +kernel
theorem dX11_shift_32 : decode cX11_shift 32 = .ok (.aload 6, 2) := by decide +kernel
theorem dX11_shift_34 : decode cX11_shift 34 = .ok (.invokevirtual 110, 3) := by decide +kernel
theorem dX11_shift_37 : decode cX11_shift 37 = .ok (.ifCond .ne 11, 3) := by decide +kernel
theorem dX11_shift_40 : decode cX11_shift 40 = .ok (.aload 7, 2) := by decide +kernel
theorem dX11_shift_42 : decode cX11_shift 42 = .ok (.invokevirtual 110, 3) := by decide +kernel
theorem dX11_shift_45 : decode cX11_shift 45 = .ok (.ifCond .eq 6, 3) := by decide +kernel
theorem dX11_shift_48 : decode cX11_shift 48 = .ok (.bipush (-11), 2) := by decide +kernel
theorem dX11_shift_50 : decode cX11_shift 50 = .ok (.ireturn, 1) := by decide +kernel
theorem dX11_shift_51 : decode cX11_shift 51 = .ok (.aload 6, 2) := by decide +kernel
theorem dX11_shift_53 : decode cX11_shift 53 = .ok (.invokevirtual 345, 3) := by decide +kernel
theorem dX11_shift_56 : decode cX11_shift 56 = .ok (.ifCond .ne 24, 3) := by decide +kernel
theorem dX11_shift_59 : decode cX11_shift 59 = .ok (.aload 7, 2) := by decide +kernel
theorem dX11_shift_61 : decode cX11_shift 61 = .ok (.invokevirtual 345, 3) := by decide +kernel
theorem dX11_shift_64 : decode cX11_shift 64 = .ok (.ifCond .ne 16, 3) := by decide +kernel
theorem dX11_shift_67 : decode cX11_shift 67 = .ok (.aload 6, 2) := by decide +kernel
theorem dX11_shift_69 : decode cX11_shift 69 = .ok (.getfield 348, 3) := by decide +kernel
theorem dX11_shift_72 : decode cX11_shift 72 = .ok (.aload 7, 2) := by decide +kernel
theorem dX11_shift_74 : decode cX11_shift 74 = .ok (.getfield 348, 3) := by decide +kernel
theorem dX11_shift_77 : decode cX11_shift 77 = .ok (.if_icmp .eq 6, 3) := by decide +kernel
theorem dX11_shift_80 : decode cX11_shift 80 = .ok (.bipush (-12), 2) := by decide +kernel
theorem dX11_shift_82 : decode cX11_shift 82 = .ok (.ireturn, 1) := by decide +kernel
theorem dX11_shift_83 : decode cX11_shift 83 = .ok (.aload 6, 2) := by decide +kernel
theorem dX11_shift_85 : decode cX11_shift 85 = .ok (.iload_n 2, 1) := by decide +kernel
theorem dX11_shift_86 : decode cX11_shift 86 = .ok (.iload 5, 2) := by decide +kernel
theorem dX11_shift_88 : decode cX11_shift 88 = .ok (.invokevirtual 351, 3) := by decide +kernel
theorem dX11_shift_91 : decode cX11_shift 91 = .ok (.ifCond .eq 15, 3) := by decide +kernel
theorem dX11_shift_94 : decode cX11_shift 94 = .ok (.aload 7, 2) := by decide +kernel
theorem dX11_shift_96 : decode cX11_shift 96 = .ok (.iload 4, 2) := by decide +kernel
theorem dX11_shift_98 : decode cX11_shift 98 = .ok (.iload 5, 2) := by decide +kernel
theorem dX11_shift_100 : decode cX11_shift 100 = .ok (.invokevirtual 351, 3) := by decide +kernel
theorem dX11_shift_103 : decode cX11_shift 103 = .ok (.ifCond .ne 6, 3) := by decide +kernel
theorem dX11_shift_106 : decode cX11_shift 106 = .ok (.bipush (-13), 2) := by decide +kernel
theorem dX11_shift_108 : decode cX11_shift 108 = .ok (.ireturn, 1) := by decide +kernel
theorem dX11_shift_109 : decode cX11_shift 109 = .ok (.aload 6, 2) := by decide +kernel
theorem dX11_shift_111 : decode cX11_shift 111 = .ok (.getfield 354, 3) := by decide +kernel
theorem dX11_shift_114 : decode cX11_shift 114 = .ok (.iload_n 2, 1) := by decide +kernel
theorem dX11_shift_115 : decode cX11_shift 115 = .ok (.aload 7, 2) := by decide +kernel
theorem dX11_shift_117 : decode cX11_shift 117 = .ok (.getfield 354, 3) := by decide +kernel
theorem dX11_shift_120 : decode cX11_shift 120 = .ok (.iload 4, 2) := by decide +kernel
theorem dX11_shift_122 : decode cX11_shift 122 = .ok (.iload 5, 2) := by decide +kernel
theorem dX11_shift_124 : decode cX11_shift 124 = .ok (.invokestatic 358, 3) := by decide +kernel
theorem dX11_shift_127 : decode cX11_shift 127 = .ok (.iload 5, 2) := by decide +kernel
theorem dX11_shift_129 : decode cX11_shift 129 = .ok (.ireturn, 1) := by decide +kernel
theorem dX11_taken_0 : decode cX11_taken 0 = .ok (.iload_n 1, 1) := by decide +kernel
theorem dX11_taken_1 : decode cX11_taken 1 = .ok (.invokestatic 107, 3) := by decide +kernel
theorem dX11_taken_4 : decode cX11_taken 4 = .ok (.ifCond .eq 13, 3) := by decide +kernel
theorem dX11_taken_7 : decode cX11_taken 7 = .ok (.iload_n 2, 1) := by decide +kernel
theorem dX11_taken_8 : decode cX11_taken 8 = .ok (.ifCond .lt 9, 3) := by decide +kernel
theorem dX11_taken_11 : decode cX11_taken 11 = .ok (.iload_n 2, 1) := by decide +kernel
theorem dX11_taken_12 : decode cX11_taken 12 = .ok (.bipush 8, 2) := by decide +kernel
theorem dX11_taken_14 : decode cX11_taken 14 = .ok (.if_icmp .lt 5, 3) := by decide +kernel
theorem dX11_taken_17 : decode cX11_taken 17 = .ok (.iconst (-1), 1) := by decide +kernel
theorem dX11_taken_18 : decode cX11_taken 18 = .ok (.ireturn, 1) := by decide +kernel
theorem dX11_taken_19 : decode cX11_taken 19 = .ok (.aload_n 0, 1) := by decide +kernel
theorem dX11_taken_20 : decode cX11_taken 20 = .ok (.getfield 76, 3) := by decide +kernel
theorem dX11_taken_23 : decode cX11_taken 23 = .ok (.iload_n 1, 1) := by decide +kernel
theorem dX11_taken_24 : decode cX11_taken 24 = .ok (.aaload, 1) := by decide +kernel
theorem dX11_taken_25 : decode cX11_taken 25 = .ok (.astore_n 3, 1) := by decide +kernel
theorem dX11_taken_26 : decode cX11_taken 26 = .ok (.aload_n 3, 1) := by decide +kernel
theorem dX11_taken_27 : decode cX11_taken 27 = .ok (.invokevirtual 110, 3) := by decide +kernel
theorem dX11_taken_30 : decode cX11_taken 30 = .ok (.ifCond .eq 6, 3) := by decide +kernel
theorem dX11_taken_33 : decode cX11_taken 33 = .ok (.bipush (-11), 2) := by decide +kernel
theorem dX11_taken_35 : decode cX11_taken 35 = .ok (.ireturn, 1) := by decide +kernel
theorem dX11_taken_36 : decode cX11_taken 36 = .ok (.aload_n 0, 1) := by decide +kernel
theorem dX11_taken_37 : decode cX11_taken 37 = .ok (.getfield 70, 3) := by decide +kernel
theorem dX11_taken_40 : decode cX11_taken 40 = .ok (.aload_n 3, 1) := by decide +kernel
theorem dX11_taken_41 : decode cX11_taken 41 = .ok (.getfield 364, 3) := by decide +kernel
theorem dX11_taken_44 : decode cX11_taken 44 = .ok (.invokevirtual 367, 3) := by decide +kernel
theorem dX11_taken_47 : decode cX11_taken 47 = .ok (.istore 4, 2) := by decide +kernel
theorem dX11_taken_49 : decode cX11_taken 49 = .ok (.iload 4, 2) := by decide +kernel
theorem dX11_taken_51 : decode cX11_taken 51 = .ok (.iload_n 2, 1) := by decide +kernel
theorem dX11_taken_52 : decode cX11_taken 52 = .ok (.invokestatic 370, 3) := by decide +kernel
theorem dX11_taken_55 : decode cX11_taken 55 = .ok (.ifCond .eq 8, 3) := by decide +kernel
theorem dX11_taken_58 : decode cX11_taken 58 = .ok (.iload 4, 2) := by decide +kernel
theorem dX11_taken_60 : decode cX11_taken 60 = .ok (.goto 5, 3) := by decide +kernel
theorem dX11_taken_63 : decode cX11_taken 63 = .ok (.bipush (-12), 2) := by decide +kernel
theorem dX11_taken_65 : decode cX11_taken 65 = .ok (.ireturn, 1) := by decide +kernel
theorem dX11_count_0 : decode cX11_count 0 = .ok (.iload_n 1, 1) := by decide +kernel
theorem dX11_count_1 : decode cX11_count 1 = .ok (.tableswitch 99 0 6 #[43, 51, 59, 67, 75, 83, 91], 43) := by decide +kernel
theorem dX11_count_44 : decode cX11_count 44 = .ok (.aload_n 0, 1) := by decide +kernel
theorem dX11_count_45 : decode cX11_count 45 = .ok (.getfield 10, 3) := by decide +kernel
theorem dX11_count_48 : decode cX11_count 48 = .ok (.getfield 121, 3) := by decide +kernel
theorem dX11_count_51 : decode cX11_count 51 = .ok (.ireturn, 1) := by decide +kernel
theorem dX11_count_52 : decode cX11_count 52 = .ok (.aload_n 0, 1) := by decide +kernel
theorem dX11_count_53 : decode cX11_count 53 = .ok (.getfield 10, 3) := by decide +kernel
theorem dX11_count_56 : decode cX11_count 56 = .ok (.getfield 88, 3) := by decide +kernel
theorem dX11_count_59 : decode cX11_count 59 = .ok (.ireturn, 1) := by decide +kernel
theorem dX11_count_60 : decode cX11_count 60 = .ok (.aload_n 0, 1) := by decide +kernel
theorem dX11_count_61 : decode cX11_count 61 = .ok (.getfield 10, 3) := by decide +kernel
theorem dX11_count_64 : decode cX11_count 64 = .ok (.getfield 266, 3) := by decide +kernel
theorem dX11_count_67 : decode cX11_count 67 = .ok (.ireturn, 1) := by decide +kernel
theorem dX11_count_68 : decode cX11_count 68 = .ok (.aload_n 0, 1) := by decide +kernel
theorem dX11_count_69 : decode cX11_count 69 = .ok (.getfield 19, 3) := by decide +kernel
theorem dX11_count_72 : decode cX11_count 72 = .ok (.getfield 181, 3) := by decide +kernel
theorem dX11_count_75 : decode cX11_count 75 = .ok (.ireturn, 1) := by decide +kernel
theorem dX11_count_76 : decode cX11_count 76 = .ok (.aload_n 0, 1) := by decide +kernel
theorem dX11_count_77 : decode cX11_count 77 = .ok (.getfield 63, 3) := by decide +kernel
theorem dX11_count_80 : decode cX11_count 80 = .ok (.getfield 299, 3) := by decide +kernel
theorem dX11_count_83 : decode cX11_count 83 = .ok (.ireturn, 1) := by decide +kernel
theorem dX11_count_84 : decode cX11_count 84 = .ok (.aload_n 0, 1) := by decide +kernel
theorem dX11_count_85 : decode cX11_count 85 = .ok (.getfield 70, 3) := by decide +kernel
theorem dX11_count_88 : decode cX11_count 88 = .ok (.getfield 373, 3) := by decide +kernel
theorem dX11_count_91 : decode cX11_count 91 = .ok (.ireturn, 1) := by decide +kernel
theorem dX11_count_92 : decode cX11_count 92 = .ok (.aload_n 0, 1) := by decide +kernel
theorem dX11_count_93 : decode cX11_count 93 = .ok (.getfield 70, 3) := by decide +kernel
theorem dX11_count_96 : decode cX11_count 96 = .ok (.getfield 376, 3) := by decide +kernel
theorem dX11_count_99 : decode cX11_count 99 = .ok (.ireturn, 1) := by decide +kernel
theorem dX11_count_100 : decode cX11_count 100 = .ok (.iconst (-1), 1) := by decide +kernel
theorem dX11_count_101 : decode cX11_count 101 = .ok (.ireturn, 1) := by decide +kernel
theorem dX11_isShelf_0 : decode cX11_isShelf 0 = .ok (.iload_n 0, 1) := by decide +kernel
theorem dX11_isShelf_1 : decode cX11_isShelf 1 = .ok (.ifCond .lt 13, 3) := by decide +kernel
theorem dX11_isShelf_4 : decode cX11_isShelf 4 = .ok (.iload_n 0, 1) := by decide +kernel
theorem dX11_isShelf_5 : decode cX11_isShelf 5 = .ok (.bipush 6, 2) := by decide +kernel
theorem dX11_isShelf_7 : decode cX11_isShelf 7 = .ok (.if_icmp .ge 7, 3) := by decide +kernel
theorem dX11_isShelf_10 : decode cX11_isShelf 10 = .ok (.iconst 1, 1) := by decide +kernel
theorem dX11_isShelf_11 : decode cX11_isShelf 11 = .ok (.goto 4, 3) := by decide +kernel
theorem dX11_isShelf_14 : decode cX11_isShelf 14 = .ok (.iconst 0, 1) := by decide +kernel
theorem dX11_isShelf_15 : decode cX11_isShelf 15 = .ok (.ireturn, 1) := by decide +kernel
theorem dX11_roomIn_0 : decode cX11_roomIn 0 = .ok (.iload_n 0, 1) := by decide +kernel
theorem dX11_roomIn_1 : decode cX11_roomIn 1 = .ok (.iconst 2, 1) := by decide +kernel
theorem dX11_roomIn_2 : decode cX11_roomIn 2 = .ok (.iload_n 1, 1) := by decide +kernel
theorem dX11_roomIn_3 : decode cX11_roomIn 3 = .ok (.imul, 1) := by decide +kernel
theorem dX11_roomIn_4 : decode cX11_roomIn 4 = .ok (.ishr, 1) := by decide +kernel
theorem dX11_roomIn_5 : decode cX11_roomIn 5 = .ok (.iconst 3, 1) := by decide +kernel
theorem dX11_roomIn_6 : decode cX11_roomIn 6 = .ok (.iand, 1) := by decide +kernel
theorem dX11_roomIn_7 : decode cX11_roomIn 7 = .ok (.ireturn, 1) := by decide +kernel
theorem dX11_pattern_0 : decode cX11_pattern 0 = .ok (.iconst 0, 1) := by decide +kernel
theorem dX11_pattern_1 : decode cX11_pattern 1 = .ok (.istore_n 1, 1) := by decide +kernel
theorem dX11_pattern_2 : decode cX11_pattern 2 = .ok (.iconst 0, 1) := by decide +kernel
theorem dX11_pattern_3 : decode cX11_pattern 3 = .ok (.istore_n 2, 1) := by decide +kernel
theorem dX11_pattern_4 : decode cX11_pattern 4 = .ok (.iload_n 2, 1) := by decide +kernel
theorem dX11_pattern_5 : decode cX11_pattern 5 = .ok (.bipush 7, 2) := by decide +kernel
theorem dX11_pattern_7 : decode cX11_pattern 7 = .ok (.if_icmp .ge 21, 3) := by decide +kernel
theorem dX11_pattern_10 : decode cX11_pattern 10 = .ok (.iload_n 1, 1) := by decide +kernel
theorem dX11_pattern_11 : decode cX11_pattern 11 = .ok (.iload_n 0, 1) := by decide +kernel
theorem dX11_pattern_12 : decode cX11_pattern 12 = .ok (.iload_n 2, 1) := by decide +kernel
theorem dX11_pattern_13 : decode cX11_pattern 13 = .ok (.ishr, 1) := by decide +kernel
theorem dX11_pattern_14 : decode cX11_pattern 14 = .ok (.iconst 1, 1) := by decide +kernel
theorem dX11_pattern_15 : decode cX11_pattern 15 = .ok (.iand, 1) := by decide +kernel
theorem dX11_pattern_16 : decode cX11_pattern 16 = .ok (.iconst 2, 1) := by decide +kernel
theorem dX11_pattern_17 : decode cX11_pattern 17 = .ok (.iload_n 2, 1) := by decide +kernel
theorem dX11_pattern_18 : decode cX11_pattern 18 = .ok (.imul, 1) := by decide +kernel
theorem dX11_pattern_19 : decode cX11_pattern 19 = .ok (.ishl, 1) := by decide +kernel
theorem dX11_pattern_20 : decode cX11_pattern 20 = .ok (.ior, 1) := by decide +kernel
theorem dX11_pattern_21 : decode cX11_pattern 21 = .ok (.istore_n 1, 1) := by decide +kernel
theorem dX11_pattern_22 : decode cX11_pattern 22 = .ok (.iinc 2 1, 3) := by decide +kernel
theorem dX11_pattern_25 : decode cX11_pattern 25 = .ok (.goto (-21), 3) := by decide +kernel
theorem dX11_pattern_28 : decode cX11_pattern 28 = .ok (.iload_n 1, 1) := by decide +kernel
theorem dX11_pattern_29 : decode cX11_pattern 29 = .ok (.ireturn, 1) := by decide +kernel
theorem dX12_init_0 : decode cX12_init 0 = .ok (.aload_n 0, 1) := by decide +kernel
theorem dX12_init_1 : decode cX12_init 1 = .ok (.invokespecial 1, 3) := by decide +kernel
theorem dX12_init_4 : decode cX12_init 4 = .ok (.aload_n 0, 1) := by decide +kernel
theorem dX12_init_5 : decode cX12_init 5 = .ok (.iconst 5, 1) := by decide +kernel
theorem dX12_init_6 : decode cX12_init 6 = .ok (.newarray .int, 2) := by decide +kernel
theorem dX12_init_8 : decode cX12_init 8 = .ok (.putfield 7, 3) := by decide +kernel
theorem dX12_init_11 : decode cX12_init 11 = .ok (.aload_n 0, 1) := by decide +kernel
theorem dX12_init_12 : decode cX12_init 12 = .ok (.iconst 5, 1) := by decide +kernel
theorem dX12_init_13 : decode cX12_init 13 = .ok (.newarray .int, 2) := by decide +kernel
theorem dX12_init_15 : decode cX12_init 15 = .ok (.putfield 13, 3) := by decide +kernel
theorem dX12_init_18 : decode cX12_init 18 = .ok (.aload_n 0, 1) := by decide +kernel
theorem dX12_init_19 : decode cX12_init 19 = .ok (.iconst 5, 1) := by decide +kernel
theorem dX12_init_20 : decode cX12_init 20 = .ok (.newarray .int, 2) := by decide +kernel
theorem dX12_init_22 : decode cX12_init 22 = .ok (.putfield 16, 3) := by decide +kernel
theorem dX12_init_25 : decode cX12_init 25 = .ok (.aload_n 0, 1) := by decide +kernel
theorem dX12_init_26 : decode cX12_init 26 = .ok (.bipush 7, 2) := by decide +kernel
theorem dX12_init_28 : decode cX12_init 28 = .ok (.newarray .int, 2) := by decide +kernel
theorem dX12_init_30 : decode cX12_init 30 = .ok (.putfield 19, 3) := by decide +kernel
theorem dX12_init_33 : decode cX12_init 33 = .ok (.aload_n 0, 1) := by decide +kernel
theorem dX12_init_34 : decode cX12_init 34 = .ok (.bipush 7, 2) := by decide +kernel
theorem dX12_init_36 : decode cX12_init 36 = .ok (.newarray .int, 2) := by decide +kernel
theorem dX12_init_38 : decode cX12_init 38 = .ok (.putfield 22, 3) := by decide +kernel
theorem dX12_init_41 : decode cX12_init 41 = .ok (.aload_n 0, 1) := by decide +kernel
theorem dX12_init_42 : decode cX12_init 42 = .ok (.iconst (-1), 1) := by decide +kernel
theorem dX12_init_43 : decode cX12_init 43 = .ok (.putfield 25, 3) := by decide +kernel
theorem dX12_init_46 : decode cX12_init 46 = .ok (.aload_n 0, 1) := by decide +kernel
theorem dX12_init_47 : decode cX12_init 47 = .ok (.iconst 5, 1) := by decide +kernel
theorem dX12_init_48 : decode cX12_init 48 = .ok (.putfield 29, 3) := by decide +kernel
theorem dX12_init_51 : decode cX12_init 51 = .ok (.aload_n 0, 1) := by decide +kernel
theorem dX12_init_52 : decode cX12_init 52 = .ok (.bipush 40, 2) := by decide +kernel
theorem dX12_init_54 : decode cX12_init 54 = .ok (.newarray .int, 2) := by decide +kernel
theorem dX12_init_56 : decode cX12_init 56 = .ok (.putfield 32, 3) := by decide +kernel
theorem dX12_init_59 : decode cX12_init 59 = .ok (.aload_n 0, 1) := by decide +kernel
theorem dX12_init_60 : decode cX12_init 60 = .ok (.bipush 40, 2) := by decide +kernel
theorem dX12_init_62 : decode cX12_init 62 = .ok (.newarray .int, 2) := by decide +kernel
theorem dX12_init_64 : decode cX12_init 64 = .ok (.putfield 35, 3) := by decide +kernel
theorem dX12_init_67 : decode cX12_init 67 = .ok (.aload_n 0, 1) := by decide +kernel
theorem dX12_init_68 : decode cX12_init 68 = .ok (.bipush 40, 2) := by decide +kernel
theorem dX12_init_70 : decode cX12_init 70 = .ok (.newarray .int, 2) := by decide +kernel
theorem dX12_init_72 : decode cX12_init 72 = .ok (.putfield 38, 3) := by decide +kernel
theorem dX12_init_75 : decode cX12_init 75 = .ok (.aload_n 0, 1) := by decide +kernel
theorem dX12_init_76 : decode cX12_init 76 = .ok (.bipush 40, 2) := by decide +kernel
theorem dX12_init_78 : decode cX12_init 78 = .ok (.newarray .int, 2) := by decide +kernel
theorem dX12_init_80 : decode cX12_init 80 = .ok (.putfield 41, 3) := by decide +kernel
theorem dX12_init_83 : decode cX12_init 83 = .ok (.aload_n 0, 1) := by decide +kernel
theorem dX12_init_84 : decode cX12_init 84 = .ok (.bipush 120, 2) := by decide +kernel
theorem dX12_init_86 : decode cX12_init 86 = .ok (.newarray .byte, 2) := by decide +kernel
theorem dX12_init_88 : decode cX12_init 88 = .ok (.putfield 44, 3) := by decide +kernel
theorem dX12_init_91 : decode cX12_init 91 = .ok (.aload_n 0, 1) := by decide +kernel
theorem dX12_init_92 : decode cX12_init 92 = .ok (.sipush 260, 3) := by decide +kernel
theorem dX12_init_95 : decode cX12_init 95 = .ok (.newarray .byte, 2) := by decide +kernel
theorem dX12_init_97 : decode cX12_init 97 = .ok (.putfield 48, 3) := by decide +kernel
theorem dX12_init_100 : decode cX12_init 100 = .ok (.aload_n 0, 1) := by decide +kernel
theorem dX12_init_101 : decode cX12_init 101 = .ok (.sipush 260, 3) := by decide +kernel
theorem dX12_init_104 : decode cX12_init 104 = .ok (.newarray .int, 2) := by decide +kernel
theorem dX12_init_106 : decode cX12_init 106 = .ok (.putfield 51, 3) := by decide +kernel
theorem dX12_init_109 : decode cX12_init 109 = .ok (.aload_n 0, 1) := by decide +kernel
theorem dX12_init_110 : decode cX12_init 110 = .ok (.iconst 2, 1) := by decide +kernel
theorem dX12_init_111 : decode cX12_init 111 = .ok (.newarray .int, 2) := by decide +kernel
theorem dX12_init_113 : decode cX12_init 113 = .ok (.putfield 54, 3) := by decide +kernel
theorem dX12_init_116 : decode cX12_init 116 = .ok (.aload_n 0, 1) := by decide +kernel
theorem dX12_init_117 : decode cX12_init 117 = .ok (.bipush 122, 2) := by decide +kernel
theorem dX12_init_119 : decode cX12_init 119 = .ok (.newarray .short, 2) := by decide +kernel
theorem dX12_init_121 : decode cX12_init 121 = .ok (.putfield 57, 3) := by decide +kernel
theorem dX12_init_124 : decode cX12_init 124 = .ok (.aload_n 0, 1) := by decide +kernel
theorem dX12_init_125 : decode cX12_init 125 = .ok (.bipush 122, 2) := by decide +kernel
theorem dX12_init_127 : decode cX12_init 127 = .ok (.newarray .short, 2) := by decide +kernel
theorem dX12_init_129 : decode cX12_init 129 = .ok (.putfield 61, 3) := by decide +kernel
theorem dX12_init_132 : decode cX12_init 132 = .ok (.aload_n 0, 1) := by decide +kernel
theorem dX12_init_133 : decode cX12_init 133 = .ok (.bipush 6, 2) := by decide +kernel
theorem dX12_init_135 : decode cX12_init 135 = .ok (.newarray .int, 2) := by decide +kernel
theorem dX12_init_137 : decode cX12_init 137 = .ok (.putfield 64, 3) := by decide +kernel
theorem dX12_init_140 : decode cX12_init 140 = .ok (.aload_n 0, 1) := by decide +kernel
theorem dX12_init_141 : decode cX12_init 141 = .ok (.sipush 130, 3) := by decide +kernel
theorem dX12_init_144 : decode cX12_init 144 = .ok (.newarray .int, 2) := by decide +kernel
theorem dX12_init_146 : decode cX12_init 146 = .ok (.putfield 67, 3) := by decide +kernel
theorem dX12_init_149 : decode cX12_init 149 = .ok (.aload_n 0, 1) := by decide +kernel
theorem dX12_init_150 : decode cX12_init 150 = .ok (.sipush 245, 3) := by decide +kernel
theorem dX12_init_153 : decode cX12_init 153 = .ok (.newarray .boolean, 2) := by decide +kernel
theorem dX12_init_155 : decode cX12_init 155 = .ok (.putfield 70, 3) := by decide +kernel
theorem dX12_init_158 : decode cX12_init 158 = .ok (.aload_n 0, 1) := by decide +kernel
theorem dX12_init_159 : decode cX12_init 159 = .ok (.iconst 5, 1) := by decide +kernel
theorem dX12_init_160 : decode cX12_init 160 = .ok (.newarray .int, 2) := by decide +kernel
theorem dX12_init_162 : decode cX12_init 162 = .ok (.putfield 74, 3) := by decide +kernel
theorem dX12_init_165 : decode cX12_init 165 = .ok (.aload_n 0, 1) := by decide +kernel
theorem dX12_init_166 : decode cX12_init 166 = .ok (.iconst 5, 1) := by decide +kernel
theorem dX12_init_167 : decode cX12_init 167 = .ok (.newarray .int, 2) := by decide +kernel
theorem dX12_init_169 : decode cX12_init 169 = .ok (.putfield 77, 3) := by decide +kernel
theorem dX12_init_172 : decode cX12_init 172 = .ok (.aload_n 0, 1) := by decide +kernel
theorem dX12_init_173 : decode cX12_init 173 = .ok (.sipush 16384, 3) := by decide +kernel
theorem dX12_init_176 : decode cX12_init 176 = .ok (.newarray .short, 2) := by decide +kernel
theorem dX12_init_178 : decode cX12_init 178 = .ok (.putfield 80, 3) := by decide +kernel
theorem dX12_init_181 : decode cX12_init 181 = .ok (.aload_n 0, 1) := by decide +kernel
theorem dX12_init_182 : decode cX12_init 182 = .ok (.sipush 16384, 3) := by decide +kernel
theorem dX12_init_185 : decode cX12_init 185 = .ok (.newarray .short, 2) := by decide +kernel
theorem dX12_init_187 : decode cX12_init 187 = .ok (.putfield 83, 3) := by decide +kernel
theorem dX12_init_190 : decode cX12_init 190 = .ok (.aload_n 0, 1) := by decide +kernel
theorem dX12_init_191 : decode cX12_init 191 = .ok (.sipush 16384, 3) := by decide +kernel
theorem dX12_init_194 : decode cX12_init 194 = .ok (.newarray .byte, 2) := by decide +kernel
theorem dX12_init_196 : decode cX12_init 196 = .ok (.putfield 86, 3) := by decide +kernel
theorem dX12_init_199 : decode cX12_init 199 = .ok (.aload_n 0, 1) := by decide +kernel
theorem dX12_init_200 : decode cX12_init 200 = .ok (.bipush 50, 2) := by decide +kernel
theorem dX12_init_202 : decode cX12_init 202 = .ok (.newarray .int, 2) := by decide +kernel
theorem dX12_init_204 : decode cX12_init 204 = .ok (.putfield 89, 3) := by decide +kernel
theorem dX12_init_207 : decode cX12_init 207 = .ok (.aload_n 0, 1) := by decide +kernel
theorem dX12_init_208 : decode cX12_init 208 = .ok (.bipush 24, 2) := by decide +kernel
theorem dX12_init_210 : decode cX12_init 210 = .ok (.newarray .int, 2) := by decide +kernel
theorem dX12_init_212 : decode cX12_init 212 = .ok (.putfield 92, 3) := by decide +kernel
theorem dX12_init_215 : decode cX12_init 215 = .ok (.aload_n 0, 1) := by decide +kernel
theorem dX12_init_216 : decode cX12_init 216 = .ok (.bipush 6, 2) := by decide +kernel
theorem dX12_init_218 : decode cX12_init 218 = .ok (.newarray .int, 2) := by decide +kernel
theorem dX12_init_220 : decode cX12_init 220 = .ok (.dup, 1) := by decide +kernel
theorem dX12_init_221 : decode cX12_init 221 = .ok (.iconst 0, 1) := by decide +kernel
theorem dX12_init_222 : decode cX12_init 222 = .ok (.iconst (-1), 1) := by decide +kernel
theorem dX12_init_223 : decode cX12_init 223 = .ok (.iastore, 1) := by decide +kernel
theorem dX12_init_224 : decode cX12_init 224 = .ok (.dup, 1) := by decide +kernel
theorem dX12_init_225 : decode cX12_init 225 = .ok (.iconst 1, 1) := by decide +kernel
theorem dX12_init_226 : decode cX12_init 226 = .ok (.iconst (-1), 1) := by decide +kernel
theorem dX12_init_227 : decode cX12_init 227 = .ok (.iastore, 1) := by decide +kernel
theorem dX12_init_228 : decode cX12_init 228 = .ok (.dup, 1) := by decide +kernel
theorem dX12_init_229 : decode cX12_init 229 = .ok (.iconst 2, 1) := by decide +kernel
theorem dX12_init_230 : decode cX12_init 230 = .ok (.iconst (-1), 1) := by decide +kernel
theorem dX12_init_231 : decode cX12_init 231 = .ok (.iastore, 1) := by decide +kernel
theorem dX12_init_232 : decode cX12_init 232 = .ok (.dup, 1) := by decide +kernel
theorem dX12_init_233 : decode cX12_init 233 = .ok (.iconst 3, 1) := by decide +kernel
theorem dX12_init_234 : decode cX12_init 234 = .ok (.iconst (-1), 1) := by decide +kernel
theorem dX12_init_235 : decode cX12_init 235 = .ok (.iastore, 1) := by decide +kernel
theorem dX12_init_236 : decode cX12_init 236 = .ok (.dup, 1) := by decide +kernel
theorem dX12_init_237 : decode cX12_init 237 = .ok (.iconst 4, 1) := by decide +kernel
theorem dX12_init_238 : decode cX12_init 238 = .ok (.iconst (-1), 1) := by decide +kernel
theorem dX12_init_239 : decode cX12_init 239 = .ok (.iastore, 1) := by decide +kernel
theorem dX12_init_240 : decode cX12_init 240 = .ok (.dup, 1) := by decide +kernel
theorem dX12_init_241 : decode cX12_init 241 = .ok (.iconst 5, 1) := by decide +kernel
theorem dX12_init_242 : decode cX12_init 242 = .ok (.iconst (-1), 1) := by decide +kernel
theorem dX12_init_243 : decode cX12_init 243 = .ok (.iastore, 1) := by decide +kernel
theorem dX12_init_244 : decode cX12_init 244 = .ok (.putfield 95, 3) := by decide +kernel
theorem dX12_init_247 : decode cX12_init 247 = .ok (.aload_n 0, 1) := by decide +kernel
theorem dX12_init_248 : decode cX12_init 248 = .ok (.bipush 6, 2) := by decide +kernel
theorem dX12_init_250 : decode cX12_init 250 = .ok (.newarray .int, 2) := by decide +kernel
theorem dX12_init_252 : decode cX12_init 252 = .ok (.putfield 98, 3) := by decide +kernel
theorem dX12_init_255 : decode cX12_init 255 = .ok (.aload_n 0, 1) := by decide +kernel
theorem dX12_init_256 : decode cX12_init 256 = .ok (.sipush 360, 3) := by decide +kernel
theorem dX12_init_259 : decode cX12_init 259 = .ok (.newarray .long, 2) := by decide +kernel
theorem dX12_init_261 : decode cX12_init 261 = .ok (.putfield 101, 3) := by decide +kernel
theorem dX12_init_264 : decode cX12_init 264 = .ok (.aload_n 0, 1) := by decide +kernel
theorem dX12_init_265 : decode cX12_init 265 = .ok (.bipush 60, 2) := by decide +kernel
theorem dX12_init_267 : decode cX12_init 267 = .ok (.newarray .long, 2) := by decide +kernel
theorem dX12_init_269 : decode cX12_init 269 = .ok (.putfield 105, 3) := by decide +kernel
theorem dX12_init_272 : decode cX12_init 272 = .ok (.return_, 1) := by decide +kernel
theorem dX12_in_0 : decode cX12_in 0 = .ok (.iload_n 0, 1) := by decide +kernel
theorem dX12_in_1 : decode cX12_in 1 = .ok (.iload_n 1, 1) := by decide +kernel
theorem dX12_in_2 : decode cX12_in 2 = .ok (.if_icmp .lt 12, 3) := by decide +kernel
theorem dX12_in_5 : decode cX12_in 5 = .ok (.iload_n 0, 1) := by decide +kernel
theorem dX12_in_6 : decode cX12_in 6 = .ok (.iload_n 2, 1) := by decide +kernel
theorem dX12_in_7 : decode cX12_in 7 = .ok (.if_icmp .gt 7, 3) := by decide +kernel
theorem dX12_in_10 : decode cX12_in 10 = .ok (.iconst 1, 1) := by decide +kernel
theorem dX12_in_11 : decode cX12_in 11 = .ok (.goto 4, 3) := by decide +kernel
theorem dX12_in_14 : decode cX12_in 14 = .ok (.iconst 0, 1) := by decide +kernel
theorem dX12_in_15 : decode cX12_in 15 = .ok (.ireturn, 1) := by decide +kernel
theorem dX12_bitsOf_0 : decode cX12_bitsOf 0 = .ok (.iconst 0, 1) := by decide +kernel
theorem dX12_bitsOf_1 : decode cX12_bitsOf 1 = .ok (.istore_n 1, 1) := by decide +kernel
theorem dX12_bitsOf_2 : decode cX12_bitsOf 2 = .ok (.iload_n 0, 1) := by decide +kernel
theorem dX12_bitsOf_3 : decode cX12_bitsOf 3 = .ok (.istore_n 2, 1) := by decide +kernel
theorem dX12_bitsOf_4 : decode cX12_bitsOf 4 = .ok (.iload_n 2, 1) := by decide +kernel
theorem dX12_bitsOf_5 : decode cX12_bitsOf 5 = .ok (.ifCond .eq 15, 3) := by decide +kernel
theorem dX12_bitsOf_8 : decode cX12_bitsOf 8 = .ok (.iinc 1 1, 3) := by decide +kernel
theorem dX12_bitsOf_11 : decode cX12_bitsOf 11 = .ok (.iload_n 2, 1) := by decide +kernel
theorem dX12_bitsOf_12 : decode cX12_bitsOf 12 = .ok (.iload_n 2, 1) := by decide +kernel
theorem dX12_bitsOf_13 : decode cX12_bitsOf 13 = .ok (.iconst 1, 1) := by decide +kernel
theorem dX12_bitsOf_14 : decode cX12_bitsOf 14 = .ok (.isub, 1) := by decide +kernel
theorem dX12_bitsOf_15 : decode cX12_bitsOf 15 = .ok (.iand, 1) := by decide +kernel
theorem dX12_bitsOf_16 : decode cX12_bitsOf 16 = .ok (.istore_n 2, 1) := by decide +kernel
theorem dX12_bitsOf_17 : decode cX12_bitsOf 17 = .ok (.goto (-13), 3) := by decide +kernel
theorem dX12_bitsOf_20 : decode cX12_bitsOf 20 = .ok (.iload_n 1, 1) := by decide +kernel
theorem dX12_bitsOf_21 : decode cX12_bitsOf 21 = .ok (.ireturn, 1) := by decide +kernel
theorem dX12_isRoom_0 : decode cX12_isRoom 0 = .ok (.iload_n 1, 1) := by decide +kernel
theorem dX12_isRoom_1 : decode cX12_isRoom 1 = .ok (.iconst 0, 1) := by decide +kernel
theorem dX12_isRoom_2 : decode cX12_isRoom 2 = .ok (.aload_n 0, 1) := by decide +kernel
theorem dX12_isRoom_3 : decode cX12_isRoom 3 = .ok (.getfield 111, 3) := by decide +kernel
theorem dX12_isRoom_6 : decode cX12_isRoom 6 = .ok (.iconst 1, 1) := by decide +kernel
theorem dX12_isRoom_7 : decode cX12_isRoom 7 = .ok (.isub, 1) := by decide +kernel
theorem dX12_isRoom_8 : decode cX12_isRoom 8 = .ok (.invokestatic 114, 3) := by decide +kernel
theorem dX12_isRoom_11 : decode cX12_isRoom 11 = .ok (.ireturn, 1) := by decide +kernel
theorem dX12_isDoor_0 : decode cX12_isDoor 0 = .ok (.iload_n 1, 1) := by decide +kernel
theorem dX12_isDoor_1 : decode cX12_isDoor 1 = .ok (.iconst 0, 1) := by decide +kernel
theorem dX12_isDoor_2 : decode cX12_isDoor 2 = .ok (.aload_n 0, 1) := by decide +kernel
theorem dX12_isDoor_3 : decode cX12_isDoor 3 = .ok (.getfield 118, 3) := by decide +kernel
theorem dX12_isDoor_6 : decode cX12_isDoor 6 = .ok (.iconst 1, 1) := by decide +kernel
theorem dX12_isDoor_7 : decode cX12_isDoor 7 = .ok (.isub, 1) := by decide +kernel
theorem dX12_isDoor_8 : decode cX12_isDoor 8 = .ok (.invokestatic 114, 3) := by decide +kernel
theorem dX12_isDoor_11 : decode cX12_isDoor 11 = .ok (.ireturn, 1) := by decide +kernel
theorem dX12_isPerson_0 : decode cX12_isPerson 0 = .ok (.iload_n 1, 1) := by decide +kernel
theorem dX12_isPerson_1 : decode cX12_isPerson 1 = .ok (.iconst 0, 1) := by decide +kernel
theorem dX12_isPerson_2 : decode cX12_isPerson 2 = .ok (.aload_n 0, 1) := by decide +kernel
theorem dX12_isPerson_3 : decode cX12_isPerson 3 = .ok (.getfield 121, 3) := by decide +kernel
theorem dX12_isPerson_6 : decode cX12_isPerson 6 = .ok (.iconst 1, 1) := by decide +kernel
theorem dX12_isPerson_7 : decode cX12_isPerson 7 = .ok (.isub, 1) := by decide +kernel
theorem dX12_isPerson_8 : decode cX12_isPerson 8 = .ok (.invokestatic 114, 3) := by decide +kernel
theorem dX12_isPerson_11 : decode cX12_isPerson 11 = .ok (.ireturn, 1) := by decide +kernel
theorem dX12_roomIn_0 : decode cX12_roomIn 0 = .ok (.iload_n 0, 1) := by decide +kernel
theorem dX12_roomIn_1 : decode cX12_roomIn 1 = .ok (.iconst 2, 1) := by decide +kernel
theorem dX12_roomIn_2 : decode cX12_roomIn 2 = .ok (.iload_n 1, 1) := by decide +kernel
theorem dX12_roomIn_3 : decode cX12_roomIn 3 = .ok (.imul, 1) := by decide +kernel
theorem dX12_roomIn_4 : decode cX12_roomIn 4 = .ok (.ishr, 1) := by decide +kernel
theorem dX12_roomIn_5 : decode cX12_roomIn 5 = .ok (.iconst 3, 1) := by decide +kernel
theorem dX12_roomIn_6 : decode cX12_roomIn 6 = .ok (.iand, 1) := by decide +kernel
theorem dX12_roomIn_7 : decode cX12_roomIn 7 = .ok (.ireturn, 1) := by decide +kernel
theorem dX12_put1_0 : decode cX12_put1 0 = .ok (.iload_n 0, 1) := by decide +kernel
theorem dX12_put1_1 : decode cX12_put1 1 = .ok (.iconst 3, 1) := by decide +kernel
theorem dX12_put1_2 : decode cX12_put1 2 = .ok (.iconst 2, 1) := by decide +kernel
theorem dX12_put1_3 : decode cX12_put1 3 = .ok (.iload_n 1, 1) := by decide +kernel
theorem dX12_put1_4 : decode cX12_put1 4 = .ok (.imul, 1) := by decide +kernel
theorem dX12_put1_5 : decode cX12_put1 5 = .ok (.ishl, 1) := by decide +kernel
theorem dX12_put1_6 : decode cX12_put1 6 = .ok (.iconst (-1), 1) := by decide +kernel
theorem dX12_put1_7 : decode cX12_put1 7 = .ok (.ixor, 1) := by decide +kernel
theorem dX12_put1_8 : decode cX12_put1 8 = .ok (.iand, 1) := by decide +kernel
theorem dX12_put1_9 : decode cX12_put1 9 = .ok (.iload_n 2, 1) := by decide +kernel
theorem dX12_put1_10 : decode cX12_put1 10 = .ok (.iconst 2, 1) := by decide +kernel
theorem dX12_put1_11 : decode cX12_put1 11 = .ok (.iload_n 1, 1) := by decide +kernel
theorem dX12_put1_12 : decode cX12_put1 12 = .ok (.imul, 1) := by decide +kernel
theorem dX12_put1_13 : decode cX12_put1 13 = .ok (.ishl, 1) := by decide +kernel
theorem dX12_put1_14 : decode cX12_put1 14 = .ok (.ior, 1) := by decide +kernel
theorem dX12_put1_15 : decode cX12_put1 15 = .ok (.ireturn, 1) := by decide +kernel
theorem dX12_room_0 : decode cX12_room 0 = .ok (.aload_n 0, 1) := by decide +kernel
theorem dX12_room_1 : decode cX12_room 1 = .ok (.getfield 111, 3) := by decide +kernel
theorem dX12_room_4 : decode cX12_room 4 = .ok (.iconst 4, 1) := by decide +kernel
theorem dX12_room_5 : decode cX12_room 5 = .ok (.if_icmp .ne 6, 3) := by decide +kernel
theorem dX12_room_8 : decode cX12_room 8 = .ok (.bipush (-3), 2) := by decide +kernel
theorem dX12_room_10 : decode cX12_room 10 = .ok (.ireturn, 1) := by decide +kernel
theorem dX12_room_11 : decode cX12_room 11 = .ok (.aload_n 0, 1) := by decide +kernel
theorem dX12_room_12 : decode cX12_room 12 = .ok (.dup, 1) := by decide +kernel
theorem dX12_room_13 : decode cX12_room 13 = .ok (.getfield 111, 3) := by decide +kernel
theorem dX12_room_16 : decode cX12_room 16 = .ok (.iconst 1, 1) := by decide +kernel
theorem dX12_room_17 : decode cX12_room 17 = .ok (.iadd, 1) := by decide +kernel
theorem dX12_room_18 : decode cX12_room 18 = .ok (.putfield 111, 3) := by decide +kernel
theorem dX12_room_21 : decode cX12_room 21 = .ok (.aload_n 0, 1) := by decide +kernel
theorem dX12_room_22 : decode cX12_room 22 = .ok (.getfield 111, 3) := by decide +kernel
theorem dX12_room_25 : decode cX12_room 25 = .ok (.iconst 1, 1) := by decide +kernel
theorem dX12_room_26 : decode cX12_room 26 = .ok (.isub, 1) := by decide +kernel
theorem dX12_room_27 : decode cX12_room 27 = .ok (.ireturn, 1) := by decide +kernel
theorem dX12_door_0 : decode cX12_door 0 = .ok (.iload_n 1, 1) := by decide +kernel
theorem dX12_door_1 : decode cX12_door 1 = .ok (.ifCond .lt 45, 3) := by decide +kernel
theorem dX12_door_4 : decode cX12_door 4 = .ok (.aload_n 0, 1) := by decide +kernel
theorem dX12_door_5 : decode cX12_door 5 = .ok (.iload_n 1, 1) := by decide +kernel
theorem dX12_door_6 : decode cX12_door 6 = .ok (.bipush 10, 2) := by decide +kernel
theorem dX12_door_8 : decode cX12_door 8 = .ok (.idiv, 1) := by decide +kernel
theorem dX12_door_9 : decode cX12_door 9 = .ok (.invokevirtual 124, 3) := by decide +kernel
theorem dX12_door_12 : decode cX12_door 12 = .ok (.ifCond .eq 34, 3) := by decide +kernel
theorem dX12_door_15 : decode cX12_door 15 = .ok (.aload_n 0, 1) := by decide +kernel
theorem dX12_door_16 : decode cX12_door 16 = .ok (.iload_n 1, 1) := by decide +kernel
theorem dX12_door_17 : decode cX12_door 17 = .ok (.bipush 10, 2) := by decide +kernel
theorem dX12_door_19 : decode cX12_door 19 = .ok (.irem, 1) := by decide +kernel
theorem dX12_door_20 : decode cX12_door 20 = .ok (.invokevirtual 124, 3) := by decide +kernel
theorem dX12_door_23 : decode cX12_door 23 = .ok (.ifCond .eq 23, 3) := by decide +kernel
theorem dX12_door_26 : decode cX12_door 26 = .ok (.iload_n 1, 1) := by decide +kernel
theorem dX12_door_27 : decode cX12_door 27 = .ok (.bipush 10, 2) := by decide +kernel
theorem dX12_door_29 : decode cX12_door 29 = .ok (.idiv, 1) := by decide +kernel
theorem dX12_door_30 : decode cX12_door 30 = .ok (.iload_n 1, 1) := by decide +kernel
theorem dX12_door_31 : decode cX12_door 31 = .ok (.bipush 10, 2) := by decide +kernel
theorem dX12_door_33 : decode cX12_door 33 = .ok (.irem, 1) := by decide +kernel
theorem dX12_door_34 : decode cX12_door 34 = .ok (.if_icmp .eq 12, 3) := by decide +kernel
theorem dX12_door_37 : decode cX12_door 37 = .ok (.iload_n 2, 1) := by decide +kernel
theorem dX12_door_38 : decode cX12_door 38 = .ok (.iconst 0, 1) := by decide +kernel
theorem dX12_door_39 : decode cX12_door 39 = .ok (.iconst 2, 1) := by decide +kernel
theorem dX12_door_40 : decode cX12_door 40 = .ok (.invokestatic 114, 3) := by decide +kernel
theorem dX12_door_43 : decode cX12_door 43 = .ok (.ifCond .ne 5, 3) := by decide +kernel
theorem dX12_door_46 : decode cX12_door 46 = .ok (.iconst (-1), 1) := by decide +kernel
theorem dX12_door_47 : decode cX12_door 47 = .ok (.ireturn, 1) := by decide +kernel
theorem dX12_door_48 : decode cX12_door 48 = .ok (.aload_n 0, 1) := by decide +kernel
theorem dX12_door_49 : decode cX12_door 49 = .ok (.getfield 118, 3) := by decide +kernel
theorem dX12_door_52 : decode cX12_door 52 = .ok (.iconst 5, 1) := by decide +kernel
theorem dX12_door_53 : decode cX12_door 53 = .ok (.if_icmp .ne 6, 3) := by decide +kernel
theorem dX12_door_56 : decode cX12_door 56 = .ok (.bipush (-3), 2) := by decide +kernel
theorem dX12_door_58 : decode cX12_door 58 = .ok (.ireturn, 1) := by decide +kernel
theorem dX12_door_59 : decode cX12_door 59 = .ok (.aload_n 0, 1) := by decide +kernel
theorem dX12_door_60 : decode cX12_door 60 = .ok (.getfield 7, 3) := by decide +kernel
theorem dX12_door_63 : decode cX12_door 63 = .ok (.aload_n 0, 1) := by decide +kernel
theorem dX12_door_64 : decode cX12_door 64 = .ok (.getfield 118, 3) := by decide +kernel
theorem dX12_door_67 : decode cX12_door 67 = .ok (.iload_n 1, 1) := by decide +kernel
theorem dX12_door_68 : decode cX12_door 68 = .ok (.bipush 10, 2) := by decide +kernel
theorem dX12_door_70 : decode cX12_door 70 = .ok (.idiv, 1) := by decide +kernel
theorem dX12_door_71 : decode cX12_door 71 = .ok (.iastore, 1) := by decide +kernel
theorem dX12_door_72 : decode cX12_door 72 = .ok (.aload_n 0, 1) := by decide +kernel
theorem dX12_door_73 : decode cX12_door 73 = .ok (.getfield 13, 3) := by decide +kernel
theorem dX12_door_76 : decode cX12_door 76 = .ok (.aload_n 0, 1) := by decide +kernel
theorem dX12_door_77 : decode cX12_door 77 = .ok (.getfield 118, 3) := by decide +kernel
theorem dX12_door_80 : decode cX12_door 80 = .ok (.iload_n 1, 1) := by decide +kernel
theorem dX12_door_81 : decode cX12_door 81 = .ok (.bipush 10, 2) := by decide +kernel
theorem dX12_door_83 : decode cX12_door 83 = .ok (.irem, 1) := by decide +kernel
theorem dX12_door_84 : decode cX12_door 84 = .ok (.iastore, 1) := by decide +kernel
theorem dX12_door_85 : decode cX12_door 85 = .ok (.aload_n 0, 1) := by decide +kernel
theorem dX12_door_86 : decode cX12_door 86 = .ok (.getfield 16, 3) := by decide +kernel
theorem dX12_door_89 : decode cX12_door 89 = .ok (.aload_n 0, 1) := by decide +kernel
theorem dX12_door_90 : decode cX12_door 90 = .ok (.getfield 118, 3) := by decide +kernel
theorem dX12_door_93 : decode cX12_door 93 = .ok (.iload_n 2, 1) := by decide +kernel
theorem dX12_door_94 : decode cX12_door 94 = .ok (.iastore, 1) := by decide +kernel
theorem dX12_door_95 : decode cX12_door 95 = .ok (.aload_n 0, 1) := by decide +kernel
theorem dX12_door_96 : decode cX12_door 96 = .ok (.dup, 1) := by decide +kernel
theorem dX12_door_97 : decode cX12_door 97 = .ok (.getfield 118, 3) := by decide +kernel
theorem dX12_door_100 : decode cX12_door 100 = .ok (.iconst 1, 1) := by decide +kernel
theorem dX12_door_101 : decode cX12_door 101 = .ok (.iadd, 1) := by decide +kernel
theorem dX12_door_102 : decode cX12_door 102 = .ok (.putfield 118, 3) := by decide +kernel
theorem dX12_door_105 : decode cX12_door 105 = .ok (.aload_n 0, 1) := by decide +kernel
theorem dX12_door_106 : decode cX12_door 106 = .ok (.getfield 118, 3) := by decide +kernel
theorem dX12_door_109 : decode cX12_door 109 = .ok (.iconst 1, 1) := by decide +kernel
theorem dX12_door_110 : decode cX12_door 110 = .ok (.isub, 1) := by decide +kernel
theorem dX12_door_111 : decode cX12_door 111 = .ok (.ireturn, 1) := by decide +kernel
theorem dX12_addPerson_0 : decode cX12_addPerson 0 = .ok (.aload_n 0, 1) := by decide +kernel
theorem dX12_addPerson_1 : decode cX12_addPerson 1 = .ok (.getfield 19, 3) := by decide +kernel
theorem dX12_addPerson_4 : decode cX12_addPerson 4 = .ok (.aload_n 0, 1) := by decide +kernel
theorem dX12_addPerson_5 : decode cX12_addPerson 5 = .ok (.getfield 121, 3) := by decide +kernel
theorem dX12_addPerson_8 : decode cX12_addPerson 8 = .ok (.iload_n 1, 1) := by decide +kernel
theorem dX12_addPerson_9 : decode cX12_addPerson 9 = .ok (.iastore, 1) := by decide +kernel
theorem dX12_addPerson_10 : decode cX12_addPerson 10 = .ok (.aload_n 0, 1) := by decide +kernel
theorem dX12_addPerson_11 : decode cX12_addPerson 11 = .ok (.getfield 22, 3) := by decide +kernel
theorem dX12_addPerson_14 : decode cX12_addPerson 14 = .ok (.aload_n 0, 1) := by decide +kernel
theorem dX12_addPerson_15 : decode cX12_addPerson 15 = .ok (.getfield 121, 3) := by decide +kernel
theorem dX12_addPerson_18 : decode cX12_addPerson 18 = .ok (.iconst 0, 1) := by decide +kernel
theorem dX12_addPerson_19 : decode cX12_addPerson 19 = .ok (.iastore, 1) := by decide +kernel
theorem dX12_addPerson_20 : decode cX12_addPerson 20 = .ok (.aload_n 0, 1) := by decide +kernel
theorem dX12_addPerson_21 : decode cX12_addPerson 21 = .ok (.aload_n 0, 1) := by decide +kernel
theorem dX12_addPerson_22 : decode cX12_addPerson 22 = .ok (.getfield 128, 3) := by decide +kernel
theorem dX12_addPerson_25 : decode cX12_addPerson 25 = .ok (.aload_n 0, 1) := by decide +kernel
theorem dX12_addPerson_26 : decode cX12_addPerson 26 = .ok (.getfield 121, 3) := by decide +kernel
theorem dX12_addPerson_29 : decode cX12_addPerson 29 = .ok (.iload_n 2, 1) := by decide +kernel
theorem dX12_addPerson_30 : decode cX12_addPerson 30 = .ok (.invokestatic 131, 3) := by decide +kernel
theorem dX12_addPerson_33 : decode cX12_addPerson 33 = .ok (.putfield 128, 3) := by decide +kernel
theorem dX12_addPerson_36 : decode cX12_addPerson 36 = .ok (.aload_n 0, 1) := by decide +kernel
theorem dX12_addPerson_37 : decode cX12_addPerson 37 = .ok (.dup, 1) := by decide +kernel
theorem dX12_addPerson_38 : decode cX12_addPerson 38 = .ok (.getfield 121, 3) := by decide +kernel
theorem dX12_addPerson_41 : decode cX12_addPerson 41 = .ok (.iconst 1, 1) := by decide +kernel
theorem dX12_addPerson_42 : decode cX12_addPerson 42 = .ok (.iadd, 1) := by decide +kernel
theorem dX12_addPerson_43 : decode cX12_addPerson 43 = .ok (.putfield 121, 3) := by decide +kernel
theorem dX12_addPerson_46 : decode cX12_addPerson 46 = .ok (.aload_n 0, 1) := by decide +kernel
theorem dX12_addPerson_47 : decode cX12_addPerson 47 = .ok (.getfield 121, 3) := by decide +kernel
theorem dX12_addPerson_50 : decode cX12_addPerson 50 = .ok (.iconst 1, 1) := by decide +kernel
theorem dX12_addPerson_51 : decode cX12_addPerson 51 = .ok (.isub, 1) := by decide +kernel
theorem dX12_addPerson_52 : decode cX12_addPerson 52 = .ok (.ireturn, 1) := by decide +kernel
theorem dX12_person_0 : decode cX12_person 0 = .ok (.iload_n 1, 1) := by decide +kernel
theorem dX12_person_1 : decode cX12_person 1 = .ok (.iconst 1, 1) := by decide +kernel
theorem dX12_person_2 : decode cX12_person 2 = .ok (.bipush 99, 2) := by decide +kernel
theorem dX12_person_4 : decode cX12_person 4 = .ok (.invokestatic 114, 3) := by decide +kernel
theorem dX12_person_7 : decode cX12_person 7 = .ok (.ifCond .eq 11, 3) := by decide +kernel
theorem dX12_person_10 : decode cX12_person 10 = .ok (.aload_n 0, 1) := by decide +kernel
theorem dX12_person_11 : decode cX12_person 11 = .ok (.iload_n 2, 1) := by decide +kernel
theorem dX12_person_12 : decode cX12_person 12 = .ok (.invokevirtual 124, 3) := by decide +kernel
theorem dX12_person_15 : decode cX12_person 15 = .ok (.ifCond .ne 5, 3) := by decide +kernel
theorem dX12_person_18 : decode cX12_person 18 = .ok (.iconst (-1), 1) := by decide +kernel
theorem dX12_person_19 : decode cX12_person 19 = .ok (.ireturn, 1) := by decide +kernel
theorem dX12_person_20 : decode cX12_person 20 = .ok (.aload_n 0, 1) := by decide +kernel
theorem dX12_person_21 : decode cX12_person 21 = .ok (.getfield 121, 3) := by decide +kernel
theorem dX12_person_24 : decode cX12_person 24 = .ok (.bipush 7, 2) := by decide +kernel
theorem dX12_person_26 : decode cX12_person 26 = .ok (.if_icmp .ne 8, 3) := by decide +kernel
theorem dX12_person_29 : decode cX12_person 29 = .ok (.bipush (-3), 2) := by decide +kernel
theorem dX12_person_31 : decode cX12_person 31 = .ok (.goto 9, 3) := by decide +kernel
theorem dX12_person_34 : decode cX12_person 34 = .ok (.aload_n 0, 1) := by decide +kernel
theorem dX12_person_35 : decode cX12_person 35 = .ok (.iload_n 1, 1) := by decide +kernel
theorem dX12_person_36 : decode cX12_person 36 = .ok (.iload_n 2, 1) := by decide +kernel
theorem dX12_person_37 : decode cX12_person 37 = .ok (.invokevirtual 135, 3) := by decide +kernel
theorem dX12_person_40 : decode cX12_person 40 = .ok (.ireturn, 1) := by decide +kernel
theorem dX12_people_0 : decode cX12_people 0 = .ok (.iload_n 1, 1) := by decide +kernel
theorem dX12_people_1 : decode cX12_people 1 = .ok (.invokestatic 139, 3) := by decide +kernel
theorem dX12_people_4 : decode cX12_people 4 = .ok (.ifCond .eq 13, 3) := by decide +kernel
theorem dX12_people_7 : decode cX12_people 7 = .ok (.iload_n 3, 1) := by decide +kernel
theorem dX12_people_8 : decode cX12_people 8 = .ok (.iconst 1, 1) := by decide +kernel
theorem dX12_people_9 : decode cX12_people 9 = .ok (.bipush 7, 2) := by decide +kernel
theorem dX12_people_11 : decode cX12_people 11 = .ok (.invokestatic 114, 3) := by decide +kernel
theorem dX12_people_14 : decode cX12_people 14 = .ok (.ifCond .ne 5, 3) := by decide +kernel
theorem dX12_people_17 : decode cX12_people 17 = .ok (.iconst (-1), 1) := by decide +kernel
theorem dX12_people_18 : decode cX12_people 18 = .ok (.ireturn, 1) := by decide +kernel
theorem dX12_people_19 : decode cX12_people 19 = .ok (.aload_n 0, 1) := by decide +kernel
theorem dX12_people_20 : decode cX12_people 20 = .ok (.getfield 95, 3) := by decide +kernel
theorem dX12_people_23 : decode cX12_people 23 = .ok (.iload_n 1, 1) := by decide +kernel
theorem dX12_people_24 : decode cX12_people 24 = .ok (.iaload, 1) := by decide +kernel
theorem dX12_people_25 : decode cX12_people 25 = .ok (.iconst (-1), 1) := by decide +kernel
theorem dX12_people_26 : decode cX12_people 26 = .ok (.if_icmp .eq 17, 3) := by decide +kernel
theorem dX12_people_29 : decode cX12_people 29 = .ok (.aload_n 0, 1) := by decide +kernel
theorem dX12_people_30 : decode cX12_people 30 = .ok (.getfield 95, 3) := by decide +kernel
theorem dX12_people_33 : decode cX12_people 33 = .ok (.iload_n 1, 1) := by decide +kernel
theorem dX12_people_34 : decode cX12_people 34 = .ok (.iaload, 1) := by decide +kernel
theorem dX12_people_35 : decode cX12_people 35 = .ok (.bipush (-2), 2) := by decide +kernel
theorem dX12_people_37 : decode cX12_people 37 = .ok (.if_icmp .eq 6, 3) := by decide +kernel
theorem dX12_people_40 : decode cX12_people 40 = .ok (.bipush (-12), 2) := by decide +kernel
theorem dX12_people_42 : decode cX12_people 42 = .ok (.ireturn, 1) := by decide +kernel
theorem dX12_people_43 : decode cX12_people 43 = .ok (.aload_n 0, 1) := by decide +kernel
theorem dX12_people_44 : decode cX12_people 44 = .ok (.getfield 95, 3) := by decide +kernel
theorem dX12_people_47 : decode cX12_people 47 = .ok (.iload_n 1, 1) := by decide +kernel
theorem dX12_people_48 : decode cX12_people 48 = .ok (.iaload, 1) := by decide +kernel
theorem dX12_people_49 : decode cX12_people 49 = .ok (.iconst (-1), 1) := by decide +kernel
theorem dX12_people_50 : decode cX12_people 50 = .ok (.if_icmp .ne 5, 3) := by decide +kernel
theorem dX12_people_53 : decode cX12_people 53 = .ok (.iconst 0, 1) := by decide +kernel
theorem dX12_people_54 : decode cX12_people 54 = .ok (.ireturn, 1) := by decide +kernel
theorem dX12_people_55 : decode cX12_people 55 = .ok (.iconst 0, 1) := by decide +kernel
theorem dX12_people_56 : decode cX12_people 56 = .ok (.istore 4, 2) := by decide +kernel
theorem dX12_people_58 : decode cX12_people 58 = .ok (.iload 4, 2) := by decide +kernel
theorem dX12_people_60 : decode cX12_people 60 = .ok (.iload_n 3, 1) := by decide +kernel
theorem dX12_people_61 : decode cX12_people 61 = .ok (.if_icmp .ge 123, 3) := by decide +kernel
theorem dX12_people_64 : decode cX12_people 64 = .ok (.iload_n 2, 1) := by decide +kernel
theorem dX12_people_65 : decode cX12_people 65 = .ok (.i2l, 1) := by decide +kernel
theorem dX12_people_66 : decode cX12_people 66 = .ok (.iconst 2, 1) := by decide +kernel
theorem dX12_people_67 : decode cX12_people 67 = .ok (.iload 4, 2) := by decide +kernel
theorem dX12_people_69 : decode cX12_people 69 = .ok (.imul, 1) := by decide +kernel
theorem dX12_people_70 : decode cX12_people 70 = .ok (.i2l, 1) := by decide +kernel
theorem dX12_people_71 : decode cX12_people 71 = .ok (.ladd, 1) := by decide +kernel
theorem dX12_people_72 : decode cX12_people 72 = .ok (.lstore 5, 2) := by decide +kernel
theorem dX12_people_74 : decode cX12_people 74 = .ok (.lload 5, 2) := by decide +kernel
theorem dX12_people_76 : decode cX12_people 76 = .ok (.lconst 0, 1) := by decide +kernel
theorem dX12_people_77 : decode cX12_people 77 = .ok (.lcmp, 1) := by decide +kernel
theorem dX12_people_78 : decode cX12_people 78 = .ok (.ifCond .lt 27, 3) := by decide +kernel
theorem dX12_people_81 : decode cX12_people 81 = .ok (.lload 5, 2) := by decide +kernel
theorem dX12_people_83 : decode cX12_people 83 = .ok (.lconst 1, 1) := by decide +kernel
theorem dX12_people_84 : decode cX12_people 84 = .ok (.ladd, 1) := by decide +kernel
theorem dX12_people_85 : decode cX12_people 85 = .ok (.aload_n 0, 1) := by decide +kernel
theorem dX12_people_86 : decode cX12_people 86 = .ok (.getfield 98, 3) := by decide +kernel
theorem dX12_people_89 : decode cX12_people 89 = .ok (.iload_n 1, 1) := by decide +kernel
theorem dX12_people_90 : decode cX12_people 90 = .ok (.iaload, 1) := by decide +kernel
theorem dX12_people_91 : decode cX12_people 91 = .ok (.i2l, 1) := by decide +kernel
theorem dX12_people_92 : decode cX12_people 92 = .ok (.lcmp, 1) := by decide +kernel
theorem dX12_people_93 : decode cX12_people 93 = .ok (.ifCond .ge 12, 3) := by decide +kernel
theorem dX12_people_96 : decode cX12_people 96 = .ok (.aload_n 0, 1) := by decide +kernel
theorem dX12_people_97 : decode cX12_people 97 = .ok (.getfield 121, 3) := by decide +kernel
theorem dX12_people_100 : decode cX12_people 100 = .ok (.bipush 7, 2) := by decide +kernel
theorem dX12_people_102 : decode cX12_people 102 = .ok (.if_icmp .ne 6, 3) := by decide +kernel
theorem dX12_people_105 : decode cX12_people 105 = .ok (.iload 4, 2) := by decide +kernel
theorem dX12_people_107 : decode cX12_people 107 = .ok (.ireturn, 1) := by decide +kernel
theorem dX12_people_108 : decode cX12_people 108 = .ok (.bipush 60, 2) := by decide +kernel
theorem dX12_people_110 : decode cX12_people 110 = .ok (.iload_n 1, 1) := by decide +kernel
theorem dX12_people_111 : decode cX12_people 111 = .ok (.imul, 1) := by decide +kernel
theorem dX12_people_112 : decode cX12_people 112 = .ok (.lload 5, 2) := by decide +kernel
theorem dX12_people_114 : decode cX12_people 114 = .ok (.l2i, 1) := by decide +kernel
theorem dX12_people_115 : decode cX12_people 115 = .ok (.iadd, 1) := by decide +kernel
theorem dX12_people_116 : decode cX12_people 116 = .ok (.istore 7, 2) := by decide +kernel
theorem dX12_people_118 : decode cX12_people 118 = .ok (.aload_n 0, 1) := by decide +kernel
theorem dX12_people_119 : decode cX12_people 119 = .ok (.getfield 101, 3) := by decide +kernel
theorem dX12_people_122 : decode cX12_people 122 = .ok (.iload 7, 2) := by decide +kernel
theorem dX12_people_124 : decode cX12_people 124 = .ok (.laload, 1) := by decide +kernel
theorem dX12_people_125 : decode cX12_people 125 = .ok (.l2i, 1) := by decide +kernel
theorem dX12_people_126 : decode cX12_people 126 = .ok (.iconst 1, 1) := by decide +kernel
theorem dX12_people_127 : decode cX12_people 127 = .ok (.bipush 99, 2) := by decide +kernel
theorem dX12_people_129 : decode cX12_people 129 = .ok (.invokestatic 114, 3) := by decide +kernel
theorem dX12_people_132 : decode cX12_people 132 = .ok (.ifCond .eq 20, 3) := by decide +kernel
theorem dX12_people_135 : decode cX12_people 135 = .ok (.aload_n 0, 1) := by decide +kernel
theorem dX12_people_136 : decode cX12_people 136 = .ok (.aload_n 0, 1) := by decide +kernel
theorem dX12_people_137 : decode cX12_people 137 = .ok (.getfield 101, 3) := by decide +kernel
theorem dX12_people_140 : decode cX12_people 140 = .ok (.iload 7, 2) := by decide +kernel
theorem dX12_people_142 : decode cX12_people 142 = .ok (.iconst 1, 1) := by decide +kernel
theorem dX12_people_143 : decode cX12_people 143 = .ok (.iadd, 1) := by decide +kernel
theorem dX12_people_144 : decode cX12_people 144 = .ok (.laload, 1) := by decide +kernel
theorem dX12_people_145 : decode cX12_people 145 = .ok (.l2i, 1) := by decide +kernel
theorem dX12_people_146 : decode cX12_people 146 = .ok (.invokevirtual 124, 3) := by decide +kernel
theorem dX12_people_149 : decode cX12_people 149 = .ok (.ifCond .ne 6, 3) := by decide +kernel
theorem dX12_people_152 : decode cX12_people 152 = .ok (.iload 4, 2) := by decide +kernel
theorem dX12_people_154 : decode cX12_people 154 = .ok (.ireturn, 1) := by decide +kernel
theorem dX12_people_155 : decode cX12_people 155 = .ok (.aload_n 0, 1) := by decide +kernel
theorem dX12_people_156 : decode cX12_people 156 = .ok (.aload_n 0, 1) := by decide +kernel
theorem dX12_people_157 : decode cX12_people 157 = .ok (.getfield 101, 3) := by decide +kernel
theorem dX12_people_160 : decode cX12_people 160 = .ok (.iload 7, 2) := by decide +kernel
theorem dX12_people_162 : decode cX12_people 162 = .ok (.laload, 1) := by decide +kernel
theorem dX12_people_163 : decode cX12_people 163 = .ok (.l2i, 1) := by decide +kernel
theorem dX12_people_164 : decode cX12_people 164 = .ok (.aload_n 0, 1) := by decide +kernel
theorem dX12_people_165 : decode cX12_people 165 = .ok (.getfield 101, 3) := by decide +kernel
theorem dX12_people_168 : decode cX12_people 168 = .ok (.iload 7, 2) := by decide +kernel
theorem dX12_people_170 : decode cX12_people 170 = .ok (.iconst 1, 1) := by decide +kernel
theorem dX12_people_171 : decode cX12_people 171 = .ok (.iadd, 1) := by decide +kernel
theorem dX12_people_172 : decode cX12_people 172 = .ok (.laload, 1) := by decide +kernel
theorem dX12_people_173 : decode cX12_people 173 = .ok (.l2i, 1) := by decide +kernel
theorem dX12_people_174 : decode cX12_people 174 = .ok (.invokevirtual 135, 3) := by decide +kernel
theorem dX12_people_177 : decode cX12_people 177 = .ok (.pop, 1) := by decide +kernel
theorem dX12_people_178 : decode cX12_people 178 = .ok (.iinc 4 1, 3) := by decide +kernel
theorem dX12_people_181 : decode cX12_people 181 = .ok (.goto (-123), 3) := by decide +kernel
theorem dX12_people_184 : decode cX12_people 184 = .ok (.iload_n 3, 1) := by decide +kernel
theorem dX12_people_185 : decode cX12_people 185 = .ok (.ireturn, 1) := by decide +kernel
theorem dX12_valueAt_0 : decode cX12_valueAt 0 = .ok (.iload_n 1, 1) := by decide +kernel
theorem dX12_valueAt_1 : decode cX12_valueAt 1 = .ok (.ifCond .ne 12, 3) := by decide +kernel
theorem dX12_valueAt_4 : decode cX12_valueAt 4 = .ok (.aload_n 0, 1) := by decide +kernel
theorem dX12_valueAt_5 : decode cX12_valueAt 5 = .ok (.getfield 19, 3) := by decide +kernel
theorem dX12_valueAt_8 : decode cX12_valueAt 8 = .ok (.iload_n 2, 1) := by decide +kernel
theorem dX12_valueAt_9 : decode cX12_valueAt 9 = .ok (.iaload, 1) := by decide +kernel
theorem dX12_valueAt_10 : decode cX12_valueAt 10 = .ok (.goto 35, 3) := by decide +kernel
theorem dX12_valueAt_13 : decode cX12_valueAt 13 = .ok (.iload_n 1, 1) := by decide +kernel
theorem dX12_valueAt_14 : decode cX12_valueAt 14 = .ok (.iconst 1, 1) := by decide +kernel
theorem dX12_valueAt_15 : decode cX12_valueAt 15 = .ok (.if_icmp .ne 12, 3) := by decide +kernel
theorem dX12_valueAt_18 : decode cX12_valueAt 18 = .ok (.aload_n 0, 1) := by decide +kernel
theorem dX12_valueAt_19 : decode cX12_valueAt 19 = .ok (.getfield 22, 3) := by decide +kernel
theorem dX12_valueAt_22 : decode cX12_valueAt 22 = .ok (.iload_n 2, 1) := by decide +kernel
theorem dX12_valueAt_23 : decode cX12_valueAt 23 = .ok (.iaload, 1) := by decide +kernel
theorem dX12_valueAt_24 : decode cX12_valueAt 24 = .ok (.goto 21, 3) := by decide +kernel
theorem dX12_valueAt_27 : decode cX12_valueAt 27 = .ok (.iload_n 1, 1) := by decide +kernel
theorem dX12_valueAt_28 : decode cX12_valueAt 28 = .ok (.iconst 2, 1) := by decide +kernel
theorem dX12_valueAt_29 : decode cX12_valueAt 29 = .ok (.if_icmp .ne 12, 3) := by decide +kernel
theorem dX12_valueAt_32 : decode cX12_valueAt 32 = .ok (.aload_n 0, 1) := by decide +kernel
theorem dX12_valueAt_33 : decode cX12_valueAt 33 = .ok (.getfield 16, 3) := by decide +kernel
theorem dX12_valueAt_36 : decode cX12_valueAt 36 = .ok (.iload_n 2, 1) := by decide +kernel
theorem dX12_valueAt_37 : decode cX12_valueAt 37 = .ok (.iaload, 1) := by decide +kernel
theorem dX12_valueAt_38 : decode cX12_valueAt 38 = .ok (.goto 7, 3) := by decide +kernel
theorem dX12_valueAt_41 : decode cX12_valueAt 41 = .ok (.aload_n 0, 1) := by decide +kernel
theorem dX12_valueAt_42 : decode cX12_valueAt 42 = .ok (.getfield 29, 3) := by decide +kernel
theorem dX12_valueAt_45 : decode cX12_valueAt 45 = .ok (.ireturn, 1) := by decide +kernel
theorem dX12_lays_0 : decode cX12_lays 0 = .ok (.iload_n 1, 1) := by decide +kernel
theorem dX12_lays_1 : decode cX12_lays 1 = .ok (.ifCond .ne 13, 3) := by decide +kernel
theorem dX12_lays_4 : decode cX12_lays 4 = .ok (.aload_n 0, 1) := by decide +kernel
theorem dX12_lays_5 : decode cX12_lays 5 = .ok (.getfield 19, 3) := by decide +kernel
theorem dX12_lays_8 : decode cX12_lays 8 = .ok (.iload_n 2, 1) := by decide +kernel
theorem dX12_lays_9 : decode cX12_lays 9 = .ok (.iload_n 3, 1) := by decide +kernel
theorem dX12_lays_10 : decode cX12_lays 10 = .ok (.iastore, 1) := by decide +kernel
theorem dX12_lays_11 : decode cX12_lays 11 = .ok (.goto 38, 3) := by decide +kernel
theorem dX12_lays_14 : decode cX12_lays 14 = .ok (.iload_n 1, 1) := by decide +kernel
theorem dX12_lays_15 : decode cX12_lays 15 = .ok (.iconst 1, 1) := by decide +kernel
theorem dX12_lays_16 : decode cX12_lays 16 = .ok (.if_icmp .ne 13, 3) := by decide +kernel
theorem dX12_lays_19 : decode cX12_lays 19 = .ok (.aload_n 0, 1) := by decide +kernel
theorem dX12_lays_20 : decode cX12_lays 20 = .ok (.getfield 22, 3) := by decide +kernel
theorem dX12_lays_23 : decode cX12_lays 23 = .ok (.iload_n 2, 1) := by decide +kernel
theorem dX12_lays_24 : decode cX12_lays 24 = .ok (.iload_n 3, 1) := by decide +kernel
theorem dX12_lays_25 : decode cX12_lays 25 = .ok (.iastore, 1) := by decide +kernel
theorem dX12_lays_26 : decode cX12_lays 26 = .ok (.goto 23, 3) := by decide +kernel
theorem dX12_lays_29 : decode cX12_lays 29 = .ok (.iload_n 1, 1) := by decide +kernel
theorem dX12_lays_30 : decode cX12_lays 30 = .ok (.iconst 2, 1) := by decide +kernel
theorem dX12_lays_31 : decode cX12_lays 31 = .ok (.if_icmp .ne 13, 3) := by decide +kernel
theorem dX12_lays_34 : decode cX12_lays 34 = .ok (.aload_n 0, 1) := by decide +kernel
theorem dX12_lays_35 : decode cX12_lays 35 = .ok (.getfield 16, 3) := by decide +kernel
theorem dX12_lays_38 : decode cX12_lays 38 = .ok (.iload_n 2, 1) := by decide +kernel
theorem dX12_lays_39 : decode cX12_lays 39 = .ok (.iload_n 3, 1) := by decide +kernel
theorem dX12_lays_40 : decode cX12_lays 40 = .ok (.iastore, 1) := by decide +kernel
theorem dX12_lays_41 : decode cX12_lays 41 = .ok (.goto 8, 3) := by decide +kernel
theorem dX12_lays_44 : decode cX12_lays 44 = .ok (.aload_n 0, 1) := by decide +kernel
theorem dX12_lays_45 : decode cX12_lays 45 = .ok (.iload_n 3, 1) := by decide +kernel
theorem dX12_lays_46 : decode cX12_lays 46 = .ok (.putfield 29, 3) := by decide +kernel
theorem dX12_lays_49 : decode cX12_lays 49 = .ok (.return_, 1) := by decide +kernel
theorem dX12_become_0 : decode cX12_become 0 = .ok (.aload_n 0, 1) := by decide +kernel
theorem dX12_become_1 : decode cX12_become 1 = .ok (.iload_n 1, 1) := by decide +kernel
theorem dX12_become_2 : decode cX12_become 2 = .ok (.iload_n 2, 1) := by decide +kernel
theorem dX12_become_3 : decode cX12_become 3 = .ok (.invokevirtual 142, 3) := by decide +kernel
theorem dX12_become_6 : decode cX12_become 6 = .ok (.istore 4, 2) := by decide +kernel
theorem dX12_become_8 : decode cX12_become 8 = .ok (.iload 4, 2) := by decide +kernel
theorem dX12_become_10 : decode cX12_become 10 = .ok (.iload_n 3, 1) := by decide +kernel
theorem dX12_become_11 : decode cX12_become 11 = .ok (.if_icmp .ne 6, 3) := by decide +kernel
theorem dX12_become_14 : decode cX12_become 14 = .ok (.iload 4, 2) := by decide +kernel
theorem dX12_become_16 : decode cX12_become 16 = .ok (.ireturn, 1) := by decide +kernel
theorem dX12_become_17 : decode cX12_become 17 = .ok (.aload_n 0, 1) := by decide +kernel
theorem dX12_become_18 : decode cX12_become 18 = .ok (.iconst 0, 1) := by decide +kernel
theorem dX12_become_19 : decode cX12_become 19 = .ok (.putfield 145, 3) := by decide +kernel
theorem dX12_become_22 : decode cX12_become 22 = .ok (.aload_n 0, 1) := by decide +kernel
theorem dX12_become_23 : decode cX12_become 23 = .ok (.getfield 148, 3) := by decide +kernel
theorem dX12_become_26 : decode cX12_become 26 = .ok (.bipush 40, 2) := by decide +kernel
theorem dX12_become_28 : decode cX12_become 28 = .ok (.if_icmp .ne 93, 3) := by decide +kernel
theorem dX12_become_31 : decode cX12_become 31 = .ok (.iconst 1, 1) := by decide +kernel
theorem dX12_become_32 : decode cX12_become 32 = .ok (.istore 5, 2) := by decide +kernel
theorem dX12_become_34 : decode cX12_become 34 = .ok (.iload 5, 2) := by decide +kernel
theorem dX12_become_36 : decode cX12_become 36 = .ok (.bipush 40, 2) := by decide +kernel
theorem dX12_become_38 : decode cX12_become 38 = .ok (.if_icmp .ge 73, 3) := by decide +kernel
theorem dX12_become_41 : decode cX12_become 41 = .ok (.aload_n 0, 1) := by decide +kernel
theorem dX12_become_42 : decode cX12_become 42 = .ok (.getfield 32, 3) := by decide +kernel
theorem dX12_become_45 : decode cX12_become 45 = .ok (.iload 5, 2) := by decide +kernel
theorem dX12_become_47 : decode cX12_become 47 = .ok (.iconst 1, 1) := by decide +kernel
theorem dX12_become_48 : decode cX12_become 48 = .ok (.isub, 1) := by decide +kernel
theorem dX12_become_49 : decode cX12_become 49 = .ok (.aload_n 0, 1) := by decide +kernel
theorem dX12_become_50 : decode cX12_become 50 = .ok (.getfield 32, 3) := by decide +kernel
theorem dX12_become_53 : decode cX12_become 53 = .ok (.iload 5, 2) := by decide +kernel
theorem dX12_become_55 : decode cX12_become 55 = .ok (.iaload, 1) := by decide +kernel
theorem dX12_become_56 : decode cX12_become 56 = .ok (.iastore, 1) := by decide +kernel
theorem dX12_become_57 : decode cX12_become 57 = .ok (.aload_n 0, 1) := by decide +kernel
theorem dX12_become_58 : decode cX12_become 58 = .ok (.getfield 35, 3) := by decide +kernel
theorem dX12_become_61 : decode cX12_become 61 = .ok (.iload 5, 2) := by decide +kernel
theorem dX12_become_63 : decode cX12_become 63 = .ok (.iconst 1, 1) := by decide +kernel
theorem dX12_become_64 : decode cX12_become 64 = .ok (.isub, 1) := by decide +kernel
theorem dX12_become_65 : decode cX12_become 65 = .ok (.aload_n 0, 1) := by decide +kernel
theorem dX12_become_66 : decode cX12_become 66 = .ok (.getfield 35, 3) := by decide +kernel
theorem dX12_become_69 : decode cX12_become 69 = .ok (.iload 5, 2) := by decide +kernel
theorem dX12_become_71 : decode cX12_become 71 = .ok (.iaload, 1) := by decide +kernel
theorem dX12_become_72 : decode cX12_become 72 = .ok (.iastore, 1) := by decide +kernel
theorem dX12_become_73 : decode cX12_become 73 = .ok (.aload_n 0, 1) := by decide +kernel
theorem dX12_become_74 : decode cX12_become 74 = .ok (.getfield 38, 3) := by decide +kernel
theorem dX12_become_77 : decode cX12_become 77 = .ok (.iload 5, 2) := by decide +kernel
theorem dX12_become_79 : decode cX12_become 79 = .ok (.iconst 1, 1) := by decide +kernel
theorem dX12_become_80 : decode cX12_become 80 = .ok (.isub, 1) := by decide +kernel
theorem dX12_become_81 : decode cX12_become 81 = .ok (.aload_n 0, 1) := by decide +kernel
theorem dX12_become_82 : decode cX12_become 82 = .ok (.getfield 38, 3) := by decide +kernel
theorem dX12_become_85 : decode cX12_become 85 = .ok (.iload 5, 2) := by decide +kernel
theorem dX12_become_87 : decode cX12_become 87 = .ok (.iaload, 1) := by decide +kernel
theorem dX12_become_88 : decode cX12_become 88 = .ok (.iastore, 1) := by decide +kernel
theorem dX12_become_89 : decode cX12_become 89 = .ok (.aload_n 0, 1) := by decide +kernel
theorem dX12_become_90 : decode cX12_become 90 = .ok (.getfield 41, 3) := by decide +kernel
theorem dX12_become_93 : decode cX12_become 93 = .ok (.iload 5, 2) := by decide +kernel
theorem dX12_become_95 : decode cX12_become 95 = .ok (.iconst 1, 1) := by decide +kernel
theorem dX12_become_96 : decode cX12_become 96 = .ok (.isub, 1) := by decide +kernel
theorem dX12_become_97 : decode cX12_become 97 = .ok (.aload_n 0, 1) := by decide +kernel
theorem dX12_become_98 : decode cX12_become 98 = .ok (.getfield 41, 3) := by decide +kernel
theorem dX12_become_101 : decode cX12_become 101 = .ok (.iload 5, 2) := by decide +kernel
theorem dX12_become_103 : decode cX12_become 103 = .ok (.iaload, 1) := by decide +kernel
theorem dX12_become_104 : decode cX12_become 104 = .ok (.iastore, 1) := by decide +kernel
theorem dX12_become_105 : decode cX12_become 105 = .ok (.iinc 5 1, 3) := by decide +kernel
theorem dX12_become_108 : decode cX12_become 108 = .ok (.goto (-74), 3) := by decide +kernel
theorem dX12_become_111 : decode cX12_become 111 = .ok (.aload_n 0, 1) := by decide +kernel
theorem dX12_become_112 : decode cX12_become 112 = .ok (.dup, 1) := by decide +kernel
theorem dX12_become_113 : decode cX12_become 113 = .ok (.getfield 148, 3) := by decide +kernel
theorem dX12_become_116 : decode cX12_become 116 = .ok (.iconst 1, 1) := by decide +kernel
theorem dX12_become_117 : decode cX12_become 117 = .ok (.isub, 1) := by decide +kernel
theorem dX12_become_118 : decode cX12_become 118 = .ok (.putfield 148, 3) := by decide +kernel
theorem dX12_become_121 : decode cX12_become 121 = .ok (.aload_n 0, 1) := by decide +kernel
theorem dX12_become_122 : decode cX12_become 122 = .ok (.getfield 32, 3) := by decide +kernel
theorem dX12_become_125 : decode cX12_become 125 = .ok (.aload_n 0, 1) := by decide +kernel
theorem dX12_become_126 : decode cX12_become 126 = .ok (.getfield 148, 3) := by decide +kernel
theorem dX12_become_129 : decode cX12_become 129 = .ok (.iload_n 1, 1) := by decide +kernel
theorem dX12_become_130 : decode cX12_become 130 = .ok (.iastore, 1) := by decide +kernel
theorem dX12_become_131 : decode cX12_become 131 = .ok (.aload_n 0, 1) := by decide +kernel
theorem dX12_become_132 : decode cX12_become 132 = .ok (.getfield 35, 3) := by decide +kernel
theorem dX12_become_135 : decode cX12_become 135 = .ok (.aload_n 0, 1) := by decide +kernel
theorem dX12_become_136 : decode cX12_become 136 = .ok (.getfield 148, 3) := by decide +kernel
theorem dX12_become_139 : decode cX12_become 139 = .ok (.iload_n 2, 1) := by decide +kernel
theorem dX12_become_140 : decode cX12_become 140 = .ok (.iastore, 1) := by decide +kernel
theorem dX12_become_141 : decode cX12_become 141 = .ok (.aload_n 0, 1) := by decide +kernel
theorem dX12_become_142 : decode cX12_become 142 = .ok (.getfield 38, 3) := by decide +kernel
theorem dX12_become_145 : decode cX12_become 145 = .ok (.aload_n 0, 1) := by decide +kernel
theorem dX12_become_146 : decode cX12_become 146 = .ok (.getfield 148, 3) := by decide +kernel
theorem dX12_become_149 : decode cX12_become 149 = .ok (.iload 4, 2) := by decide +kernel
theorem dX12_become_151 : decode cX12_become 151 = .ok (.iastore, 1) := by decide +kernel
theorem dX12_become_152 : decode cX12_become 152 = .ok (.aload_n 0, 1) := by decide +kernel
theorem dX12_become_153 : decode cX12_become 153 = .ok (.getfield 41, 3) := by decide +kernel
theorem dX12_become_156 : decode cX12_become 156 = .ok (.aload_n 0, 1) := by decide +kernel
theorem dX12_become_157 : decode cX12_become 157 = .ok (.getfield 148, 3) := by decide +kernel
theorem dX12_become_160 : decode cX12_become 160 = .ok (.iload_n 3, 1) := by decide +kernel
theorem dX12_become_161 : decode cX12_become 161 = .ok (.iastore, 1) := by decide +kernel
theorem dX12_become_162 : decode cX12_become 162 = .ok (.aload_n 0, 1) := by decide +kernel
theorem dX12_become_163 : decode cX12_become 163 = .ok (.dup, 1) := by decide +kernel
theorem dX12_become_164 : decode cX12_become 164 = .ok (.getfield 148, 3) := by decide +kernel
theorem dX12_become_167 : decode cX12_become 167 = .ok (.iconst 1, 1) := by decide +kernel
theorem dX12_become_168 : decode cX12_become 168 = .ok (.iadd, 1) := by decide +kernel
theorem dX12_become_169 : decode cX12_become 169 = .ok (.putfield 148, 3) := by decide +kernel
theorem dX12_become_172 : decode cX12_become 172 = .ok (.aload_n 0, 1) := by decide +kernel
theorem dX12_become_173 : decode cX12_become 173 = .ok (.iload_n 1, 1) := by decide +kernel
theorem dX12_become_174 : decode cX12_become 174 = .ok (.iload_n 2, 1) := by decide +kernel
theorem dX12_become_175 : decode cX12_become 175 = .ok (.iload_n 3, 1) := by decide +kernel
theorem dX12_become_176 : decode cX12_become 176 = .ok (.invokevirtual 151, 3) := by decide +kernel
theorem dX12_become_179 : decode cX12_become 179 = .ok (.iload 4, 2) := by decide +kernel
theorem dX12_become_181 : decode cX12_become 181 = .ok (.ireturn, 1) := by decide +kernel
theorem dX12_undo_0 : decode cX12_undo 0 = .ok (.aload_n 0, 1) := by decide +kernel
theorem dX12_undo_1 : decode cX12_undo 1 = .ok (.getfield 148, 3) := by decide +kernel
theorem dX12_undo_4 : decode cX12_undo 4 = .ok (.ifCond .ne 6, 3) := by decide +kernel
theorem dX12_undo_7 : decode cX12_undo 7 = .ok (.bipush (-5), 2) := by decide +kernel
theorem dX12_undo_9 : decode cX12_undo 9 = .ok (.ireturn, 1) := by decide +kernel
theorem dX12_undo_10 : decode cX12_undo 10 = .ok (.aload_n 0, 1) := by decide +kernel
theorem dX12_undo_11 : decode cX12_undo 11 = .ok (.dup, 1) := by decide +kernel
theorem dX12_undo_12 : decode cX12_undo 12 = .ok (.getfield 148, 3) := by decide +kernel
theorem dX12_undo_15 : decode cX12_undo 15 = .ok (.iconst 1, 1) := by decide +kernel
theorem dX12_undo_16 : decode cX12_undo 16 = .ok (.isub, 1) := by decide +kernel
theorem dX12_undo_17 : decode cX12_undo 17 = .ok (.putfield 148, 3) := by decide +kernel
theorem dX12_undo_20 : decode cX12_undo 20 = .ok (.aload_n 0, 1) := by decide +kernel
theorem dX12_undo_21 : decode cX12_undo 21 = .ok (.dup, 1) := by decide +kernel
theorem dX12_undo_22 : decode cX12_undo 22 = .ok (.getfield 145, 3) := by decide +kernel
theorem dX12_undo_25 : decode cX12_undo 25 = .ok (.iconst 1, 1) := by decide +kernel
theorem dX12_undo_26 : decode cX12_undo 26 = .ok (.iadd, 1) := by decide +kernel
theorem dX12_undo_27 : decode cX12_undo 27 = .ok (.putfield 145, 3) := by decide +kernel
theorem dX12_undo_30 : decode cX12_undo 30 = .ok (.aload_n 0, 1) := by decide +kernel
theorem dX12_undo_31 : decode cX12_undo 31 = .ok (.aload_n 0, 1) := by decide +kernel
theorem dX12_undo_32 : decode cX12_undo 32 = .ok (.getfield 32, 3) := by decide +kernel
theorem dX12_undo_35 : decode cX12_undo 35 = .ok (.aload_n 0, 1) := by decide +kernel
theorem dX12_undo_36 : decode cX12_undo 36 = .ok (.getfield 148, 3) := by decide +kernel
theorem dX12_undo_39 : decode cX12_undo 39 = .ok (.iaload, 1) := by decide +kernel
theorem dX12_undo_40 : decode cX12_undo 40 = .ok (.aload_n 0, 1) := by decide +kernel
theorem dX12_undo_41 : decode cX12_undo 41 = .ok (.getfield 35, 3) := by decide +kernel
theorem dX12_undo_44 : decode cX12_undo 44 = .ok (.aload_n 0, 1) := by decide +kernel
theorem dX12_undo_45 : decode cX12_undo 45 = .ok (.getfield 148, 3) := by decide +kernel
theorem dX12_undo_48 : decode cX12_undo 48 = .ok (.iaload, 1) := by decide +kernel
theorem dX12_undo_49 : decode cX12_undo 49 = .ok (.aload_n 0, 1) := by decide +kernel
theorem dX12_undo_50 : decode cX12_undo 50 = .ok (.getfield 38, 3) := by decide +kernel
theorem dX12_undo_53 : decode cX12_undo 53 = .ok (.aload_n 0, 1) := by decide +kernel
theorem dX12_undo_54 : decode cX12_undo 54 = .ok (.getfield 148, 3) := by decide +kernel
theorem dX12_undo_57 : decode cX12_undo 57 = .ok (.iaload, 1) := by decide +kernel
theorem dX12_undo_58 : decode cX12_undo 58 = .ok (.invokevirtual 151, 3) := by decide +kernel
theorem dX12_undo_61 : decode cX12_undo 61 = .ok (.aload_n 0, 1) := by decide +kernel
theorem dX12_undo_62 : decode cX12_undo 62 = .ok (.getfield 148, 3) := by decide +kernel
theorem dX12_undo_65 : decode cX12_undo 65 = .ok (.ireturn, 1) := by decide +kernel
theorem dX12_redo_0 : decode cX12_redo 0 = .ok (.aload_n 0, 1) := by decide +kernel
theorem dX12_redo_1 : decode cX12_redo 1 = .ok (.getfield 145, 3) := by decide +kernel
theorem dX12_redo_4 : decode cX12_redo 4 = .ok (.ifCond .ne 6, 3) := by decide +kernel
theorem dX12_redo_7 : decode cX12_redo 7 = .ok (.bipush (-5), 2) := by decide +kernel
theorem dX12_redo_9 : decode cX12_redo 9 = .ok (.ireturn, 1) := by decide +kernel
theorem dX12_redo_10 : decode cX12_redo 10 = .ok (.aload_n 0, 1) := by decide +kernel
theorem dX12_redo_11 : decode cX12_redo 11 = .ok (.aload_n 0, 1) := by decide +kernel
theorem dX12_redo_12 : decode cX12_redo 12 = .ok (.getfield 32, 3) := by decide +kernel
theorem dX12_redo_15 : decode cX12_redo 15 = .ok (.aload_n 0, 1) := by decide +kernel
theorem dX12_redo_16 : decode cX12_redo 16 = .ok (.getfield 148, 3) := by decide +kernel
theorem dX12_redo_19 : decode cX12_redo 19 = .ok (.iaload, 1) := by decide +kernel
theorem dX12_redo_20 : decode cX12_redo 20 = .ok (.aload_n 0, 1) := by decide +kernel
theorem dX12_redo_21 : decode cX12_redo 21 = .ok (.getfield 35, 3) := by decide +kernel
theorem dX12_redo_24 : decode cX12_redo 24 = .ok (.aload_n 0, 1) := by decide +kernel
theorem dX12_redo_25 : decode cX12_redo 25 = .ok (.getfield 148, 3) := by decide +kernel
theorem dX12_redo_28 : decode cX12_redo 28 = .ok (.iaload, 1) := by decide +kernel
theorem dX12_redo_29 : decode cX12_redo 29 = .ok (.aload_n 0, 1) := by decide +kernel
theorem dX12_redo_30 : decode cX12_redo 30 = .ok (.getfield 41, 3) := by decide +kernel
theorem dX12_redo_33 : decode cX12_redo 33 = .ok (.aload_n 0, 1) := by decide +kernel
theorem dX12_redo_34 : decode cX12_redo 34 = .ok (.getfield 148, 3) := by decide +kernel
theorem dX12_redo_37 : decode cX12_redo 37 = .ok (.iaload, 1) := by decide +kernel
theorem dX12_redo_38 : decode cX12_redo 38 = .ok (.invokevirtual 151, 3) := by decide +kernel
theorem dX12_redo_41 : decode cX12_redo 41 = .ok (.aload_n 0, 1) := by decide +kernel
theorem dX12_redo_42 : decode cX12_redo 42 = .ok (.dup, 1) := by decide +kernel
theorem dX12_redo_43 : decode cX12_redo 43 = .ok (.getfield 148, 3) := by decide +kernel
theorem dX12_redo_46 : decode cX12_redo 46 = .ok (.iconst 1, 1) := by decide +kernel
theorem dX12_redo_47 : decode cX12_redo 47 = .ok (.iadd, 1) := by decide +kernel
theorem dX12_redo_48 : decode cX12_redo 48 = .ok (.putfield 148, 3) := by decide +kernel
theorem dX12_redo_51 : decode cX12_redo 51 = .ok (.aload_n 0, 1) := by decide +kernel
theorem dX12_redo_52 : decode cX12_redo 52 = .ok (.dup, 1) := by decide +kernel
theorem dX12_redo_53 : decode cX12_redo 53 = .ok (.getfield 145, 3) := by decide +kernel
theorem dX12_redo_56 : decode cX12_redo 56 = .ok (.iconst 1, 1) := by decide +kernel
theorem dX12_redo_57 : decode cX12_redo 57 = .ok (.isub, 1) := by decide +kernel
theorem dX12_redo_58 : decode cX12_redo 58 = .ok (.putfield 145, 3) := by decide +kernel
theorem dX12_redo_61 : decode cX12_redo 61 = .ok (.aload_n 0, 1) := by decide +kernel
theorem dX12_redo_62 : decode cX12_redo 62 = .ok (.getfield 145, 3) := by decide +kernel
theorem dX12_redo_65 : decode cX12_redo 65 = .ok (.ireturn, 1) := by decide +kernel
theorem dX12_mend_0 : decode cX12_mend 0 = .ok (.iload_n 2, 1) := by decide +kernel
theorem dX12_mend_1 : decode cX12_mend 1 = .ok (.tableswitch 146 0 3 #[31, 61, 91, 120], 31) := by decide +kernel
theorem dX12_mend_32 : decode cX12_mend 32 = .ok (.aload_n 0, 1) := by decide +kernel
theorem dX12_mend_33 : decode cX12_mend 33 = .ok (.iload_n 1, 1) := by decide +kernel
theorem dX12_mend_34 : decode cX12_mend 34 = .ok (.invokevirtual 155, 3) := by decide +kernel
theorem dX12_mend_37 : decode cX12_mend 37 = .ok (.ifCond .eq 23, 3) := by decide +kernel
theorem dX12_mend_40 : decode cX12_mend 40 = .ok (.iload_n 3, 1) := by decide +kernel
theorem dX12_mend_41 : decode cX12_mend 41 = .ok (.iconst 1, 1) := by decide +kernel
theorem dX12_mend_42 : decode cX12_mend 42 = .ok (.bipush 99, 2) := by decide +kernel
theorem dX12_mend_44 : decode cX12_mend 44 = .ok (.invokestatic 114, 3) := by decide +kernel
theorem dX12_mend_47 : decode cX12_mend 47 = .ok (.ifCond .eq 13, 3) := by decide +kernel
theorem dX12_mend_50 : decode cX12_mend 50 = .ok (.aload_n 0, 1) := by decide +kernel
theorem dX12_mend_51 : decode cX12_mend 51 = .ok (.iconst 0, 1) := by decide +kernel
theorem dX12_mend_52 : decode cX12_mend 52 = .ok (.iload_n 1, 1) := by decide +kernel
theorem dX12_mend_53 : decode cX12_mend 53 = .ok (.iload_n 3, 1) := by decide +kernel
theorem dX12_mend_54 : decode cX12_mend 54 = .ok (.invokevirtual 158, 3) := by decide +kernel
theorem dX12_mend_57 : decode cX12_mend 57 = .ok (.goto 4, 3) := by decide +kernel
theorem dX12_mend_60 : decode cX12_mend 60 = .ok (.iconst (-1), 1) := by decide +kernel
theorem dX12_mend_61 : decode cX12_mend 61 = .ok (.ireturn, 1) := by decide +kernel
theorem dX12_mend_62 : decode cX12_mend 62 = .ok (.aload_n 0, 1) := by decide +kernel
theorem dX12_mend_63 : decode cX12_mend 63 = .ok (.iload_n 1, 1) := by decide +kernel
theorem dX12_mend_64 : decode cX12_mend 64 = .ok (.invokevirtual 155, 3) := by decide +kernel
theorem dX12_mend_67 : decode cX12_mend 67 = .ok (.ifCond .eq 23, 3) := by decide +kernel
theorem dX12_mend_70 : decode cX12_mend 70 = .ok (.iload_n 3, 1) := by decide +kernel
theorem dX12_mend_71 : decode cX12_mend 71 = .ok (.iconst 0, 1) := by decide +kernel
theorem dX12_mend_72 : decode cX12_mend 72 = .ok (.bipush 9, 2) := by decide +kernel
theorem dX12_mend_74 : decode cX12_mend 74 = .ok (.invokestatic 114, 3) := by decide +kernel
theorem dX12_mend_77 : decode cX12_mend 77 = .ok (.ifCond .eq 13, 3) := by decide +kernel
theorem dX12_mend_80 : decode cX12_mend 80 = .ok (.aload_n 0, 1) := by decide +kernel
theorem dX12_mend_81 : decode cX12_mend 81 = .ok (.iconst 1, 1) := by decide +kernel
theorem dX12_mend_82 : decode cX12_mend 82 = .ok (.iload_n 1, 1) := by decide +kernel
theorem dX12_mend_83 : decode cX12_mend 83 = .ok (.iload_n 3, 1) := by decide +kernel
theorem dX12_mend_84 : decode cX12_mend 84 = .ok (.invokevirtual 158, 3) := by decide +kernel
theorem dX12_mend_87 : decode cX12_mend 87 = .ok (.goto 4, 3) := by decide +kernel
theorem dX12_mend_90 : decode cX12_mend 90 = .ok (.iconst (-1), 1) := by decide +kernel
theorem dX12_mend_91 : decode cX12_mend 91 = .ok (.ireturn, 1) := by decide +kernel
theorem dX12_mend_92 : decode cX12_mend 92 = .ok (.aload_n 0, 1) := by decide +kernel
theorem dX12_mend_93 : decode cX12_mend 93 = .ok (.iload_n 1, 1) := by decide +kernel
theorem dX12_mend_94 : decode cX12_mend 94 = .ok (.invokevirtual 161, 3) := by decide +kernel
theorem dX12_mend_97 : decode cX12_mend 97 = .ok (.ifCond .eq 22, 3) := by decide +kernel
theorem dX12_mend_100 : decode cX12_mend 100 = .ok (.iload_n 3, 1) := by decide +kernel
theorem dX12_mend_101 : decode cX12_mend 101 = .ok (.iconst 0, 1) := by decide +kernel
theorem dX12_mend_102 : decode cX12_mend 102 = .ok (.iconst 2, 1) := by decide +kernel
theorem dX12_mend_103 : decode cX12_mend 103 = .ok (.invokestatic 114, 3) := by decide +kernel
theorem dX12_mend_106 : decode cX12_mend 106 = .ok (.ifCond .eq 13, 3) := by decide +kernel
theorem dX12_mend_109 : decode cX12_mend 109 = .ok (.aload_n 0, 1) := by decide +kernel
theorem dX12_mend_110 : decode cX12_mend 110 = .ok (.iconst 2, 1) := by decide +kernel
theorem dX12_mend_111 : decode cX12_mend 111 = .ok (.iload_n 1, 1) := by decide +kernel
theorem dX12_mend_112 : decode cX12_mend 112 = .ok (.iload_n 3, 1) := by decide +kernel
theorem dX12_mend_113 : decode cX12_mend 113 = .ok (.invokevirtual 158, 3) := by decide +kernel
theorem dX12_mend_116 : decode cX12_mend 116 = .ok (.goto 4, 3) := by decide +kernel
theorem dX12_mend_119 : decode cX12_mend 119 = .ok (.iconst (-1), 1) := by decide +kernel
theorem dX12_mend_120 : decode cX12_mend 120 = .ok (.ireturn, 1) := by decide +kernel
theorem dX12_mend_121 : decode cX12_mend 121 = .ok (.iload_n 1, 1) := by decide +kernel
theorem dX12_mend_122 : decode cX12_mend 122 = .ok (.ifCond .ne 23, 3) := by decide +kernel
theorem dX12_mend_125 : decode cX12_mend 125 = .ok (.iload_n 3, 1) := by decide +kernel
theorem dX12_mend_126 : decode cX12_mend 126 = .ok (.iconst 0, 1) := by decide +kernel
theorem dX12_mend_127 : decode cX12_mend 127 = .ok (.bipush 20, 2) := by decide +kernel
theorem dX12_mend_129 : decode cX12_mend 129 = .ok (.invokestatic 114, 3) := by decide +kernel
theorem dX12_mend_132 : decode cX12_mend 132 = .ok (.ifCond .eq 13, 3) := by decide +kernel
theorem dX12_mend_135 : decode cX12_mend 135 = .ok (.aload_n 0, 1) := by decide +kernel
theorem dX12_mend_136 : decode cX12_mend 136 = .ok (.iconst 3, 1) := by decide +kernel
theorem dX12_mend_137 : decode cX12_mend 137 = .ok (.iconst 0, 1) := by decide +kernel
theorem dX12_mend_138 : decode cX12_mend 138 = .ok (.iload_n 3, 1) := by decide +kernel
theorem dX12_mend_139 : decode cX12_mend 139 = .ok (.invokevirtual 158, 3) := by decide +kernel
theorem dX12_mend_142 : decode cX12_mend 142 = .ok (.goto 4, 3) := by decide +kernel
theorem dX12_mend_145 : decode cX12_mend 145 = .ok (.iconst (-1), 1) := by decide +kernel
theorem dX12_mend_146 : decode cX12_mend 146 = .ok (.ireturn, 1) := by decide +kernel
theorem dX12_mend_147 : decode cX12_mend 147 = .ok (.iconst (-1), 1) := by decide +kernel
theorem dX12_mend_148 : decode cX12_mend 148 = .ok (.ireturn, 1) := by decide +kernel
theorem dX12_wear_0 : decode cX12_wear 0 = .ok (.iload_n 1, 1) := by decide +kernel
theorem dX12_wear_1 : decode cX12_wear 1 = .ok (.iconst (-1), 1) := by decide +kernel
theorem dX12_wear_2 : decode cX12_wear 2 = .ok (.if_icmp .eq 14, 3) := by decide +kernel
theorem dX12_wear_5 : decode cX12_wear 5 = .ok (.aload_n 0, 1) := by decide +kernel
theorem dX12_wear_6 : decode cX12_wear 6 = .ok (.iload_n 1, 1) := by decide +kernel
theorem dX12_wear_7 : decode cX12_wear 7 = .ok (.invokevirtual 155, 3) := by decide +kernel
theorem dX12_wear_10 : decode cX12_wear 10 = .ok (.ifCond .ne 6, 3) := by decide +kernel
theorem dX12_wear_13 : decode cX12_wear 13 = .ok (.ldc 164, 2) := by decide +kernel
theorem dX12_wear_15 : decode cX12_wear 15 = .ok (.ireturn, 1) := by decide +kernel
theorem dX12_wear_16 : decode cX12_wear 16 = .ok (.aload_n 0, 1) := by decide +kernel
theorem dX12_wear_17 : decode cX12_wear 17 = .ok (.getfield 25, 3) := by decide +kernel
theorem dX12_wear_20 : decode cX12_wear 20 = .ok (.istore_n 2, 1) := by decide +kernel
theorem dX12_wear_21 : decode cX12_wear 21 = .ok (.aload_n 0, 1) := by decide +kernel
theorem dX12_wear_22 : decode cX12_wear 22 = .ok (.iload_n 1, 1) := by decide +kernel
theorem dX12_wear_23 : decode cX12_wear 23 = .ok (.putfield 25, 3) := by decide +kernel
theorem dX12_wear_26 : decode cX12_wear 26 = .ok (.iload_n 2, 1) := by decide +kernel
theorem dX12_wear_27 : decode cX12_wear 27 = .ok (.ireturn, 1) := by decide +kernel
theorem dX12_whoIn_0 : decode cX12_whoIn 0 = .ok (.iconst 0, 1) := by decide +kernel
theorem dX12_whoIn_1 : decode cX12_whoIn 1 = .ok (.istore_n 2, 1) := by decide +kernel
theorem dX12_whoIn_2 : decode cX12_whoIn 2 = .ok (.iconst 0, 1) := by decide +kernel
theorem dX12_whoIn_3 : decode cX12_whoIn 3 = .ok (.istore_n 3, 1) := by decide +kernel
theorem dX12_whoIn_4 : decode cX12_whoIn 4 = .ok (.iload_n 3, 1) := by decide +kernel
theorem dX12_whoIn_5 : decode cX12_whoIn 5 = .ok (.aload_n 0, 1) := by decide +kernel
theorem dX12_whoIn_6 : decode cX12_whoIn 6 = .ok (.getfield 121, 3) := by decide +kernel
theorem dX12_whoIn_9 : decode cX12_whoIn 9 = .ok (.if_icmp .ge 27, 3) := by decide +kernel
theorem dX12_whoIn_12 : decode cX12_whoIn 12 = .ok (.aload_n 0, 1) := by decide +kernel
theorem dX12_whoIn_13 : decode cX12_whoIn 13 = .ok (.getfield 128, 3) := by decide +kernel
theorem dX12_whoIn_16 : decode cX12_whoIn 16 = .ok (.iload_n 3, 1) := by decide +kernel
theorem dX12_whoIn_17 : decode cX12_whoIn 17 = .ok (.invokestatic 165, 3) := by decide +kernel
theorem dX12_whoIn_20 : decode cX12_whoIn 20 = .ok (.iload_n 1, 1) := by decide +kernel
theorem dX12_whoIn_21 : decode cX12_whoIn 21 = .ok (.if_icmp .ne 9, 3) := by decide +kernel
theorem dX12_whoIn_24 : decode cX12_whoIn 24 = .ok (.iload_n 2, 1) := by decide +kernel
theorem dX12_whoIn_25 : decode cX12_whoIn 25 = .ok (.iconst 1, 1) := by decide +kernel
theorem dX12_whoIn_26 : decode cX12_whoIn 26 = .ok (.iload_n 3, 1) := by decide +kernel
theorem dX12_whoIn_27 : decode cX12_whoIn 27 = .ok (.ishl, 1) := by decide +kernel
theorem dX12_whoIn_28 : decode cX12_whoIn 28 = .ok (.ior, 1) := by decide +kernel
theorem dX12_whoIn_29 : decode cX12_whoIn 29 = .ok (.istore_n 2, 1) := by decide +kernel
theorem dX12_whoIn_30 : decode cX12_whoIn 30 = .ok (.iinc 3 1, 3) := by decide +kernel
theorem dX12_whoIn_33 : decode cX12_whoIn 33 = .ok (.goto (-29), 3) := by decide +kernel
theorem dX12_whoIn_36 : decode cX12_whoIn 36 = .ok (.iload_n 2, 1) := by decide +kernel
theorem dX12_whoIn_37 : decode cX12_whoIn 37 = .ok (.ireturn, 1) := by decide +kernel
theorem dX12_of_0 : decode cX12_of 0 = .ok (.iload_n 2, 1) := by decide +kernel
theorem dX12_of_1 : decode cX12_of 1 = .ok (.iconst 0, 1) := by decide +kernel
theorem dX12_of_2 : decode cX12_of 2 = .ok (.iconst 3, 1) := by decide +kernel
theorem dX12_of_3 : decode cX12_of 3 = .ok (.invokestatic 114, 3) := by decide +kernel
theorem dX12_of_6 : decode cX12_of 6 = .ok (.ifCond .eq 67, 3) := by decide +kernel
theorem dX12_of_9 : decode cX12_of 9 = .ok (.aload_n 0, 1) := by decide +kernel
theorem dX12_of_10 : decode cX12_of 10 = .ok (.iload_n 1, 1) := by decide +kernel
theorem dX12_of_11 : decode cX12_of 11 = .ok (.invokevirtual 155, 3) := by decide +kernel
theorem dX12_of_14 : decode cX12_of 14 = .ok (.ifCond .ne 5, 3) := by decide +kernel
theorem dX12_of_17 : decode cX12_of 17 = .ok (.iconst (-1), 1) := by decide +kernel
theorem dX12_of_18 : decode cX12_of 18 = .ok (.ireturn, 1) := by decide +kernel
theorem dX12_of_19 : decode cX12_of 19 = .ok (.iload_n 2, 1) := by decide +kernel
theorem dX12_of_20 : decode cX12_of 20 = .ok (.ifCond .ne 12, 3) := by decide +kernel
theorem dX12_of_23 : decode cX12_of 23 = .ok (.aload_n 0, 1) := by decide +kernel
theorem dX12_of_24 : decode cX12_of 24 = .ok (.getfield 19, 3) := by decide +kernel
theorem dX12_of_27 : decode cX12_of 27 = .ok (.iload_n 1, 1) := by decide +kernel
theorem dX12_of_28 : decode cX12_of 28 = .ok (.iaload, 1) := by decide +kernel
theorem dX12_of_29 : decode cX12_of 29 = .ok (.goto 43, 3) := by decide +kernel
theorem dX12_of_32 : decode cX12_of 32 = .ok (.iload_n 2, 1) := by decide +kernel
theorem dX12_of_33 : decode cX12_of 33 = .ok (.iconst 1, 1) := by decide +kernel
theorem dX12_of_34 : decode cX12_of 34 = .ok (.if_icmp .ne 14, 3) := by decide +kernel
theorem dX12_of_37 : decode cX12_of 37 = .ok (.aload_n 0, 1) := by decide +kernel
theorem dX12_of_38 : decode cX12_of 38 = .ok (.getfield 128, 3) := by decide +kernel
theorem dX12_of_41 : decode cX12_of 41 = .ok (.iload_n 1, 1) := by decide +kernel
theorem dX12_of_42 : decode cX12_of 42 = .ok (.invokestatic 165, 3) := by decide +kernel
theorem dX12_of_45 : decode cX12_of 45 = .ok (.goto 27, 3) := by decide +kernel
theorem dX12_of_48 : decode cX12_of 48 = .ok (.iload_n 2, 1) := by decide +kernel
theorem dX12_of_49 : decode cX12_of 49 = .ok (.iconst 2, 1) := by decide +kernel
theorem dX12_of_50 : decode cX12_of 50 = .ok (.if_icmp .ne 12, 3) := by decide +kernel
theorem dX12_of_53 : decode cX12_of 53 = .ok (.aload_n 0, 1) := by decide +kernel
theorem dX12_of_54 : decode cX12_of 54 = .ok (.getfield 22, 3) := by decide +kernel
theorem dX12_of_57 : decode cX12_of 57 = .ok (.iload_n 1, 1) := by decide +kernel
theorem dX12_of_58 : decode cX12_of 58 = .ok (.iaload, 1) := by decide +kernel
theorem dX12_of_59 : decode cX12_of 59 = .ok (.goto 13, 3) := by decide +kernel
theorem dX12_of_62 : decode cX12_of 62 = .ok (.aload_n 0, 1) := by decide +kernel
theorem dX12_of_63 : decode cX12_of 63 = .ok (.iload_n 1, 1) := by decide +kernel
theorem dX12_of_64 : decode cX12_of 64 = .ok (.aload_n 0, 1) := by decide +kernel
theorem dX12_of_65 : decode cX12_of 65 = .ok (.getfield 25, 3) := by decide +kernel
theorem dX12_of_68 : decode cX12_of 68 = .ok (.iconst 0, 1) := by decide +kernel
theorem dX12_of_69 : decode cX12_of 69 = .ok (.invokevirtual 168, 3) := by decide +kernel
theorem dX12_of_72 : decode cX12_of 72 = .ok (.ireturn, 1) := by decide +kernel
theorem dX12_of_73 : decode cX12_of 73 = .ok (.iload_n 2, 1) := by decide +kernel
theorem dX12_of_74 : decode cX12_of 74 = .ok (.bipush 10, 2) := by decide +kernel
theorem dX12_of_76 : decode cX12_of 76 = .ok (.bipush 11, 2) := by decide +kernel
theorem dX12_of_78 : decode cX12_of 78 = .ok (.invokestatic 114, 3) := by decide +kernel
theorem dX12_of_81 : decode cX12_of 81 = .ok (.ifCond .eq 47, 3) := by decide +kernel
theorem dX12_of_84 : decode cX12_of 84 = .ok (.aload_n 0, 1) := by decide +kernel
theorem dX12_of_85 : decode cX12_of 85 = .ok (.iload_n 1, 1) := by decide +kernel
theorem dX12_of_86 : decode cX12_of 86 = .ok (.invokevirtual 161, 3) := by decide +kernel
theorem dX12_of_89 : decode cX12_of 89 = .ok (.ifCond .ne 7, 3) := by decide +kernel
theorem dX12_of_92 : decode cX12_of 92 = .ok (.iconst (-1), 1) := by decide +kernel
theorem dX12_of_93 : decode cX12_of 93 = .ok (.goto 34, 3) := by decide +kernel
theorem dX12_of_96 : decode cX12_of 96 = .ok (.iload_n 2, 1) := by decide +kernel
theorem dX12_of_97 : decode cX12_of 97 = .ok (.bipush 10, 2) := by decide +kernel
theorem dX12_of_99 : decode cX12_of 99 = .ok (.if_icmp .ne 22, 3) := by decide +kernel
theorem dX12_of_102 : decode cX12_of 102 = .ok (.bipush 10, 2) := by decide +kernel
theorem dX12_of_104 : decode cX12_of 104 = .ok (.aload_n 0, 1) := by decide +kernel
theorem dX12_of_105 : decode cX12_of 105 = .ok (.getfield 7, 3) := by decide +kernel
theorem dX12_of_108 : decode cX12_of 108 = .ok (.iload_n 1, 1) := by decide +kernel
theorem dX12_of_109 : decode cX12_of 109 = .ok (.iaload, 1) := by decide +kernel
theorem dX12_of_110 : decode cX12_of 110 = .ok (.imul, 1) := by decide +kernel
theorem dX12_of_111 : decode cX12_of 111 = .ok (.aload_n 0, 1) := by decide +kernel
theorem dX12_of_112 : decode cX12_of 112 = .ok (.getfield 13, 3) := by decide +kernel
theorem dX12_of_115 : decode cX12_of 115 = .ok (.iload_n 1, 1) := by decide +kernel
theorem dX12_of_116 : decode cX12_of 116 = .ok (.iaload, 1) := by decide +kernel
theorem dX12_of_117 : decode cX12_of 117 = .ok (.iadd, 1) := by decide +kernel
theorem dX12_of_118 : decode cX12_of 118 = .ok (.goto 9, 3) := by decide +kernel
theorem dX12_of_121 : decode cX12_of 121 = .ok (.aload_n 0, 1) := by decide +kernel
theorem dX12_of_122 : decode cX12_of 122 = .ok (.getfield 16, 3) := by decide +kernel
theorem dX12_of_125 : decode cX12_of 125 = .ok (.iload_n 1, 1) := by decide +kernel
theorem dX12_of_126 : decode cX12_of 126 = .ok (.iaload, 1) := by decide +kernel
theorem dX12_of_127 : decode cX12_of 127 = .ok (.ireturn, 1) := by decide +kernel
theorem dX12_of_128 : decode cX12_of 128 = .ok (.iload_n 2, 1) := by decide +kernel
theorem dX12_of_129 : decode cX12_of 129 = .ok (.bipush 20, 2) := by decide +kernel
theorem dX12_of_131 : decode cX12_of 131 = .ok (.if_icmp .ne 21, 3) := by decide +kernel
theorem dX12_of_134 : decode cX12_of 134 = .ok (.aload_n 0, 1) := by decide +kernel
theorem dX12_of_135 : decode cX12_of 135 = .ok (.iload_n 1, 1) := by decide +kernel
theorem dX12_of_136 : decode cX12_of 136 = .ok (.invokevirtual 124, 3) := by decide +kernel
theorem dX12_of_139 : decode cX12_of 139 = .ok (.ifCond .eq 11, 3) := by decide +kernel
theorem dX12_of_142 : decode cX12_of 142 = .ok (.aload_n 0, 1) := by decide +kernel
theorem dX12_of_143 : decode cX12_of 143 = .ok (.iload_n 1, 1) := by decide +kernel
theorem dX12_of_144 : decode cX12_of 144 = .ok (.invokevirtual 171, 3) := by decide +kernel
theorem dX12_of_147 : decode cX12_of 147 = .ok (.goto 4, 3) := by decide +kernel
theorem dX12_of_150 : decode cX12_of 150 = .ok (.iconst (-1), 1) := by decide +kernel
theorem dX12_of_151 : decode cX12_of 151 = .ok (.ireturn, 1) := by decide +kernel
theorem dX12_of_152 : decode cX12_of 152 = .ok (.iload_n 2, 1) := by decide +kernel
theorem dX12_of_153 : decode cX12_of 153 = .ok (.bipush 30, 2) := by decide +kernel
theorem dX12_of_155 : decode cX12_of 155 = .ok (.if_icmp .ne 14, 3) := by decide +kernel
theorem dX12_of_158 : decode cX12_of 158 = .ok (.iload_n 1, 1) := by decide +kernel
theorem dX12_of_159 : decode cX12_of 159 = .ok (.ifCond .ne 10, 3) := by decide +kernel
theorem dX12_of_162 : decode cX12_of 162 = .ok (.aload_n 0, 1) := by decide +kernel
theorem dX12_of_163 : decode cX12_of 163 = .ok (.getfield 29, 3) := by decide +kernel
theorem dX12_of_166 : decode cX12_of 166 = .ok (.goto 4, 3) := by decide +kernel
theorem dX12_of_169 : decode cX12_of 169 = .ok (.iconst (-1), 1) := by decide +kernel
theorem dX12_of_170 : decode cX12_of 170 = .ok (.ireturn, 1) := by decide +kernel
theorem dX12_feed_0 : decode cX12_feed 0 = .ok (.iload_n 1, 1) := by decide +kernel
theorem dX12_feed_1 : decode cX12_feed 1 = .ok (.iconst 0, 1) := by decide +kernel
theorem dX12_feed_2 : decode cX12_feed 2 = .ok (.sipush 255, 3) := by decide +kernel
theorem dX12_feed_5 : decode cX12_feed 5 = .ok (.invokestatic 114, 3) := by decide +kernel
theorem dX12_feed_8 : decode cX12_feed 8 = .ok (.ifCond .ne 5, 3) := by decide +kernel
theorem dX12_feed_11 : decode cX12_feed 11 = .ok (.iconst (-1), 1) := by decide +kernel
theorem dX12_feed_12 : decode cX12_feed 12 = .ok (.ireturn, 1) := by decide +kernel
theorem dX12_feed_13 : decode cX12_feed 13 = .ok (.aload_n 0, 1) := by decide +kernel
theorem dX12_feed_14 : decode cX12_feed 14 = .ok (.getfield 175, 3) := by decide +kernel
theorem dX12_feed_17 : decode cX12_feed 17 = .ok (.bipush 120, 2) := by decide +kernel
theorem dX12_feed_19 : decode cX12_feed 19 = .ok (.if_icmp .ne 6, 3) := by decide +kernel
theorem dX12_feed_22 : decode cX12_feed 22 = .ok (.bipush (-3), 2) := by decide +kernel
theorem dX12_feed_24 : decode cX12_feed 24 = .ok (.ireturn, 1) := by decide +kernel
theorem dX12_feed_25 : decode cX12_feed 25 = .ok (.aload_n 0, 1) := by decide +kernel
theorem dX12_feed_26 : decode cX12_feed 26 = .ok (.getfield 44, 3) := by decide +kernel
theorem dX12_feed_29 : decode cX12_feed 29 = .ok (.aload_n 0, 1) := by decide +kernel
theorem dX12_feed_30 : decode cX12_feed 30 = .ok (.getfield 175, 3) := by decide +kernel
theorem dX12_feed_33 : decode cX12_feed 33 = .ok (.iload_n 1, 1) := by decide +kernel
theorem dX12_feed_34 : decode cX12_feed 34 = .ok (.i2b, 1) := by decide +kernel
theorem dX12_feed_35 : decode cX12_feed 35 = .ok (.bastore, 1) := by decide +kernel
theorem dX12_feed_36 : decode cX12_feed 36 = .ok (.aload_n 0, 1) := by decide +kernel
theorem dX12_feed_37 : decode cX12_feed 37 = .ok (.dup, 1) := by decide +kernel
theorem dX12_feed_38 : decode cX12_feed 38 = .ok (.getfield 175, 3) := by decide +kernel
theorem dX12_feed_41 : decode cX12_feed 41 = .ok (.iconst 1, 1) := by decide +kernel
theorem dX12_feed_42 : decode cX12_feed 42 = .ok (.iadd, 1) := by decide +kernel
theorem dX12_feed_43 : decode cX12_feed 43 = .ok (.putfield 175, 3) := by decide +kernel
theorem dX12_feed_46 : decode cX12_feed 46 = .ok (.aload_n 0, 1) := by decide +kernel
theorem dX12_feed_47 : decode cX12_feed 47 = .ok (.getfield 175, 3) := by decide +kernel
theorem dX12_feed_50 : decode cX12_feed 50 = .ok (.ireturn, 1) := by decide +kernel
theorem dX12_look_0 : decode cX12_look 0 = .ok (.aload_n 0, 1) := by decide +kernel
theorem dX12_look_1 : decode cX12_look 1 = .ok (.getfield 178, 3) := by decide +kernel
theorem dX12_look_4 : decode cX12_look 4 = .ok (.aload_n 0, 1) := by decide +kernel
theorem dX12_look_5 : decode cX12_look 5 = .ok (.getfield 175, 3) := by decide +kernel
theorem dX12_look_8 : decode cX12_look 8 = .ok (.if_icmp .ge 15, 3) := by decide +kernel
theorem dX12_look_11 : decode cX12_look 11 = .ok (.aload_n 0, 1) := by decide +kernel
theorem dX12_look_12 : decode cX12_look 12 = .ok (.getfield 44, 3) := by decide +kernel
theorem dX12_look_15 : decode cX12_look 15 = .ok (.aload_n 0, 1) := by decide +kernel
theorem dX12_look_16 : decode cX12_look 16 = .ok (.getfield 178, 3) := by decide +kernel
theorem dX12_look_19 : decode cX12_look 19 = .ok (.baload, 1) := by decide +kernel
theorem dX12_look_20 : decode cX12_look 20 = .ok (.goto 4, 3) := by decide +kernel
theorem dX12_look_23 : decode cX12_look 23 = .ok (.iconst (-1), 1) := by decide +kernel
theorem dX12_look_24 : decode cX12_look 24 = .ok (.ireturn, 1) := by decide +kernel
theorem dX12_faulty_0 : decode cX12_faulty 0 = .ok (.aload_n 0, 1) := by decide +kernel
theorem dX12_faulty_1 : decode cX12_faulty 1 = .ok (.getfield 181, 3) := by decide +kernel
theorem dX12_faulty_4 : decode cX12_faulty 4 = .ok (.ifCond .ge 11, 3) := by decide +kernel
theorem dX12_faulty_7 : decode cX12_faulty 7 = .ok (.aload_n 0, 1) := by decide +kernel
theorem dX12_faulty_8 : decode cX12_faulty 8 = .ok (.aload_n 0, 1) := by decide +kernel
theorem dX12_faulty_9 : decode cX12_faulty 9 = .ok (.getfield 178, 3) := by decide +kernel
theorem dX12_faulty_12 : decode cX12_faulty 12 = .ok (.putfield 181, 3) := by decide +kernel
theorem dX12_faulty_15 : decode cX12_faulty 15 = .ok (.return_, 1) := by decide +kernel
theorem dX12_addStep_0 : decode cX12_addStep 0 = .ok (.aload_n 0, 1) := by decide +kernel
theorem dX12_addStep_1 : decode cX12_addStep 1 = .ok (.getfield 48, 3) := by decide +kernel
theorem dX12_addStep_4 : decode cX12_addStep 4 = .ok (.sipush 130, 3) := by decide +kernel
theorem dX12_addStep_7 : decode cX12_addStep 7 = .ok (.aload_n 0, 1) := by decide +kernel
theorem dX12_addStep_8 : decode cX12_addStep 8 = .ok (.getfield 184, 3) := by decide +kernel
theorem dX12_addStep_11 : decode cX12_addStep 11 = .ok (.iadd, 1) := by decide +kernel
theorem dX12_addStep_12 : decode cX12_addStep 12 = .ok (.iload_n 1, 1) := by decide +kernel
theorem dX12_addStep_13 : decode cX12_addStep 13 = .ok (.i2b, 1) := by decide +kernel
theorem dX12_addStep_14 : decode cX12_addStep 14 = .ok (.bastore, 1) := by decide +kernel
theorem dX12_addStep_15 : decode cX12_addStep 15 = .ok (.aload_n 0, 1) := by decide +kernel
theorem dX12_addStep_16 : decode cX12_addStep 16 = .ok (.getfield 51, 3) := by decide +kernel
theorem dX12_addStep_19 : decode cX12_addStep 19 = .ok (.sipush 130, 3) := by decide +kernel
theorem dX12_addStep_22 : decode cX12_addStep 22 = .ok (.aload_n 0, 1) := by decide +kernel
theorem dX12_addStep_23 : decode cX12_addStep 23 = .ok (.getfield 184, 3) := by decide +kernel
theorem dX12_addStep_26 : decode cX12_addStep 26 = .ok (.iadd, 1) := by decide +kernel
theorem dX12_addStep_27 : decode cX12_addStep 27 = .ok (.iload_n 2, 1) := by decide +kernel
theorem dX12_addStep_28 : decode cX12_addStep 28 = .ok (.iastore, 1) := by decide +kernel
theorem dX12_addStep_29 : decode cX12_addStep 29 = .ok (.aload_n 0, 1) := by decide +kernel
theorem dX12_addStep_30 : decode cX12_addStep 30 = .ok (.dup, 1) := by decide +kernel
theorem dX12_addStep_31 : decode cX12_addStep 31 = .ok (.getfield 184, 3) := by decide +kernel
theorem dX12_addStep_34 : decode cX12_addStep 34 = .ok (.iconst 1, 1) := by decide +kernel
theorem dX12_addStep_35 : decode cX12_addStep 35 = .ok (.iadd, 1) := by decide +kernel
theorem dX12_addStep_36 : decode cX12_addStep 36 = .ok (.putfield 184, 3) := by decide +kernel
theorem dX12_addStep_39 : decode cX12_addStep 39 = .ok (.return_, 1) := by decide +kernel
theorem dX12_nameOf_0 : decode cX12_nameOf 0 = .ok (.iload_n 0, 1) := by decide +kernel
theorem dX12_nameOf_1 : decode cX12_nameOf 1 = .ok (.tableswitch 71 97 107 #[59, 61, 71, 63, 71, 71, 71, 71, 67, 69, 65], 59) := by decide +kernel
theorem dX12_nameOf_60 : decode cX12_nameOf 60 = .ok (.iconst 0, 1) := by decide +kernel
theorem dX12_nameOf_61 : decode cX12_nameOf 61 = .ok (.ireturn, 1) := by decide +kernel
theorem dX12_nameOf_62 : decode cX12_nameOf 62 = .ok (.iconst 1, 1) := by decide +kernel
theorem dX12_nameOf_63 : decode cX12_nameOf 63 = .ok (.ireturn, 1) := by decide +kernel
theorem dX12_nameOf_64 : decode cX12_nameOf 64 = .ok (.iconst 2, 1) := by decide +kernel
theorem dX12_nameOf_65 : decode cX12_nameOf 65 = .ok (.ireturn, 1) := by decide +kernel
theorem dX12_nameOf_66 : decode cX12_nameOf 66 = .ok (.iconst 3, 1) := by decide +kernel
theorem dX12_nameOf_67 : decode cX12_nameOf 67 = .ok (.ireturn, 1) := by decide +kernel
theorem dX12_nameOf_68 : decode cX12_nameOf 68 = .ok (.iconst 4, 1) := by decide +kernel
theorem dX12_nameOf_69 : decode cX12_nameOf 69 = .ok (.ireturn, 1) := by decide +kernel
theorem dX12_nameOf_70 : decode cX12_nameOf 70 = .ok (.iconst 5, 1) := by decide +kernel
theorem dX12_nameOf_71 : decode cX12_nameOf 71 = .ok (.ireturn, 1) := by decide +kernel
theorem dX12_nameOf_72 : decode cX12_nameOf 72 = .ok (.iconst (-1), 1) := by decide +kernel
theorem dX12_nameOf_73 : decode cX12_nameOf 73 = .ok (.ireturn, 1) := by decide +kernel
theorem dX12_opens_0 : decode cX12_opens 0 = .ok (.aload_n 0, 1) := by decide +kernel
theorem dX12_opens_1 : decode cX12_opens 1 = .ok (.getfield 187, 3) := by decide +kernel
theorem dX12_opens_4 : decode cX12_opens 4 = .ok (.bipush 6, 2) := by decide +kernel
theorem dX12_opens_6 : decode cX12_opens 6 = .ok (.if_icmp .ne 9, 3) := by decide +kernel
theorem dX12_opens_9 : decode cX12_opens 9 = .ok (.aload_n 0, 1) := by decide +kernel
theorem dX12_opens_10 : decode cX12_opens 10 = .ok (.invokevirtual 190, 3) := by decide +kernel
theorem dX12_opens_13 : decode cX12_opens 13 = .ok (.iconst 0, 1) := by decide +kernel
theorem dX12_opens_14 : decode cX12_opens 14 = .ok (.ireturn, 1) := by decide +kernel
theorem dX12_opens_15 : decode cX12_opens 15 = .ok (.aload_n 0, 1) := by decide +kernel
theorem dX12_opens_16 : decode cX12_opens 16 = .ok (.dup, 1) := by decide +kernel
theorem dX12_opens_17 : decode cX12_opens 17 = .ok (.getfield 187, 3) := by decide +kernel
theorem dX12_opens_20 : decode cX12_opens 20 = .ok (.iconst 1, 1) := by decide +kernel
theorem dX12_opens_21 : decode cX12_opens 21 = .ok (.iadd, 1) := by decide +kernel
theorem dX12_opens_22 : decode cX12_opens 22 = .ok (.putfield 187, 3) := by decide +kernel
theorem dX12_opens_25 : decode cX12_opens 25 = .ok (.aload_n 0, 1) := by decide +kernel
theorem dX12_opens_26 : decode cX12_opens 26 = .ok (.dup, 1) := by decide +kernel
theorem dX12_opens_27 : decode cX12_opens 27 = .ok (.getfield 178, 3) := by decide +kernel
theorem dX12_opens_30 : decode cX12_opens 30 = .ok (.iconst 1, 1) := by decide +kernel
theorem dX12_opens_31 : decode cX12_opens 31 = .ok (.iadd, 1) := by decide +kernel
theorem dX12_opens_32 : decode cX12_opens 32 = .ok (.putfield 178, 3) := by decide +kernel
theorem dX12_opens_35 : decode cX12_opens 35 = .ok (.iconst 1, 1) := by decide +kernel
theorem dX12_opens_36 : decode cX12_opens 36 = .ok (.ireturn, 1) := by decide +kernel
theorem dX12_figure_0 : decode cX12_figure 0 = .ok (.iconst 0, 1) := by decide +kernel
theorem dX12_figure_1 : decode cX12_figure 1 = .ok (.istore_n 1, 1) := by decide +kernel
theorem dX12_figure_2 : decode cX12_figure 2 = .ok (.iconst 0, 1) := by decide +kernel
theorem dX12_figure_3 : decode cX12_figure 3 = .ok (.istore_n 2, 1) := by decide +kernel
theorem dX12_figure_4 : decode cX12_figure 4 = .ok (.iload_n 2, 1) := by decide +kernel
theorem dX12_figure_5 : decode cX12_figure 5 = .ok (.iconst 4, 1) := by decide +kernel
theorem dX12_figure_6 : decode cX12_figure 6 = .ok (.if_icmp .ge 46, 3) := by decide +kernel
theorem dX12_figure_9 : decode cX12_figure 9 = .ok (.aload_n 0, 1) := by decide +kernel
theorem dX12_figure_10 : decode cX12_figure 10 = .ok (.invokevirtual 193, 3) := by decide +kernel
theorem dX12_figure_13 : decode cX12_figure 13 = .ok (.bipush 48, 2) := by decide +kernel
theorem dX12_figure_15 : decode cX12_figure 15 = .ok (.bipush 57, 2) := by decide +kernel
theorem dX12_figure_17 : decode cX12_figure 17 = .ok (.invokestatic 114, 3) := by decide +kernel
theorem dX12_figure_20 : decode cX12_figure 20 = .ok (.ifCond .eq 32, 3) := by decide +kernel
theorem dX12_figure_23 : decode cX12_figure 23 = .ok (.bipush 10, 2) := by decide +kernel
theorem dX12_figure_25 : decode cX12_figure 25 = .ok (.iload_n 1, 1) := by decide +kernel
theorem dX12_figure_26 : decode cX12_figure 26 = .ok (.imul, 1) := by decide +kernel
theorem dX12_figure_27 : decode cX12_figure 27 = .ok (.aload_n 0, 1) := by decide +kernel
theorem dX12_figure_28 : decode cX12_figure 28 = .ok (.invokevirtual 193, 3) := by decide +kernel
theorem dX12_figure_31 : decode cX12_figure 31 = .ok (.iadd, 1) := by decide +kernel
theorem dX12_figure_32 : decode cX12_figure 32 = .ok (.bipush 48, 2) := by decide +kernel
theorem dX12_figure_34 : decode cX12_figure 34 = .ok (.isub, 1) := by decide +kernel
theorem dX12_figure_35 : decode cX12_figure 35 = .ok (.istore_n 1, 1) := by decide +kernel
theorem dX12_figure_36 : decode cX12_figure 36 = .ok (.iinc 2 1, 3) := by decide +kernel
theorem dX12_figure_39 : decode cX12_figure 39 = .ok (.aload_n 0, 1) := by decide +kernel
theorem dX12_figure_40 : decode cX12_figure 40 = .ok (.dup, 1) := by decide +kernel
theorem dX12_figure_41 : decode cX12_figure 41 = .ok (.getfield 178, 3) := by decide +kernel
theorem dX12_figure_44 : decode cX12_figure 44 = .ok (.iconst 1, 1) := by decide +kernel
theorem dX12_figure_45 : decode cX12_figure 45 = .ok (.iadd, 1) := by decide +kernel
theorem dX12_figure_46 : decode cX12_figure 46 = .ok (.putfield 178, 3) := by decide +kernel
theorem dX12_figure_49 : decode cX12_figure 49 = .ok (.goto (-45), 3) := by decide +kernel
theorem dX12_figure_52 : decode cX12_figure 52 = .ok (.iload_n 2, 1) := by decide +kernel
theorem dX12_figure_53 : decode cX12_figure 53 = .ok (.ifCond .eq 17, 3) := by decide +kernel
theorem dX12_figure_56 : decode cX12_figure 56 = .ok (.aload_n 0, 1) := by decide +kernel
theorem dX12_figure_57 : decode cX12_figure 57 = .ok (.invokevirtual 193, 3) := by decide +kernel
theorem dX12_figure_60 : decode cX12_figure 60 = .ok (.bipush 48, 2) := by decide +kernel
theorem dX12_figure_62 : decode cX12_figure 62 = .ok (.bipush 57, 2) := by decide +kernel
theorem dX12_figure_64 : decode cX12_figure 64 = .ok (.invokestatic 114, 3) := by decide +kernel
theorem dX12_figure_67 : decode cX12_figure 67 = .ok (.ifCond .eq 7, 3) := by decide +kernel
theorem dX12_figure_70 : decode cX12_figure 70 = .ok (.aload_n 0, 1) := by decide +kernel
theorem dX12_figure_71 : decode cX12_figure 71 = .ok (.invokevirtual 190, 3) := by decide +kernel
theorem dX12_figure_74 : decode cX12_figure 74 = .ok (.aload_n 0, 1) := by decide +kernel
theorem dX12_figure_75 : decode cX12_figure 75 = .ok (.iconst 1, 1) := by decide +kernel
theorem dX12_figure_76 : decode cX12_figure 76 = .ok (.iload_n 1, 1) := by decide +kernel
theorem dX12_figure_77 : decode cX12_figure 77 = .ok (.invokevirtual 197, 3) := by decide +kernel
theorem dX12_figure_80 : decode cX12_figure 80 = .ok (.return_, 1) := by decide +kernel
theorem dX12_operand_0 : decode cX12_operand 0 = .ok (.aload_n 0, 1) := by decide +kernel
theorem dX12_operand_1 : decode cX12_operand 1 = .ok (.invokevirtual 193, 3) := by decide +kernel
theorem dX12_operand_4 : decode cX12_operand 4 = .ok (.istore_n 1, 1) := by decide +kernel
theorem dX12_operand_5 : decode cX12_operand 5 = .ok (.iload_n 1, 1) := by decide +kernel
theorem dX12_operand_6 : decode cX12_operand 6 = .ok (.invokestatic 201, 3) := by decide +kernel
theorem dX12_operand_9 : decode cX12_operand 9 = .ok (.ifCond .lt 25, 3) := by decide +kernel
theorem dX12_operand_12 : decode cX12_operand 12 = .ok (.aload_n 0, 1) := by decide +kernel
theorem dX12_operand_13 : decode cX12_operand 13 = .ok (.iconst 2, 1) := by decide +kernel
theorem dX12_operand_14 : decode cX12_operand 14 = .ok (.iload_n 1, 1) := by decide +kernel
theorem dX12_operand_15 : decode cX12_operand 15 = .ok (.invokestatic 201, 3) := by decide +kernel
theorem dX12_operand_18 : decode cX12_operand 18 = .ok (.invokevirtual 197, 3) := by decide +kernel
theorem dX12_operand_21 : decode cX12_operand 21 = .ok (.aload_n 0, 1) := by decide +kernel
theorem dX12_operand_22 : decode cX12_operand 22 = .ok (.dup, 1) := by decide +kernel
theorem dX12_operand_23 : decode cX12_operand 23 = .ok (.getfield 178, 3) := by decide +kernel
theorem dX12_operand_26 : decode cX12_operand 26 = .ok (.iconst 1, 1) := by decide +kernel
theorem dX12_operand_27 : decode cX12_operand 27 = .ok (.iadd, 1) := by decide +kernel
theorem dX12_operand_28 : decode cX12_operand 28 = .ok (.putfield 178, 3) := by decide +kernel
theorem dX12_operand_31 : decode cX12_operand 31 = .ok (.goto 123, 3) := by decide +kernel
theorem dX12_operand_34 : decode cX12_operand 34 = .ok (.iload_n 1, 1) := by decide +kernel
theorem dX12_operand_35 : decode cX12_operand 35 = .ok (.bipush 33, 2) := by decide +kernel
theorem dX12_operand_37 : decode cX12_operand 37 = .ok (.if_icmp .eq 9, 3) := by decide +kernel
theorem dX12_operand_40 : decode cX12_operand 40 = .ok (.iload_n 1, 1) := by decide +kernel
theorem dX12_operand_41 : decode cX12_operand 41 = .ok (.bipush 45, 2) := by decide +kernel
theorem dX12_operand_43 : decode cX12_operand 43 = .ok (.if_icmp .ne 44, 3) := by decide +kernel
theorem dX12_operand_46 : decode cX12_operand 46 = .ok (.aload_n 0, 1) := by decide +kernel
theorem dX12_operand_47 : decode cX12_operand 47 = .ok (.invokevirtual 204, 3) := by decide +kernel
theorem dX12_operand_50 : decode cX12_operand 50 = .ok (.ifCond .ne 4, 3) := by decide +kernel
theorem dX12_operand_53 : decode cX12_operand 53 = .ok (.return_, 1) := by decide +kernel
theorem dX12_operand_54 : decode cX12_operand 54 = .ok (.aload_n 0, 1) := by decide +kernel
theorem dX12_operand_55 : decode cX12_operand 55 = .ok (.invokevirtual 208, 3) := by decide +kernel
theorem dX12_operand_58 : decode cX12_operand 58 = .ok (.aload_n 0, 1) := by decide +kernel
theorem dX12_operand_59 : decode cX12_operand 59 = .ok (.dup, 1) := by decide +kernel
theorem dX12_operand_60 : decode cX12_operand 60 = .ok (.getfield 187, 3) := by decide +kernel
theorem dX12_operand_63 : decode cX12_operand 63 = .ok (.iconst 1, 1) := by decide +kernel
theorem dX12_operand_64 : decode cX12_operand 64 = .ok (.isub, 1) := by decide +kernel
theorem dX12_operand_65 : decode cX12_operand 65 = .ok (.putfield 187, 3) := by decide +kernel
theorem dX12_operand_68 : decode cX12_operand 68 = .ok (.aload_n 0, 1) := by decide +kernel
theorem dX12_operand_69 : decode cX12_operand 69 = .ok (.iload_n 1, 1) := by decide +kernel
theorem dX12_operand_70 : decode cX12_operand 70 = .ok (.bipush 33, 2) := by decide +kernel
theorem dX12_operand_72 : decode cX12_operand 72 = .ok (.if_icmp .ne 7, 3) := by decide +kernel
theorem dX12_operand_75 : decode cX12_operand 75 = .ok (.iconst 3, 1) := by decide +kernel
theorem dX12_operand_76 : decode cX12_operand 76 = .ok (.goto 4, 3) := by decide +kernel
theorem dX12_operand_79 : decode cX12_operand 79 = .ok (.iconst 4, 1) := by decide +kernel
theorem dX12_operand_80 : decode cX12_operand 80 = .ok (.iconst 0, 1) := by decide +kernel
theorem dX12_operand_81 : decode cX12_operand 81 = .ok (.invokevirtual 197, 3) := by decide +kernel
theorem dX12_operand_84 : decode cX12_operand 84 = .ok (.goto 70, 3) := by decide +kernel
theorem dX12_operand_87 : decode cX12_operand 87 = .ok (.iload_n 1, 1) := by decide +kernel
theorem dX12_operand_88 : decode cX12_operand 88 = .ok (.bipush 40, 2) := by decide +kernel
theorem dX12_operand_90 : decode cX12_operand 90 = .ok (.if_icmp .ne 60, 3) := by decide +kernel
theorem dX12_operand_93 : decode cX12_operand 93 = .ok (.aload_n 0, 1) := by decide +kernel
theorem dX12_operand_94 : decode cX12_operand 94 = .ok (.invokevirtual 204, 3) := by decide +kernel
theorem dX12_operand_97 : decode cX12_operand 97 = .ok (.ifCond .ne 4, 3) := by decide +kernel
theorem dX12_operand_100 : decode cX12_operand 100 = .ok (.return_, 1) := by decide +kernel
theorem dX12_operand_101 : decode cX12_operand 101 = .ok (.aload_n 0, 1) := by decide +kernel
theorem dX12_operand_102 : decode cX12_operand 102 = .ok (.invokevirtual 211, 3) := by decide +kernel
theorem dX12_operand_105 : decode cX12_operand 105 = .ok (.aload_n 0, 1) := by decide +kernel
theorem dX12_operand_106 : decode cX12_operand 106 = .ok (.getfield 181, 3) := by decide +kernel
theorem dX12_operand_109 : decode cX12_operand 109 = .ok (.ifCond .lt 4, 3) := by decide +kernel
theorem dX12_operand_112 : decode cX12_operand 112 = .ok (.return_, 1) := by decide +kernel
theorem dX12_operand_113 : decode cX12_operand 113 = .ok (.aload_n 0, 1) := by decide +kernel
theorem dX12_operand_114 : decode cX12_operand 114 = .ok (.invokevirtual 193, 3) := by decide +kernel
theorem dX12_operand_117 : decode cX12_operand 117 = .ok (.bipush 41, 2) := by decide +kernel
theorem dX12_operand_119 : decode cX12_operand 119 = .ok (.if_icmp .eq 8, 3) := by decide +kernel
theorem dX12_operand_122 : decode cX12_operand 122 = .ok (.aload_n 0, 1) := by decide +kernel
theorem dX12_operand_123 : decode cX12_operand 123 = .ok (.invokevirtual 190, 3) := by decide +kernel
theorem dX12_operand_126 : decode cX12_operand 126 = .ok (.return_, 1) := by decide +kernel
theorem dX12_operand_127 : decode cX12_operand 127 = .ok (.aload_n 0, 1) := by decide +kernel
theorem dX12_operand_128 : decode cX12_operand 128 = .ok (.dup, 1) := by decide +kernel
theorem dX12_operand_129 : decode cX12_operand 129 = .ok (.getfield 178, 3) := by decide +kernel
theorem dX12_operand_132 : decode cX12_operand 132 = .ok (.iconst 1, 1) := by decide +kernel
theorem dX12_operand_133 : decode cX12_operand 133 = .ok (.iadd, 1) := by decide +kernel
theorem dX12_operand_134 : decode cX12_operand 134 = .ok (.putfield 178, 3) := by decide +kernel
theorem dX12_operand_137 : decode cX12_operand 137 = .ok (.aload_n 0, 1) := by decide +kernel
theorem dX12_operand_138 : decode cX12_operand 138 = .ok (.dup, 1) := by decide +kernel
theorem dX12_operand_139 : decode cX12_operand 139 = .ok (.getfield 187, 3) := by decide +kernel
theorem dX12_operand_142 : decode cX12_operand 142 = .ok (.iconst 1, 1) := by decide +kernel
theorem dX12_operand_143 : decode cX12_operand 143 = .ok (.isub, 1) := by decide +kernel
theorem dX12_operand_144 : decode cX12_operand 144 = .ok (.putfield 187, 3) := by decide +kernel
theorem dX12_operand_147 : decode cX12_operand 147 = .ok (.goto 7, 3) := by decide +kernel
theorem dX12_operand_150 : decode cX12_operand 150 = .ok (.aload_n 0, 1) := by decide +kernel
theorem dX12_operand_151 : decode cX12_operand 151 = .ok (.invokevirtual 214, 3) := by decide +kernel
theorem dX12_operand_154 : decode cX12_operand 154 = .ok (.return_, 1) := by decide +kernel
theorem dX12_product_0 : decode cX12_product 0 = .ok (.aload_n 0, 1) := by decide +kernel
theorem dX12_product_1 : decode cX12_product 1 = .ok (.invokevirtual 208, 3) := by decide +kernel
theorem dX12_product_4 : decode cX12_product 4 = .ok (.aload_n 0, 1) := by decide +kernel
theorem dX12_product_5 : decode cX12_product 5 = .ok (.getfield 181, 3) := by decide +kernel
theorem dX12_product_8 : decode cX12_product 8 = .ok (.ifCond .ge 58, 3) := by decide +kernel
theorem dX12_product_11 : decode cX12_product 11 = .ok (.aload_n 0, 1) := by decide +kernel
theorem dX12_product_12 : decode cX12_product 12 = .ok (.invokevirtual 193, 3) := by decide +kernel
theorem dX12_product_15 : decode cX12_product 15 = .ok (.bipush 42, 2) := by decide +kernel
theorem dX12_product_17 : decode cX12_product 17 = .ok (.if_icmp .eq 21, 3) := by decide +kernel
theorem dX12_product_20 : decode cX12_product 20 = .ok (.aload_n 0, 1) := by decide +kernel
theorem dX12_product_21 : decode cX12_product 21 = .ok (.invokevirtual 193, 3) := by decide +kernel
theorem dX12_product_24 : decode cX12_product 24 = .ok (.bipush 47, 2) := by decide +kernel
theorem dX12_product_26 : decode cX12_product 26 = .ok (.if_icmp .eq 12, 3) := by decide +kernel
theorem dX12_product_29 : decode cX12_product 29 = .ok (.aload_n 0, 1) := by decide +kernel
theorem dX12_product_30 : decode cX12_product 30 = .ok (.invokevirtual 193, 3) := by decide +kernel
theorem dX12_product_33 : decode cX12_product 33 = .ok (.bipush 37, 2) := by decide +kernel
theorem dX12_product_35 : decode cX12_product 35 = .ok (.if_icmp .ne 31, 3) := by decide +kernel
theorem dX12_product_38 : decode cX12_product 38 = .ok (.aload_n 0, 1) := by decide +kernel
theorem dX12_product_39 : decode cX12_product 39 = .ok (.invokevirtual 193, 3) := by decide +kernel
theorem dX12_product_42 : decode cX12_product 42 = .ok (.istore_n 1, 1) := by decide +kernel
theorem dX12_product_43 : decode cX12_product 43 = .ok (.aload_n 0, 1) := by decide +kernel
theorem dX12_product_44 : decode cX12_product 44 = .ok (.dup, 1) := by decide +kernel
theorem dX12_product_45 : decode cX12_product 45 = .ok (.getfield 178, 3) := by decide +kernel
theorem dX12_product_48 : decode cX12_product 48 = .ok (.iconst 1, 1) := by decide +kernel
theorem dX12_product_49 : decode cX12_product 49 = .ok (.iadd, 1) := by decide +kernel
theorem dX12_product_50 : decode cX12_product 50 = .ok (.putfield 178, 3) := by decide +kernel
theorem dX12_product_53 : decode cX12_product 53 = .ok (.aload_n 0, 1) := by decide +kernel
theorem dX12_product_54 : decode cX12_product 54 = .ok (.invokevirtual 208, 3) := by decide +kernel
theorem dX12_product_57 : decode cX12_product 57 = .ok (.aload_n 0, 1) := by decide +kernel
theorem dX12_product_58 : decode cX12_product 58 = .ok (.iload_n 1, 1) := by decide +kernel
theorem dX12_product_59 : decode cX12_product 59 = .ok (.iconst 0, 1) := by decide +kernel
theorem dX12_product_60 : decode cX12_product 60 = .ok (.invokevirtual 197, 3) := by decide +kernel
theorem dX12_product_63 : decode cX12_product 63 = .ok (.goto (-59), 3) := by decide +kernel
theorem dX12_product_66 : decode cX12_product 66 = .ok (.return_, 1) := by decide +kernel
theorem dX12_sum_0 : decode cX12_sum 0 = .ok (.aload_n 0, 1) := by decide +kernel
theorem dX12_sum_1 : decode cX12_sum 1 = .ok (.invokevirtual 217, 3) := by decide +kernel
theorem dX12_sum_4 : decode cX12_sum 4 = .ok (.aload_n 0, 1) := by decide +kernel
theorem dX12_sum_5 : decode cX12_sum 5 = .ok (.getfield 181, 3) := by decide +kernel
theorem dX12_sum_8 : decode cX12_sum 8 = .ok (.ifCond .ge 49, 3) := by decide +kernel
theorem dX12_sum_11 : decode cX12_sum 11 = .ok (.aload_n 0, 1) := by decide +kernel
theorem dX12_sum_12 : decode cX12_sum 12 = .ok (.invokevirtual 193, 3) := by decide +kernel
theorem dX12_sum_15 : decode cX12_sum 15 = .ok (.bipush 43, 2) := by decide +kernel
theorem dX12_sum_17 : decode cX12_sum 17 = .ok (.if_icmp .eq 12, 3) := by decide +kernel
theorem dX12_sum_20 : decode cX12_sum 20 = .ok (.aload_n 0, 1) := by decide +kernel
theorem dX12_sum_21 : decode cX12_sum 21 = .ok (.invokevirtual 193, 3) := by decide +kernel
theorem dX12_sum_24 : decode cX12_sum 24 = .ok (.bipush 45, 2) := by decide +kernel
theorem dX12_sum_26 : decode cX12_sum 26 = .ok (.if_icmp .ne 31, 3) := by decide +kernel
theorem dX12_sum_29 : decode cX12_sum 29 = .ok (.aload_n 0, 1) := by decide +kernel
theorem dX12_sum_30 : decode cX12_sum 30 = .ok (.invokevirtual 193, 3) := by decide +kernel
theorem dX12_sum_33 : decode cX12_sum 33 = .ok (.istore_n 1, 1) := by decide +kernel
theorem dX12_sum_34 : decode cX12_sum 34 = .ok (.aload_n 0, 1) := by decide +kernel
theorem dX12_sum_35 : decode cX12_sum 35 = .ok (.dup, 1) := by decide +kernel
theorem dX12_sum_36 : decode cX12_sum 36 = .ok (.getfield 178, 3) := by decide +kernel
theorem dX12_sum_39 : decode cX12_sum 39 = .ok (.iconst 1, 1) := by decide +kernel
theorem dX12_sum_40 : decode cX12_sum 40 = .ok (.iadd, 1) := by decide +kernel
theorem dX12_sum_41 : decode cX12_sum 41 = .ok (.putfield 178, 3) := by decide +kernel
theorem dX12_sum_44 : decode cX12_sum 44 = .ok (.aload_n 0, 1) := by decide +kernel
theorem dX12_sum_45 : decode cX12_sum 45 = .ok (.invokevirtual 217, 3) := by decide +kernel
theorem dX12_sum_48 : decode cX12_sum 48 = .ok (.aload_n 0, 1) := by decide +kernel
theorem dX12_sum_49 : decode cX12_sum 49 = .ok (.iload_n 1, 1) := by decide +kernel
theorem dX12_sum_50 : decode cX12_sum 50 = .ok (.iconst 0, 1) := by decide +kernel
theorem dX12_sum_51 : decode cX12_sum 51 = .ok (.invokevirtual 197, 3) := by decide +kernel
theorem dX12_sum_54 : decode cX12_sum 54 = .ok (.goto (-50), 3) := by decide +kernel
theorem dX12_sum_57 : decode cX12_sum 57 = .ok (.return_, 1) := by decide +kernel
theorem dX12_compared_0 : decode cX12_compared 0 = .ok (.aload_n 0, 1) := by decide +kernel
theorem dX12_compared_1 : decode cX12_compared 1 = .ok (.invokevirtual 220, 3) := by decide +kernel
theorem dX12_compared_4 : decode cX12_compared 4 = .ok (.aload_n 0, 1) := by decide +kernel
theorem dX12_compared_5 : decode cX12_compared 5 = .ok (.invokevirtual 193, 3) := by decide +kernel
theorem dX12_compared_8 : decode cX12_compared 8 = .ok (.istore_n 1, 1) := by decide +kernel
theorem dX12_compared_9 : decode cX12_compared 9 = .ok (.aload_n 0, 1) := by decide +kernel
theorem dX12_compared_10 : decode cX12_compared 10 = .ok (.getfield 181, 3) := by decide +kernel
theorem dX12_compared_13 : decode cX12_compared 13 = .ok (.ifCond .ge 21, 3) := by decide +kernel
theorem dX12_compared_16 : decode cX12_compared 16 = .ok (.iload_n 1, 1) := by decide +kernel
theorem dX12_compared_17 : decode cX12_compared 17 = .ok (.bipush 60, 2) := by decide +kernel
theorem dX12_compared_19 : decode cX12_compared 19 = .ok (.if_icmp .eq 16, 3) := by decide +kernel
theorem dX12_compared_22 : decode cX12_compared 22 = .ok (.iload_n 1, 1) := by decide +kernel
theorem dX12_compared_23 : decode cX12_compared 23 = .ok (.bipush 61, 2) := by decide +kernel
theorem dX12_compared_25 : decode cX12_compared 25 = .ok (.if_icmp .eq 10, 3) := by decide +kernel
theorem dX12_compared_28 : decode cX12_compared 28 = .ok (.iload_n 1, 1) := by decide +kernel
theorem dX12_compared_29 : decode cX12_compared 29 = .ok (.bipush 62, 2) := by decide +kernel
theorem dX12_compared_31 : decode cX12_compared 31 = .ok (.if_icmp .eq 4, 3) := by decide +kernel
theorem dX12_compared_34 : decode cX12_compared 34 = .ok (.return_, 1) := by decide +kernel
theorem dX12_compared_35 : decode cX12_compared 35 = .ok (.aload_n 0, 1) := by decide +kernel
theorem dX12_compared_36 : decode cX12_compared 36 = .ok (.dup, 1) := by decide +kernel
theorem dX12_compared_37 : decode cX12_compared 37 = .ok (.getfield 178, 3) := by decide +kernel
theorem dX12_compared_40 : decode cX12_compared 40 = .ok (.iconst 1, 1) := by decide +kernel
theorem dX12_compared_41 : decode cX12_compared 41 = .ok (.iadd, 1) := by decide +kernel
theorem dX12_compared_42 : decode cX12_compared 42 = .ok (.putfield 178, 3) := by decide +kernel
theorem dX12_compared_45 : decode cX12_compared 45 = .ok (.aload_n 0, 1) := by decide +kernel
theorem dX12_compared_46 : decode cX12_compared 46 = .ok (.invokevirtual 220, 3) := by decide +kernel
theorem dX12_compared_49 : decode cX12_compared 49 = .ok (.aload_n 0, 1) := by decide +kernel
theorem dX12_compared_50 : decode cX12_compared 50 = .ok (.iload_n 1, 1) := by decide +kernel
theorem dX12_compared_51 : decode cX12_compared 51 = .ok (.iconst 0, 1) := by decide +kernel
theorem dX12_compared_52 : decode cX12_compared 52 = .ok (.invokevirtual 197, 3) := by decide +kernel
theorem dX12_compared_55 : decode cX12_compared 55 = .ok (.return_, 1) := by decide +kernel
theorem dX12_both_0 : decode cX12_both 0 = .ok (.aload_n 0, 1) := by decide +kernel
theorem dX12_both_1 : decode cX12_both 1 = .ok (.invokevirtual 223, 3) := by decide +kernel
theorem dX12_both_4 : decode cX12_both 4 = .ok (.aload_n 0, 1) := by decide +kernel
theorem dX12_both_5 : decode cX12_both 5 = .ok (.getfield 181, 3) := by decide +kernel
theorem dX12_both_8 : decode cX12_both 8 = .ok (.ifCond .ge 36, 3) := by decide +kernel
theorem dX12_both_11 : decode cX12_both 11 = .ok (.aload_n 0, 1) := by decide +kernel
theorem dX12_both_12 : decode cX12_both 12 = .ok (.invokevirtual 193, 3) := by decide +kernel
theorem dX12_both_15 : decode cX12_both 15 = .ok (.bipush 38, 2) := by decide +kernel
theorem dX12_both_17 : decode cX12_both 17 = .ok (.if_icmp .ne 27, 3) := by decide +kernel
theorem dX12_both_20 : decode cX12_both 20 = .ok (.aload_n 0, 1) := by decide +kernel
theorem dX12_both_21 : decode cX12_both 21 = .ok (.dup, 1) := by decide +kernel
theorem dX12_both_22 : decode cX12_both 22 = .ok (.getfield 178, 3) := by decide +kernel
theorem dX12_both_25 : decode cX12_both 25 = .ok (.iconst 1, 1) := by decide +kernel
theorem dX12_both_26 : decode cX12_both 26 = .ok (.iadd, 1) := by decide +kernel
theorem dX12_both_27 : decode cX12_both 27 = .ok (.putfield 178, 3) := by decide +kernel
theorem dX12_both_30 : decode cX12_both 30 = .ok (.aload_n 0, 1) := by decide +kernel
theorem dX12_both_31 : decode cX12_both 31 = .ok (.invokevirtual 223, 3) := by decide +kernel
theorem dX12_both_34 : decode cX12_both 34 = .ok (.aload_n 0, 1) := by decide +kernel
theorem dX12_both_35 : decode cX12_both 35 = .ok (.bipush 38, 2) := by decide +kernel
theorem dX12_both_37 : decode cX12_both 37 = .ok (.iconst 0, 1) := by decide +kernel
theorem dX12_both_38 : decode cX12_both 38 = .ok (.invokevirtual 197, 3) := by decide +kernel
theorem dX12_both_41 : decode cX12_both 41 = .ok (.goto (-37), 3) := by decide +kernel
theorem dX12_both_44 : decode cX12_both 44 = .ok (.return_, 1) := by decide +kernel
theorem dX12_either_0 : decode cX12_either 0 = .ok (.aload_n 0, 1) := by decide +kernel
theorem dX12_either_1 : decode cX12_either 1 = .ok (.invokevirtual 226, 3) := by decide +kernel
theorem dX12_either_4 : decode cX12_either 4 = .ok (.aload_n 0, 1) := by decide +kernel
theorem dX12_either_5 : decode cX12_either 5 = .ok (.getfield 181, 3) := by decide +kernel
theorem dX12_either_8 : decode cX12_either 8 = .ok (.ifCond .ge 36, 3) := by decide +kernel
theorem dX12_either_11 : decode cX12_either 11 = .ok (.aload_n 0, 1) := by decide +kernel
theorem dX12_either_12 : decode cX12_either 12 = .ok (.invokevirtual 193, 3) := by decide +kernel
theorem dX12_either_15 : decode cX12_either 15 = .ok (.bipush 124, 2) := by decide +kernel
