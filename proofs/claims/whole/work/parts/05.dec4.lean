/-! what each instruction is (rows that TURN printed) -/
theorem dX12_either_17 : decode cX12_either 17 = .ok (.if_icmp .ne 27, 3) := by decide +kernel
theorem dX12_either_20 : decode cX12_either 20 = .ok (.aload_n 0, 1) := by decide +kernel
theorem dX12_either_21 : decode cX12_either 21 = .ok (.dup, 1) := by decide +kernel
theorem dX12_either_22 : decode cX12_either 22 = .ok (.getfield 178, 3) := by decide +kernel
theorem dX12_either_25 : decode cX12_either 25 = .ok (.iconst 1, 1) := by decide +kernel
theorem dX12_either_26 : decode cX12_either 26 = .ok (.iadd, 1) := by decide +kernel
theorem dX12_either_27 : decode cX12_either 27 = .ok (.putfield 178, 3) := by decide +kernel
theorem dX12_either_30 : decode cX12_either 30 = .ok (.aload_n 0, 1) := by decide +kernel
theorem dX12_either_31 : decode cX12_either 31 = .ok (.invokevirtual 226, 3) := by decide +kernel
theorem dX12_either_34 : decode cX12_either 34 = .ok (.aload_n 0, 1) := by decide +kernel
theorem dX12_either_35 : decode cX12_either 35 = .ok (.bipush 124, 2) := by decide +kernel
theorem dX12_either_37 : decode cX12_either 37 = .ok (.iconst 0, 1) := by decide +kernel
theorem dX12_either_38 : decode cX12_either 38 = .ok (.invokevirtual 197, 3) := by decide +kernel
theorem dX12_either_41 : decode cX12_either 41 = .ok (.goto (-37), 3) := by decide +kernel
theorem dX12_either_44 : decode cX12_either 44 = .ok (.return_, 1) := by decide +kernel
theorem dX12_line_0 : decode cX12_line 0 = .ok (.bipush 61, 2) := by decide +kernel
theorem dX12_line_2 : decode cX12_line 2 = .ok (.aload_n 0, 1) := by decide +kernel
theorem dX12_line_3 : decode cX12_line 3 = .ok (.getfield 54, 3) := by decide +kernel
theorem dX12_line_6 : decode cX12_line 6 = .ok (.iconst 1, 1) := by decide +kernel
theorem dX12_line_7 : decode cX12_line 7 = .ok (.iaload, 1) := by decide +kernel
theorem dX12_line_8 : decode cX12_line 8 = .ok (.iadd, 1) := by decide +kernel
theorem dX12_line_9 : decode cX12_line 9 = .ok (.istore_n 1, 1) := by decide +kernel
theorem dX12_line_10 : decode cX12_line 10 = .ok (.aload_n 0, 1) := by decide +kernel
theorem dX12_line_11 : decode cX12_line 11 = .ok (.getfield 57, 3) := by decide +kernel
theorem dX12_line_14 : decode cX12_line 14 = .ok (.iload_n 1, 1) := by decide +kernel
theorem dX12_line_15 : decode cX12_line 15 = .ok (.aload_n 0, 1) := by decide +kernel
theorem dX12_line_16 : decode cX12_line 16 = .ok (.getfield 184, 3) := by decide +kernel
theorem dX12_line_19 : decode cX12_line 19 = .ok (.i2s, 1) := by decide +kernel
theorem dX12_line_20 : decode cX12_line 20 = .ok (.sastore, 1) := by decide +kernel
theorem dX12_line_21 : decode cX12_line 21 = .ok (.aload_n 0, 1) := by decide +kernel
theorem dX12_line_22 : decode cX12_line 22 = .ok (.invokevirtual 211, 3) := by decide +kernel
theorem dX12_line_25 : decode cX12_line 25 = .ok (.aload_n 0, 1) := by decide +kernel
theorem dX12_line_26 : decode cX12_line 26 = .ok (.getfield 181, 3) := by decide +kernel
theorem dX12_line_29 : decode cX12_line 29 = .ok (.ifCond .ge 37, 3) := by decide +kernel
theorem dX12_line_32 : decode cX12_line 32 = .ok (.aload_n 0, 1) := by decide +kernel
theorem dX12_line_33 : decode cX12_line 33 = .ok (.invokevirtual 193, 3) := by decide +kernel
theorem dX12_line_36 : decode cX12_line 36 = .ok (.bipush 63, 2) := by decide +kernel
theorem dX12_line_38 : decode cX12_line 38 = .ok (.if_icmp .ne 28, 3) := by decide +kernel
theorem dX12_line_41 : decode cX12_line 41 = .ok (.aload_n 0, 1) := by decide +kernel
theorem dX12_line_42 : decode cX12_line 42 = .ok (.dup, 1) := by decide +kernel
theorem dX12_line_43 : decode cX12_line 43 = .ok (.getfield 178, 3) := by decide +kernel
theorem dX12_line_46 : decode cX12_line 46 = .ok (.iconst 1, 1) := by decide +kernel
theorem dX12_line_47 : decode cX12_line 47 = .ok (.iadd, 1) := by decide +kernel
theorem dX12_line_48 : decode cX12_line 48 = .ok (.putfield 178, 3) := by decide +kernel
theorem dX12_line_51 : decode cX12_line 51 = .ok (.aload_n 0, 1) := by decide +kernel
theorem dX12_line_52 : decode cX12_line 52 = .ok (.getfield 57, 3) := by decide +kernel
theorem dX12_line_55 : decode cX12_line 55 = .ok (.iload_n 1, 1) := by decide +kernel
theorem dX12_line_56 : decode cX12_line 56 = .ok (.aload_n 0, 1) := by decide +kernel
theorem dX12_line_57 : decode cX12_line 57 = .ok (.getfield 184, 3) := by decide +kernel
theorem dX12_line_60 : decode cX12_line 60 = .ok (.i2s, 1) := by decide +kernel
theorem dX12_line_61 : decode cX12_line 61 = .ok (.sastore, 1) := by decide +kernel
theorem dX12_line_62 : decode cX12_line 62 = .ok (.aload_n 0, 1) := by decide +kernel
theorem dX12_line_63 : decode cX12_line 63 = .ok (.invokevirtual 211, 3) := by decide +kernel
theorem dX12_line_66 : decode cX12_line 66 = .ok (.aload_n 0, 1) := by decide +kernel
theorem dX12_line_67 : decode cX12_line 67 = .ok (.getfield 61, 3) := by decide +kernel
theorem dX12_line_70 : decode cX12_line 70 = .ok (.iload_n 1, 1) := by decide +kernel
theorem dX12_line_71 : decode cX12_line 71 = .ok (.aload_n 0, 1) := by decide +kernel
theorem dX12_line_72 : decode cX12_line 72 = .ok (.getfield 184, 3) := by decide +kernel
theorem dX12_line_75 : decode cX12_line 75 = .ok (.i2s, 1) := by decide +kernel
theorem dX12_line_76 : decode cX12_line 76 = .ok (.sastore, 1) := by decide +kernel
theorem dX12_line_77 : decode cX12_line 77 = .ok (.aload_n 0, 1) := by decide +kernel
theorem dX12_line_78 : decode cX12_line 78 = .ok (.getfield 54, 3) := by decide +kernel
theorem dX12_line_81 : decode cX12_line 81 = .ok (.iconst 1, 1) := by decide +kernel
theorem dX12_line_82 : decode cX12_line 82 = .ok (.dup2, 1) := by decide +kernel
theorem dX12_line_83 : decode cX12_line 83 = .ok (.iaload, 1) := by decide +kernel
theorem dX12_line_84 : decode cX12_line 84 = .ok (.iconst 1, 1) := by decide +kernel
theorem dX12_line_85 : decode cX12_line 85 = .ok (.iadd, 1) := by decide +kernel
theorem dX12_line_86 : decode cX12_line 86 = .ok (.iastore, 1) := by decide +kernel
theorem dX12_line_87 : decode cX12_line 87 = .ok (.return_, 1) := by decide +kernel
theorem dX12_readText_0 : decode cX12_readText 0 = .ok (.aload_n 0, 1) := by decide +kernel
theorem dX12_readText_1 : decode cX12_readText 1 = .ok (.iconst 0, 1) := by decide +kernel
theorem dX12_readText_2 : decode cX12_readText 2 = .ok (.putfield 178, 3) := by decide +kernel
theorem dX12_readText_5 : decode cX12_readText 5 = .ok (.aload_n 0, 1) := by decide +kernel
theorem dX12_readText_6 : decode cX12_readText 6 = .ok (.iconst (-1), 1) := by decide +kernel
theorem dX12_readText_7 : decode cX12_readText 7 = .ok (.putfield 181, 3) := by decide +kernel
theorem dX12_readText_10 : decode cX12_readText 10 = .ok (.aload_n 0, 1) := by decide +kernel
theorem dX12_readText_11 : decode cX12_readText 11 = .ok (.iconst 0, 1) := by decide +kernel
theorem dX12_readText_12 : decode cX12_readText 12 = .ok (.putfield 187, 3) := by decide +kernel
theorem dX12_readText_15 : decode cX12_readText 15 = .ok (.aload_n 0, 1) := by decide +kernel
theorem dX12_readText_16 : decode cX12_readText 16 = .ok (.iconst 0, 1) := by decide +kernel
theorem dX12_readText_17 : decode cX12_readText 17 = .ok (.putfield 184, 3) := by decide +kernel
theorem dX12_readText_20 : decode cX12_readText 20 = .ok (.aload_n 0, 1) := by decide +kernel
theorem dX12_readText_21 : decode cX12_readText 21 = .ok (.getfield 54, 3) := by decide +kernel
theorem dX12_readText_24 : decode cX12_readText 24 = .ok (.iconst 1, 1) := by decide +kernel
theorem dX12_readText_25 : decode cX12_readText 25 = .ok (.iconst 0, 1) := by decide +kernel
theorem dX12_readText_26 : decode cX12_readText 26 = .ok (.iastore, 1) := by decide +kernel
theorem dX12_readText_27 : decode cX12_readText 27 = .ok (.aload_n 0, 1) := by decide +kernel
theorem dX12_readText_28 : decode cX12_readText 28 = .ok (.invokevirtual 229, 3) := by decide +kernel
theorem dX12_readText_31 : decode cX12_readText 31 = .ok (.aload_n 0, 1) := by decide +kernel
theorem dX12_readText_32 : decode cX12_readText 32 = .ok (.getfield 181, 3) := by decide +kernel
theorem dX12_readText_35 : decode cX12_readText 35 = .ok (.ifCond .ge 29, 3) := by decide +kernel
theorem dX12_readText_38 : decode cX12_readText 38 = .ok (.aload_n 0, 1) := by decide +kernel
theorem dX12_readText_39 : decode cX12_readText 39 = .ok (.invokevirtual 193, 3) := by decide +kernel
theorem dX12_readText_42 : decode cX12_readText 42 = .ok (.bipush 59, 2) := by decide +kernel
theorem dX12_readText_44 : decode cX12_readText 44 = .ok (.if_icmp .ne 20, 3) := by decide +kernel
theorem dX12_readText_47 : decode cX12_readText 47 = .ok (.aload_n 0, 1) := by decide +kernel
theorem dX12_readText_48 : decode cX12_readText 48 = .ok (.dup, 1) := by decide +kernel
theorem dX12_readText_49 : decode cX12_readText 49 = .ok (.getfield 178, 3) := by decide +kernel
theorem dX12_readText_52 : decode cX12_readText 52 = .ok (.iconst 1, 1) := by decide +kernel
theorem dX12_readText_53 : decode cX12_readText 53 = .ok (.iadd, 1) := by decide +kernel
theorem dX12_readText_54 : decode cX12_readText 54 = .ok (.putfield 178, 3) := by decide +kernel
theorem dX12_readText_57 : decode cX12_readText 57 = .ok (.aload_n 0, 1) := by decide +kernel
theorem dX12_readText_58 : decode cX12_readText 58 = .ok (.invokevirtual 229, 3) := by decide +kernel
theorem dX12_readText_61 : decode cX12_readText 61 = .ok (.goto (-30), 3) := by decide +kernel
theorem dX12_readText_64 : decode cX12_readText 64 = .ok (.aload_n 0, 1) := by decide +kernel
theorem dX12_readText_65 : decode cX12_readText 65 = .ok (.getfield 181, 3) := by decide +kernel
theorem dX12_readText_68 : decode cX12_readText 68 = .ok (.ifCond .ge 18, 3) := by decide +kernel
theorem dX12_readText_71 : decode cX12_readText 71 = .ok (.aload_n 0, 1) := by decide +kernel
theorem dX12_readText_72 : decode cX12_readText 72 = .ok (.getfield 178, 3) := by decide +kernel
theorem dX12_readText_75 : decode cX12_readText 75 = .ok (.aload_n 0, 1) := by decide +kernel
theorem dX12_readText_76 : decode cX12_readText 76 = .ok (.getfield 175, 3) := by decide +kernel
theorem dX12_readText_79 : decode cX12_readText 79 = .ok (.if_icmp .ge 7, 3) := by decide +kernel
theorem dX12_readText_82 : decode cX12_readText 82 = .ok (.aload_n 0, 1) := by decide +kernel
theorem dX12_readText_83 : decode cX12_readText 83 = .ok (.invokevirtual 190, 3) := by decide +kernel
theorem dX12_readText_86 : decode cX12_readText 86 = .ok (.aload_n 0, 1) := by decide +kernel
theorem dX12_readText_87 : decode cX12_readText 87 = .ok (.iconst 0, 1) := by decide +kernel
theorem dX12_readText_88 : decode cX12_readText 88 = .ok (.putfield 175, 3) := by decide +kernel
theorem dX12_readText_91 : decode cX12_readText 91 = .ok (.aload_n 0, 1) := by decide +kernel
theorem dX12_readText_92 : decode cX12_readText 92 = .ok (.getfield 181, 3) := by decide +kernel
theorem dX12_readText_95 : decode cX12_readText 95 = .ok (.ifCond .lt 8, 3) := by decide +kernel
theorem dX12_readText_98 : decode cX12_readText 98 = .ok (.aload_n 0, 1) := by decide +kernel
theorem dX12_readText_99 : decode cX12_readText 99 = .ok (.getfield 181, 3) := by decide +kernel
theorem dX12_readText_102 : decode cX12_readText 102 = .ok (.ireturn, 1) := by decide +kernel
theorem dX12_readText_103 : decode cX12_readText 103 = .ok (.iconst 0, 1) := by decide +kernel
theorem dX12_readText_104 : decode cX12_readText 104 = .ok (.istore_n 2, 1) := by decide +kernel
theorem dX12_readText_105 : decode cX12_readText 105 = .ok (.iload_n 2, 1) := by decide +kernel
theorem dX12_readText_106 : decode cX12_readText 106 = .ok (.aload_n 0, 1) := by decide +kernel
theorem dX12_readText_107 : decode cX12_readText 107 = .ok (.getfield 184, 3) := by decide +kernel
theorem dX12_readText_110 : decode cX12_readText 110 = .ok (.if_icmp .ge 53, 3) := by decide +kernel
theorem dX12_readText_113 : decode cX12_readText 113 = .ok (.aload_n 0, 1) := by decide +kernel
theorem dX12_readText_114 : decode cX12_readText 114 = .ok (.getfield 48, 3) := by decide +kernel
theorem dX12_readText_117 : decode cX12_readText 117 = .ok (.sipush 130, 3) := by decide +kernel
theorem dX12_readText_120 : decode cX12_readText 120 = .ok (.iload_n 1, 1) := by decide +kernel
theorem dX12_readText_121 : decode cX12_readText 121 = .ok (.imul, 1) := by decide +kernel
theorem dX12_readText_122 : decode cX12_readText 122 = .ok (.iload_n 2, 1) := by decide +kernel
theorem dX12_readText_123 : decode cX12_readText 123 = .ok (.iadd, 1) := by decide +kernel
theorem dX12_readText_124 : decode cX12_readText 124 = .ok (.aload_n 0, 1) := by decide +kernel
theorem dX12_readText_125 : decode cX12_readText 125 = .ok (.getfield 48, 3) := by decide +kernel
theorem dX12_readText_128 : decode cX12_readText 128 = .ok (.sipush 130, 3) := by decide +kernel
theorem dX12_readText_131 : decode cX12_readText 131 = .ok (.iload_n 2, 1) := by decide +kernel
theorem dX12_readText_132 : decode cX12_readText 132 = .ok (.iadd, 1) := by decide +kernel
theorem dX12_readText_133 : decode cX12_readText 133 = .ok (.baload, 1) := by decide +kernel
theorem dX12_readText_134 : decode cX12_readText 134 = .ok (.bastore, 1) := by decide +kernel
theorem dX12_readText_135 : decode cX12_readText 135 = .ok (.aload_n 0, 1) := by decide +kernel
theorem dX12_readText_136 : decode cX12_readText 136 = .ok (.getfield 51, 3) := by decide +kernel
theorem dX12_readText_139 : decode cX12_readText 139 = .ok (.sipush 130, 3) := by decide +kernel
theorem dX12_readText_142 : decode cX12_readText 142 = .ok (.iload_n 1, 1) := by decide +kernel
theorem dX12_readText_143 : decode cX12_readText 143 = .ok (.imul, 1) := by decide +kernel
theorem dX12_readText_144 : decode cX12_readText 144 = .ok (.iload_n 2, 1) := by decide +kernel
theorem dX12_readText_145 : decode cX12_readText 145 = .ok (.iadd, 1) := by decide +kernel
theorem dX12_readText_146 : decode cX12_readText 146 = .ok (.aload_n 0, 1) := by decide +kernel
theorem dX12_readText_147 : decode cX12_readText 147 = .ok (.getfield 51, 3) := by decide +kernel
theorem dX12_readText_150 : decode cX12_readText 150 = .ok (.sipush 130, 3) := by decide +kernel
theorem dX12_readText_153 : decode cX12_readText 153 = .ok (.iload_n 2, 1) := by decide +kernel
theorem dX12_readText_154 : decode cX12_readText 154 = .ok (.iadd, 1) := by decide +kernel
theorem dX12_readText_155 : decode cX12_readText 155 = .ok (.iaload, 1) := by decide +kernel
theorem dX12_readText_156 : decode cX12_readText 156 = .ok (.iastore, 1) := by decide +kernel
theorem dX12_readText_157 : decode cX12_readText 157 = .ok (.iinc 2 1, 3) := by decide +kernel
theorem dX12_readText_160 : decode cX12_readText 160 = .ok (.goto (-55), 3) := by decide +kernel
theorem dX12_readText_163 : decode cX12_readText 163 = .ok (.aload_n 0, 1) := by decide +kernel
theorem dX12_readText_164 : decode cX12_readText 164 = .ok (.getfield 54, 3) := by decide +kernel
theorem dX12_readText_167 : decode cX12_readText 167 = .ok (.iload_n 1, 1) := by decide +kernel
theorem dX12_readText_168 : decode cX12_readText 168 = .ok (.aload_n 0, 1) := by decide +kernel
theorem dX12_readText_169 : decode cX12_readText 169 = .ok (.getfield 54, 3) := by decide +kernel
theorem dX12_readText_172 : decode cX12_readText 172 = .ok (.iconst 1, 1) := by decide +kernel
theorem dX12_readText_173 : decode cX12_readText 173 = .ok (.iaload, 1) := by decide +kernel
theorem dX12_readText_174 : decode cX12_readText 174 = .ok (.iastore, 1) := by decide +kernel
theorem dX12_readText_175 : decode cX12_readText 175 = .ok (.iconst 0, 1) := by decide +kernel
theorem dX12_readText_176 : decode cX12_readText 176 = .ok (.istore_n 2, 1) := by decide +kernel
theorem dX12_readText_177 : decode cX12_readText 177 = .ok (.iload_n 2, 1) := by decide +kernel
theorem dX12_readText_178 : decode cX12_readText 178 = .ok (.aload_n 0, 1) := by decide +kernel
theorem dX12_readText_179 : decode cX12_readText 179 = .ok (.getfield 54, 3) := by decide +kernel
theorem dX12_readText_182 : decode cX12_readText 182 = .ok (.iload_n 1, 1) := by decide +kernel
theorem dX12_readText_183 : decode cX12_readText 183 = .ok (.iaload, 1) := by decide +kernel
theorem dX12_readText_184 : decode cX12_readText 184 = .ok (.if_icmp .ge 49, 3) := by decide +kernel
theorem dX12_readText_187 : decode cX12_readText 187 = .ok (.aload_n 0, 1) := by decide +kernel
theorem dX12_readText_188 : decode cX12_readText 188 = .ok (.getfield 57, 3) := by decide +kernel
theorem dX12_readText_191 : decode cX12_readText 191 = .ok (.bipush 61, 2) := by decide +kernel
theorem dX12_readText_193 : decode cX12_readText 193 = .ok (.iload_n 1, 1) := by decide +kernel
theorem dX12_readText_194 : decode cX12_readText 194 = .ok (.imul, 1) := by decide +kernel
theorem dX12_readText_195 : decode cX12_readText 195 = .ok (.iload_n 2, 1) := by decide +kernel
theorem dX12_readText_196 : decode cX12_readText 196 = .ok (.iadd, 1) := by decide +kernel
theorem dX12_readText_197 : decode cX12_readText 197 = .ok (.aload_n 0, 1) := by decide +kernel
theorem dX12_readText_198 : decode cX12_readText 198 = .ok (.getfield 57, 3) := by decide +kernel
theorem dX12_readText_201 : decode cX12_readText 201 = .ok (.bipush 61, 2) := by decide +kernel
theorem dX12_readText_203 : decode cX12_readText 203 = .ok (.iload_n 2, 1) := by decide +kernel
theorem dX12_readText_204 : decode cX12_readText 204 = .ok (.iadd, 1) := by decide +kernel
theorem dX12_readText_205 : decode cX12_readText 205 = .ok (.saload, 1) := by decide +kernel
theorem dX12_readText_206 : decode cX12_readText 206 = .ok (.sastore, 1) := by decide +kernel
theorem dX12_readText_207 : decode cX12_readText 207 = .ok (.aload_n 0, 1) := by decide +kernel
theorem dX12_readText_208 : decode cX12_readText 208 = .ok (.getfield 61, 3) := by decide +kernel
theorem dX12_readText_211 : decode cX12_readText 211 = .ok (.bipush 61, 2) := by decide +kernel
theorem dX12_readText_213 : decode cX12_readText 213 = .ok (.iload_n 1, 1) := by decide +kernel
theorem dX12_readText_214 : decode cX12_readText 214 = .ok (.imul, 1) := by decide +kernel
theorem dX12_readText_215 : decode cX12_readText 215 = .ok (.iload_n 2, 1) := by decide +kernel
theorem dX12_readText_216 : decode cX12_readText 216 = .ok (.iadd, 1) := by decide +kernel
theorem dX12_readText_217 : decode cX12_readText 217 = .ok (.aload_n 0, 1) := by decide +kernel
theorem dX12_readText_218 : decode cX12_readText 218 = .ok (.getfield 61, 3) := by decide +kernel
theorem dX12_readText_221 : decode cX12_readText 221 = .ok (.bipush 61, 2) := by decide +kernel
theorem dX12_readText_223 : decode cX12_readText 223 = .ok (.iload_n 2, 1) := by decide +kernel
theorem dX12_readText_224 : decode cX12_readText 224 = .ok (.iadd, 1) := by decide +kernel
theorem dX12_readText_225 : decode cX12_readText 225 = .ok (.saload, 1) := by decide +kernel
theorem dX12_readText_226 : decode cX12_readText 226 = .ok (.sastore, 1) := by decide +kernel
theorem dX12_readText_227 : decode cX12_readText 227 = .ok (.iinc 2 1, 3) := by decide +kernel
theorem dX12_readText_230 : decode cX12_readText 230 = .ok (.goto (-53), 3) := by decide +kernel
theorem dX12_readText_233 : decode cX12_readText 233 = .ok (.iconst (-1), 1) := by decide +kernel
theorem dX12_readText_234 : decode cX12_readText 234 = .ok (.ireturn, 1) := by decide +kernel
theorem dX12_twoOf_0 : decode cX12_twoOf 0 = .ok (.iload_n 0, 1) := by decide +kernel
theorem dX12_twoOf_1 : decode cX12_twoOf 1 = .ok (.tableswitch 217 37 62 #[153, 203, 217, 217, 217, 127, 119, 217, 123, 217, 131, 217, 217, 217, 217, 217, 217, 217, 217, 217, 217, 217, 217, 170, 181, 192], 119) := by decide +kernel
theorem dX12_twoOf_120 : decode cX12_twoOf 120 = .ok (.iload_n 1, 1) := by decide +kernel
theorem dX12_twoOf_121 : decode cX12_twoOf 121 = .ok (.iload_n 2, 1) := by decide +kernel
theorem dX12_twoOf_122 : decode cX12_twoOf 122 = .ok (.iadd, 1) := by decide +kernel
theorem dX12_twoOf_123 : decode cX12_twoOf 123 = .ok (.ireturn, 1) := by decide +kernel
theorem dX12_twoOf_124 : decode cX12_twoOf 124 = .ok (.iload_n 1, 1) := by decide +kernel
theorem dX12_twoOf_125 : decode cX12_twoOf 125 = .ok (.iload_n 2, 1) := by decide +kernel
theorem dX12_twoOf_126 : decode cX12_twoOf 126 = .ok (.isub, 1) := by decide +kernel
theorem dX12_twoOf_127 : decode cX12_twoOf 127 = .ok (.ireturn, 1) := by decide +kernel
theorem dX12_twoOf_128 : decode cX12_twoOf 128 = .ok (.iload_n 1, 1) := by decide +kernel
theorem dX12_twoOf_129 : decode cX12_twoOf 129 = .ok (.iload_n 2, 1) := by decide +kernel
theorem dX12_twoOf_130 : decode cX12_twoOf 130 = .ok (.imul, 1) := by decide +kernel
theorem dX12_twoOf_131 : decode cX12_twoOf 131 = .ok (.ireturn, 1) := by decide +kernel
theorem dX12_twoOf_132 : decode cX12_twoOf 132 = .ok (.iload_n 2, 1) := by decide +kernel
theorem dX12_twoOf_133 : decode cX12_twoOf 133 = .ok (.ifCond .ne 7, 3) := by decide +kernel
theorem dX12_twoOf_136 : decode cX12_twoOf 136 = .ok (.iconst 0, 1) := by decide +kernel
theorem dX12_twoOf_137 : decode cX12_twoOf 137 = .ok (.goto 16, 3) := by decide +kernel
theorem dX12_twoOf_140 : decode cX12_twoOf 140 = .ok (.iload_n 2, 1) := by decide +kernel
theorem dX12_twoOf_141 : decode cX12_twoOf 141 = .ok (.iconst (-1), 1) := by decide +kernel
theorem dX12_twoOf_142 : decode cX12_twoOf 142 = .ok (.if_icmp .ne 8, 3) := by decide +kernel
theorem dX12_twoOf_145 : decode cX12_twoOf 145 = .ok (.iload_n 1, 1) := by decide +kernel
theorem dX12_twoOf_146 : decode cX12_twoOf 146 = .ok (.ineg, 1) := by decide +kernel
theorem dX12_twoOf_147 : decode cX12_twoOf 147 = .ok (.goto 6, 3) := by decide +kernel
theorem dX12_twoOf_150 : decode cX12_twoOf 150 = .ok (.iload_n 1, 1) := by decide +kernel
theorem dX12_twoOf_151 : decode cX12_twoOf 151 = .ok (.iload_n 2, 1) := by decide +kernel
theorem dX12_twoOf_152 : decode cX12_twoOf 152 = .ok (.idiv, 1) := by decide +kernel
theorem dX12_twoOf_153 : decode cX12_twoOf 153 = .ok (.ireturn, 1) := by decide +kernel
theorem dX12_twoOf_154 : decode cX12_twoOf 154 = .ok (.iload_n 2, 1) := by decide +kernel
theorem dX12_twoOf_155 : decode cX12_twoOf 155 = .ok (.ifCond .eq 8, 3) := by decide +kernel
theorem dX12_twoOf_158 : decode cX12_twoOf 158 = .ok (.iload_n 2, 1) := by decide +kernel
theorem dX12_twoOf_159 : decode cX12_twoOf 159 = .ok (.iconst (-1), 1) := by decide +kernel
theorem dX12_twoOf_160 : decode cX12_twoOf 160 = .ok (.if_icmp .ne 7, 3) := by decide +kernel
theorem dX12_twoOf_163 : decode cX12_twoOf 163 = .ok (.iconst 0, 1) := by decide +kernel
theorem dX12_twoOf_164 : decode cX12_twoOf 164 = .ok (.goto 6, 3) := by decide +kernel
theorem dX12_twoOf_167 : decode cX12_twoOf 167 = .ok (.iload_n 1, 1) := by decide +kernel
theorem dX12_twoOf_168 : decode cX12_twoOf 168 = .ok (.iload_n 2, 1) := by decide +kernel
theorem dX12_twoOf_169 : decode cX12_twoOf 169 = .ok (.irem, 1) := by decide +kernel
theorem dX12_twoOf_170 : decode cX12_twoOf 170 = .ok (.ireturn, 1) := by decide +kernel
theorem dX12_twoOf_171 : decode cX12_twoOf 171 = .ok (.iload_n 1, 1) := by decide +kernel
theorem dX12_twoOf_172 : decode cX12_twoOf 172 = .ok (.iload_n 2, 1) := by decide +kernel
theorem dX12_twoOf_173 : decode cX12_twoOf 173 = .ok (.if_icmp .ge 7, 3) := by decide +kernel
theorem dX12_twoOf_176 : decode cX12_twoOf 176 = .ok (.iconst 1, 1) := by decide +kernel
theorem dX12_twoOf_177 : decode cX12_twoOf 177 = .ok (.goto 4, 3) := by decide +kernel
theorem dX12_twoOf_180 : decode cX12_twoOf 180 = .ok (.iconst 0, 1) := by decide +kernel
theorem dX12_twoOf_181 : decode cX12_twoOf 181 = .ok (.ireturn, 1) := by decide +kernel
theorem dX12_twoOf_182 : decode cX12_twoOf 182 = .ok (.iload_n 1, 1) := by decide +kernel
theorem dX12_twoOf_183 : decode cX12_twoOf 183 = .ok (.iload_n 2, 1) := by decide +kernel
theorem dX12_twoOf_184 : decode cX12_twoOf 184 = .ok (.if_icmp .ne 7, 3) := by decide +kernel
theorem dX12_twoOf_187 : decode cX12_twoOf 187 = .ok (.iconst 1, 1) := by decide +kernel
theorem dX12_twoOf_188 : decode cX12_twoOf 188 = .ok (.goto 4, 3) := by decide +kernel
theorem dX12_twoOf_191 : decode cX12_twoOf 191 = .ok (.iconst 0, 1) := by decide +kernel
theorem dX12_twoOf_192 : decode cX12_twoOf 192 = .ok (.ireturn, 1) := by decide +kernel
theorem dX12_twoOf_193 : decode cX12_twoOf 193 = .ok (.iload_n 1, 1) := by decide +kernel
theorem dX12_twoOf_194 : decode cX12_twoOf 194 = .ok (.iload_n 2, 1) := by decide +kernel
theorem dX12_twoOf_195 : decode cX12_twoOf 195 = .ok (.if_icmp .le 7, 3) := by decide +kernel
theorem dX12_twoOf_198 : decode cX12_twoOf 198 = .ok (.iconst 1, 1) := by decide +kernel
theorem dX12_twoOf_199 : decode cX12_twoOf 199 = .ok (.goto 4, 3) := by decide +kernel
theorem dX12_twoOf_202 : decode cX12_twoOf 202 = .ok (.iconst 0, 1) := by decide +kernel
theorem dX12_twoOf_203 : decode cX12_twoOf 203 = .ok (.ireturn, 1) := by decide +kernel
theorem dX12_twoOf_204 : decode cX12_twoOf 204 = .ok (.iload_n 1, 1) := by decide +kernel
theorem dX12_twoOf_205 : decode cX12_twoOf 205 = .ok (.ifCond .eq 11, 3) := by decide +kernel
theorem dX12_twoOf_208 : decode cX12_twoOf 208 = .ok (.iload_n 2, 1) := by decide +kernel
theorem dX12_twoOf_209 : decode cX12_twoOf 209 = .ok (.ifCond .eq 7, 3) := by decide +kernel
theorem dX12_twoOf_212 : decode cX12_twoOf 212 = .ok (.iconst 1, 1) := by decide +kernel
theorem dX12_twoOf_213 : decode cX12_twoOf 213 = .ok (.goto 4, 3) := by decide +kernel
theorem dX12_twoOf_216 : decode cX12_twoOf 216 = .ok (.iconst 0, 1) := by decide +kernel
theorem dX12_twoOf_217 : decode cX12_twoOf 217 = .ok (.ireturn, 1) := by decide +kernel
theorem dX12_twoOf_218 : decode cX12_twoOf 218 = .ok (.iload_n 1, 1) := by decide +kernel
theorem dX12_twoOf_219 : decode cX12_twoOf 219 = .ok (.ifCond .ne 7, 3) := by decide +kernel
theorem dX12_twoOf_222 : decode cX12_twoOf 222 = .ok (.iload_n 2, 1) := by decide +kernel
theorem dX12_twoOf_223 : decode cX12_twoOf 223 = .ok (.ifCond .eq 7, 3) := by decide +kernel
theorem dX12_twoOf_226 : decode cX12_twoOf 226 = .ok (.iconst 1, 1) := by decide +kernel
theorem dX12_twoOf_227 : decode cX12_twoOf 227 = .ok (.goto 4, 3) := by decide +kernel
theorem dX12_twoOf_230 : decode cX12_twoOf 230 = .ok (.iconst 0, 1) := by decide +kernel
theorem dX12_twoOf_231 : decode cX12_twoOf 231 = .ok (.ireturn, 1) := by decide +kernel
theorem dX12_worked_0 : decode cX12_worked 0 = .ok (.iconst 0, 1) := by decide +kernel
theorem dX12_worked_1 : decode cX12_worked 1 = .ok (.istore 4, 2) := by decide +kernel
theorem dX12_worked_3 : decode cX12_worked 3 = .ok (.sipush 130, 3) := by decide +kernel
theorem dX12_worked_6 : decode cX12_worked 6 = .ok (.iload_n 1, 1) := by decide +kernel
theorem dX12_worked_7 : decode cX12_worked 7 = .ok (.imul, 1) := by decide +kernel
theorem dX12_worked_8 : decode cX12_worked 8 = .ok (.iload_n 2, 1) := by decide +kernel
theorem dX12_worked_9 : decode cX12_worked 9 = .ok (.iadd, 1) := by decide +kernel
theorem dX12_worked_10 : decode cX12_worked 10 = .ok (.istore 5, 2) := by decide +kernel
theorem dX12_worked_12 : decode cX12_worked 12 = .ok (.iload 5, 2) := by decide +kernel
theorem dX12_worked_14 : decode cX12_worked 14 = .ok (.sipush 130, 3) := by decide +kernel
theorem dX12_worked_17 : decode cX12_worked 17 = .ok (.iload_n 1, 1) := by decide +kernel
theorem dX12_worked_18 : decode cX12_worked 18 = .ok (.imul, 1) := by decide +kernel
theorem dX12_worked_19 : decode cX12_worked 19 = .ok (.iload_n 3, 1) := by decide +kernel
theorem dX12_worked_20 : decode cX12_worked 20 = .ok (.iadd, 1) := by decide +kernel
theorem dX12_worked_21 : decode cX12_worked 21 = .ok (.if_icmp .ge 167, 3) := by decide +kernel
theorem dX12_worked_24 : decode cX12_worked 24 = .ok (.aload_n 0, 1) := by decide +kernel
theorem dX12_worked_25 : decode cX12_worked 25 = .ok (.getfield 48, 3) := by decide +kernel
theorem dX12_worked_28 : decode cX12_worked 28 = .ok (.iload 5, 2) := by decide +kernel
theorem dX12_worked_30 : decode cX12_worked 30 = .ok (.baload, 1) := by decide +kernel
theorem dX12_worked_31 : decode cX12_worked 31 = .ok (.istore 6, 2) := by decide +kernel
theorem dX12_worked_33 : decode cX12_worked 33 = .ok (.iload 6, 2) := by decide +kernel
theorem dX12_worked_35 : decode cX12_worked 35 = .ok (.iconst 1, 1) := by decide +kernel
theorem dX12_worked_36 : decode cX12_worked 36 = .ok (.if_icmp .eq 9, 3) := by decide +kernel
theorem dX12_worked_39 : decode cX12_worked 39 = .ok (.iload 6, 2) := by decide +kernel
theorem dX12_worked_41 : decode cX12_worked 41 = .ok (.iconst 2, 1) := by decide +kernel
theorem dX12_worked_42 : decode cX12_worked 42 = .ok (.if_icmp .ne 44, 3) := by decide +kernel
theorem dX12_worked_45 : decode cX12_worked 45 = .ok (.aload_n 0, 1) := by decide +kernel
theorem dX12_worked_46 : decode cX12_worked 46 = .ok (.getfield 67, 3) := by decide +kernel
theorem dX12_worked_49 : decode cX12_worked 49 = .ok (.iload 4, 2) := by decide +kernel
theorem dX12_worked_51 : decode cX12_worked 51 = .ok (.iload 6, 2) := by decide +kernel
theorem dX12_worked_53 : decode cX12_worked 53 = .ok (.iconst 1, 1) := by decide +kernel
theorem dX12_worked_54 : decode cX12_worked 54 = .ok (.if_icmp .ne 13, 3) := by decide +kernel
theorem dX12_worked_57 : decode cX12_worked 57 = .ok (.aload_n 0, 1) := by decide +kernel
theorem dX12_worked_58 : decode cX12_worked 58 = .ok (.getfield 51, 3) := by decide +kernel
theorem dX12_worked_61 : decode cX12_worked 61 = .ok (.iload 5, 2) := by decide +kernel
theorem dX12_worked_63 : decode cX12_worked 63 = .ok (.iaload, 1) := by decide +kernel
theorem dX12_worked_64 : decode cX12_worked 64 = .ok (.goto 15, 3) := by decide +kernel
theorem dX12_worked_67 : decode cX12_worked 67 = .ok (.aload_n 0, 1) := by decide +kernel
theorem dX12_worked_68 : decode cX12_worked 68 = .ok (.getfield 64, 3) := by decide +kernel
theorem dX12_worked_71 : decode cX12_worked 71 = .ok (.aload_n 0, 1) := by decide +kernel
theorem dX12_worked_72 : decode cX12_worked 72 = .ok (.getfield 51, 3) := by decide +kernel
theorem dX12_worked_75 : decode cX12_worked 75 = .ok (.iload 5, 2) := by decide +kernel
theorem dX12_worked_77 : decode cX12_worked 77 = .ok (.iaload, 1) := by decide +kernel
theorem dX12_worked_78 : decode cX12_worked 78 = .ok (.iaload, 1) := by decide +kernel
theorem dX12_worked_79 : decode cX12_worked 79 = .ok (.iastore, 1) := by decide +kernel
theorem dX12_worked_80 : decode cX12_worked 80 = .ok (.iinc 4 1, 3) := by decide +kernel
theorem dX12_worked_83 : decode cX12_worked 83 = .ok (.goto 99, 3) := by decide +kernel
theorem dX12_worked_86 : decode cX12_worked 86 = .ok (.iload 6, 2) := by decide +kernel
theorem dX12_worked_88 : decode cX12_worked 88 = .ok (.iconst 3, 1) := by decide +kernel
theorem dX12_worked_89 : decode cX12_worked 89 = .ok (.if_icmp .ne 32, 3) := by decide +kernel
theorem dX12_worked_92 : decode cX12_worked 92 = .ok (.aload_n 0, 1) := by decide +kernel
theorem dX12_worked_93 : decode cX12_worked 93 = .ok (.getfield 67, 3) := by decide +kernel
theorem dX12_worked_96 : decode cX12_worked 96 = .ok (.iload 4, 2) := by decide +kernel
theorem dX12_worked_98 : decode cX12_worked 98 = .ok (.iconst 1, 1) := by decide +kernel
theorem dX12_worked_99 : decode cX12_worked 99 = .ok (.isub, 1) := by decide +kernel
theorem dX12_worked_100 : decode cX12_worked 100 = .ok (.aload_n 0, 1) := by decide +kernel
theorem dX12_worked_101 : decode cX12_worked 101 = .ok (.getfield 67, 3) := by decide +kernel
theorem dX12_worked_104 : decode cX12_worked 104 = .ok (.iload 4, 2) := by decide +kernel
theorem dX12_worked_106 : decode cX12_worked 106 = .ok (.iconst 1, 1) := by decide +kernel
theorem dX12_worked_107 : decode cX12_worked 107 = .ok (.isub, 1) := by decide +kernel
theorem dX12_worked_108 : decode cX12_worked 108 = .ok (.iaload, 1) := by decide +kernel
theorem dX12_worked_109 : decode cX12_worked 109 = .ok (.ifCond .ne 7, 3) := by decide +kernel
theorem dX12_worked_112 : decode cX12_worked 112 = .ok (.iconst 1, 1) := by decide +kernel
theorem dX12_worked_113 : decode cX12_worked 113 = .ok (.goto 4, 3) := by decide +kernel
theorem dX12_worked_116 : decode cX12_worked 116 = .ok (.iconst 0, 1) := by decide +kernel
theorem dX12_worked_117 : decode cX12_worked 117 = .ok (.iastore, 1) := by decide +kernel
theorem dX12_worked_118 : decode cX12_worked 118 = .ok (.goto 64, 3) := by decide +kernel
theorem dX12_worked_121 : decode cX12_worked 121 = .ok (.iload 6, 2) := by decide +kernel
theorem dX12_worked_123 : decode cX12_worked 123 = .ok (.iconst 4, 1) := by decide +kernel
theorem dX12_worked_124 : decode cX12_worked 124 = .ok (.if_icmp .ne 25, 3) := by decide +kernel
theorem dX12_worked_127 : decode cX12_worked 127 = .ok (.aload_n 0, 1) := by decide +kernel
theorem dX12_worked_128 : decode cX12_worked 128 = .ok (.getfield 67, 3) := by decide +kernel
theorem dX12_worked_131 : decode cX12_worked 131 = .ok (.iload 4, 2) := by decide +kernel
theorem dX12_worked_133 : decode cX12_worked 133 = .ok (.iconst 1, 1) := by decide +kernel
theorem dX12_worked_134 : decode cX12_worked 134 = .ok (.isub, 1) := by decide +kernel
theorem dX12_worked_135 : decode cX12_worked 135 = .ok (.aload_n 0, 1) := by decide +kernel
theorem dX12_worked_136 : decode cX12_worked 136 = .ok (.getfield 67, 3) := by decide +kernel
theorem dX12_worked_139 : decode cX12_worked 139 = .ok (.iload 4, 2) := by decide +kernel
theorem dX12_worked_141 : decode cX12_worked 141 = .ok (.iconst 1, 1) := by decide +kernel
theorem dX12_worked_142 : decode cX12_worked 142 = .ok (.isub, 1) := by decide +kernel
theorem dX12_worked_143 : decode cX12_worked 143 = .ok (.iaload, 1) := by decide +kernel
theorem dX12_worked_144 : decode cX12_worked 144 = .ok (.ineg, 1) := by decide +kernel
theorem dX12_worked_145 : decode cX12_worked 145 = .ok (.iastore, 1) := by decide +kernel
theorem dX12_worked_146 : decode cX12_worked 146 = .ok (.goto 36, 3) := by decide +kernel
theorem dX12_worked_149 : decode cX12_worked 149 = .ok (.iinc 4 (-1), 3) := by decide +kernel
theorem dX12_worked_152 : decode cX12_worked 152 = .ok (.aload_n 0, 1) := by decide +kernel
theorem dX12_worked_153 : decode cX12_worked 153 = .ok (.getfield 67, 3) := by decide +kernel
theorem dX12_worked_156 : decode cX12_worked 156 = .ok (.iload 4, 2) := by decide +kernel
theorem dX12_worked_158 : decode cX12_worked 158 = .ok (.iconst 1, 1) := by decide +kernel
theorem dX12_worked_159 : decode cX12_worked 159 = .ok (.isub, 1) := by decide +kernel
theorem dX12_worked_160 : decode cX12_worked 160 = .ok (.iload 6, 2) := by decide +kernel
theorem dX12_worked_162 : decode cX12_worked 162 = .ok (.aload_n 0, 1) := by decide +kernel
theorem dX12_worked_163 : decode cX12_worked 163 = .ok (.getfield 67, 3) := by decide +kernel
theorem dX12_worked_166 : decode cX12_worked 166 = .ok (.iload 4, 2) := by decide +kernel
theorem dX12_worked_168 : decode cX12_worked 168 = .ok (.iconst 1, 1) := by decide +kernel
theorem dX12_worked_169 : decode cX12_worked 169 = .ok (.isub, 1) := by decide +kernel
theorem dX12_worked_170 : decode cX12_worked 170 = .ok (.iaload, 1) := by decide +kernel
theorem dX12_worked_171 : decode cX12_worked 171 = .ok (.aload_n 0, 1) := by decide +kernel
theorem dX12_worked_172 : decode cX12_worked 172 = .ok (.getfield 67, 3) := by decide +kernel
theorem dX12_worked_175 : decode cX12_worked 175 = .ok (.iload 4, 2) := by decide +kernel
theorem dX12_worked_177 : decode cX12_worked 177 = .ok (.iaload, 1) := by decide +kernel
theorem dX12_worked_178 : decode cX12_worked 178 = .ok (.invokestatic 232, 3) := by decide +kernel
theorem dX12_worked_181 : decode cX12_worked 181 = .ok (.iastore, 1) := by decide +kernel
theorem dX12_worked_182 : decode cX12_worked 182 = .ok (.iinc 5 1, 3) := by decide +kernel
theorem dX12_worked_185 : decode cX12_worked 185 = .ok (.goto (-173), 3) := by decide +kernel
theorem dX12_worked_188 : decode cX12_worked 188 = .ok (.aload_n 0, 1) := by decide +kernel
theorem dX12_worked_189 : decode cX12_worked 189 = .ok (.getfield 67, 3) := by decide +kernel
theorem dX12_worked_192 : decode cX12_worked 192 = .ok (.iconst 0, 1) := by decide +kernel
theorem dX12_worked_193 : decode cX12_worked 193 = .ok (.iaload, 1) := by decide +kernel
theorem dX12_worked_194 : decode cX12_worked 194 = .ok (.ireturn, 1) := by decide +kernel
theorem dX12_gives_0 : decode cX12_gives 0 = .ok (.iconst 0, 1) := by decide +kernel
theorem dX12_gives_1 : decode cX12_gives 1 = .ok (.istore_n 2, 1) := by decide +kernel
theorem dX12_gives_2 : decode cX12_gives 2 = .ok (.bipush 61, 2) := by decide +kernel
theorem dX12_gives_4 : decode cX12_gives 4 = .ok (.iload_n 1, 1) := by decide +kernel
theorem dX12_gives_5 : decode cX12_gives 5 = .ok (.imul, 1) := by decide +kernel
theorem dX12_gives_6 : decode cX12_gives 6 = .ok (.istore_n 3, 1) := by decide +kernel
theorem dX12_gives_7 : decode cX12_gives 7 = .ok (.iload_n 3, 1) := by decide +kernel
theorem dX12_gives_8 : decode cX12_gives 8 = .ok (.bipush 61, 2) := by decide +kernel
theorem dX12_gives_10 : decode cX12_gives 10 = .ok (.iload_n 1, 1) := by decide +kernel
theorem dX12_gives_11 : decode cX12_gives 11 = .ok (.imul, 1) := by decide +kernel
theorem dX12_gives_12 : decode cX12_gives 12 = .ok (.aload_n 0, 1) := by decide +kernel
theorem dX12_gives_13 : decode cX12_gives 13 = .ok (.getfield 54, 3) := by decide +kernel
theorem dX12_gives_16 : decode cX12_gives 16 = .ok (.iload_n 1, 1) := by decide +kernel
theorem dX12_gives_17 : decode cX12_gives 17 = .ok (.iaload, 1) := by decide +kernel
theorem dX12_gives_18 : decode cX12_gives 18 = .ok (.iadd, 1) := by decide +kernel
theorem dX12_gives_19 : decode cX12_gives 19 = .ok (.if_icmp .ge 59, 3) := by decide +kernel
theorem dX12_gives_22 : decode cX12_gives 22 = .ok (.aload_n 0, 1) := by decide +kernel
theorem dX12_gives_23 : decode cX12_gives 23 = .ok (.getfield 57, 3) := by decide +kernel
theorem dX12_gives_26 : decode cX12_gives 26 = .ok (.iload_n 3, 1) := by decide +kernel
theorem dX12_gives_27 : decode cX12_gives 27 = .ok (.saload, 1) := by decide +kernel
theorem dX12_gives_28 : decode cX12_gives 28 = .ok (.iload_n 2, 1) := by decide +kernel
theorem dX12_gives_29 : decode cX12_gives 29 = .ok (.if_icmp .eq 18, 3) := by decide +kernel
theorem dX12_gives_32 : decode cX12_gives 32 = .ok (.aload_n 0, 1) := by decide +kernel
theorem dX12_gives_33 : decode cX12_gives 33 = .ok (.iload_n 1, 1) := by decide +kernel
theorem dX12_gives_34 : decode cX12_gives 34 = .ok (.iload_n 2, 1) := by decide +kernel
theorem dX12_gives_35 : decode cX12_gives 35 = .ok (.aload_n 0, 1) := by decide +kernel
theorem dX12_gives_36 : decode cX12_gives 36 = .ok (.getfield 57, 3) := by decide +kernel
theorem dX12_gives_39 : decode cX12_gives 39 = .ok (.iload_n 3, 1) := by decide +kernel
theorem dX12_gives_40 : decode cX12_gives 40 = .ok (.saload, 1) := by decide +kernel
theorem dX12_gives_41 : decode cX12_gives 41 = .ok (.invokevirtual 235, 3) := by decide +kernel
theorem dX12_gives_44 : decode cX12_gives 44 = .ok (.ifCond .eq 21, 3) := by decide +kernel
theorem dX12_gives_47 : decode cX12_gives 47 = .ok (.aload_n 0, 1) := by decide +kernel
theorem dX12_gives_48 : decode cX12_gives 48 = .ok (.iload_n 1, 1) := by decide +kernel
theorem dX12_gives_49 : decode cX12_gives 49 = .ok (.aload_n 0, 1) := by decide +kernel
theorem dX12_gives_50 : decode cX12_gives 50 = .ok (.getfield 57, 3) := by decide +kernel
theorem dX12_gives_53 : decode cX12_gives 53 = .ok (.iload_n 3, 1) := by decide +kernel
theorem dX12_gives_54 : decode cX12_gives 54 = .ok (.saload, 1) := by decide +kernel
theorem dX12_gives_55 : decode cX12_gives 55 = .ok (.aload_n 0, 1) := by decide +kernel
theorem dX12_gives_56 : decode cX12_gives 56 = .ok (.getfield 61, 3) := by decide +kernel
theorem dX12_gives_59 : decode cX12_gives 59 = .ok (.iload_n 3, 1) := by decide +kernel
theorem dX12_gives_60 : decode cX12_gives 60 = .ok (.saload, 1) := by decide +kernel
theorem dX12_gives_61 : decode cX12_gives 61 = .ok (.invokevirtual 235, 3) := by decide +kernel
theorem dX12_gives_64 : decode cX12_gives 64 = .ok (.ireturn, 1) := by decide +kernel
theorem dX12_gives_65 : decode cX12_gives 65 = .ok (.aload_n 0, 1) := by decide +kernel
theorem dX12_gives_66 : decode cX12_gives 66 = .ok (.getfield 61, 3) := by decide +kernel
theorem dX12_gives_69 : decode cX12_gives 69 = .ok (.iload_n 3, 1) := by decide +kernel
theorem dX12_gives_70 : decode cX12_gives 70 = .ok (.saload, 1) := by decide +kernel
theorem dX12_gives_71 : decode cX12_gives 71 = .ok (.istore_n 2, 1) := by decide +kernel
theorem dX12_gives_72 : decode cX12_gives 72 = .ok (.iinc 3 1, 3) := by decide +kernel
theorem dX12_gives_75 : decode cX12_gives 75 = .ok (.goto (-68), 3) := by decide +kernel
theorem dX12_gives_78 : decode cX12_gives 78 = .ok (.iconst 0, 1) := by decide +kernel
theorem dX12_gives_79 : decode cX12_gives 79 = .ok (.ireturn, 1) := by decide +kernel
theorem dX12_law_0 : decode cX12_law 0 = .ok (.aload_n 0, 1) := by decide +kernel
theorem dX12_law_1 : decode cX12_law 1 = .ok (.iconst 0, 1) := by decide +kernel
theorem dX12_law_2 : decode cX12_law 2 = .ok (.invokevirtual 238, 3) := by decide +kernel
theorem dX12_law_5 : decode cX12_law 5 = .ok (.istore_n 1, 1) := by decide +kernel
theorem dX12_law_6 : decode cX12_law 6 = .ok (.iload_n 1, 1) := by decide +kernel
theorem dX12_law_7 : decode cX12_law 7 = .ok (.ifCond .lt 8, 3) := by decide +kernel
theorem dX12_law_10 : decode cX12_law 10 = .ok (.bipush (-100), 2) := by decide +kernel
theorem dX12_law_12 : decode cX12_law 12 = .ok (.iload_n 1, 1) := by decide +kernel
theorem dX12_law_13 : decode cX12_law 13 = .ok (.isub, 1) := by decide +kernel
theorem dX12_law_14 : decode cX12_law 14 = .ok (.ireturn, 1) := by decide +kernel
theorem dX12_law_15 : decode cX12_law 15 = .ok (.aload_n 0, 1) := by decide +kernel
theorem dX12_law_16 : decode cX12_law 16 = .ok (.iconst 1, 1) := by decide +kernel
theorem dX12_law_17 : decode cX12_law 17 = .ok (.putfield 241, 3) := by decide +kernel
theorem dX12_law_20 : decode cX12_law 20 = .ok (.iconst 1, 1) := by decide +kernel
theorem dX12_law_21 : decode cX12_law 21 = .ok (.ireturn, 1) := by decide +kernel
theorem dX12_height_0 : decode cX12_height 0 = .ok (.aload_n 0, 1) := by decide +kernel
theorem dX12_height_1 : decode cX12_height 1 = .ok (.getfield 19, 3) := by decide +kernel
theorem dX12_height_4 : decode cX12_height 4 = .ok (.iload_n 1, 1) := by decide +kernel
theorem dX12_height_5 : decode cX12_height 5 = .ok (.iaload, 1) := by decide +kernel
theorem dX12_height_6 : decode cX12_height 6 = .ok (.iload_n 3, 1) := by decide +kernel
theorem dX12_height_7 : decode cX12_height 7 = .ok (.aload_n 0, 1) := by decide +kernel
theorem dX12_height_8 : decode cX12_height 8 = .ok (.getfield 22, 3) := by decide +kernel
theorem dX12_height_11 : decode cX12_height 11 = .ok (.iload_n 1, 1) := by decide +kernel
theorem dX12_height_12 : decode cX12_height 12 = .ok (.iaload, 1) := by decide +kernel
theorem dX12_height_13 : decode cX12_height 13 = .ok (.imul, 1) := by decide +kernel
theorem dX12_height_14 : decode cX12_height 14 = .ok (.iadd, 1) := by decide +kernel
theorem dX12_height_15 : decode cX12_height 15 = .ok (.iload_n 1, 1) := by decide +kernel
theorem dX12_height_16 : decode cX12_height 16 = .ok (.iload_n 2, 1) := by decide +kernel
theorem dX12_height_17 : decode cX12_height 17 = .ok (.if_icmp .ne 10, 3) := by decide +kernel
theorem dX12_height_20 : decode cX12_height 20 = .ok (.aload_n 0, 1) := by decide +kernel
theorem dX12_height_21 : decode cX12_height 21 = .ok (.getfield 29, 3) := by decide +kernel
theorem dX12_height_24 : decode cX12_height 24 = .ok (.goto 4, 3) := by decide +kernel
theorem dX12_height_27 : decode cX12_height 27 = .ok (.iconst 0, 1) := by decide +kernel
theorem dX12_height_28 : decode cX12_height 28 = .ok (.iadd, 1) := by decide +kernel
theorem dX12_height_29 : decode cX12_height 29 = .ok (.ireturn, 1) := by decide +kernel
theorem dX12_asks_0 : decode cX12_asks 0 = .ok (.aload_n 0, 1) := by decide +kernel
theorem dX12_asks_1 : decode cX12_asks 1 = .ok (.getfield 241, 3) := by decide +kernel
theorem dX12_asks_4 : decode cX12_asks 4 = .ok (.ifCond .ne 62, 3) := by decide +kernel
theorem dX12_asks_7 : decode cX12_asks 7 = .ok (.aload_n 0, 1) := by decide +kernel
theorem dX12_asks_8 : decode cX12_asks 8 = .ok (.getfield 16, 3) := by decide +kernel
theorem dX12_asks_11 : decode cX12_asks 11 = .ok (.iload_n 1, 1) := by decide +kernel
theorem dX12_asks_12 : decode cX12_asks 12 = .ok (.iaload, 1) := by decide +kernel
theorem dX12_asks_13 : decode cX12_asks 13 = .ok (.ifCond .ne 17, 3) := by decide +kernel
theorem dX12_asks_16 : decode cX12_asks 16 = .ok (.iload_n 3, 1) := by decide +kernel
theorem dX12_asks_17 : decode cX12_asks 17 = .ok (.iload 4, 2) := by decide +kernel
theorem dX12_asks_19 : decode cX12_asks 19 = .ok (.if_icmp .le 7, 3) := by decide +kernel
theorem dX12_asks_22 : decode cX12_asks 22 = .ok (.iconst 1, 1) := by decide +kernel
theorem dX12_asks_23 : decode cX12_asks 23 = .ok (.goto 42, 3) := by decide +kernel
theorem dX12_asks_26 : decode cX12_asks 26 = .ok (.iconst 0, 1) := by decide +kernel
theorem dX12_asks_27 : decode cX12_asks 27 = .ok (.goto 38, 3) := by decide +kernel
theorem dX12_asks_30 : decode cX12_asks 30 = .ok (.aload_n 0, 1) := by decide +kernel
theorem dX12_asks_31 : decode cX12_asks 31 = .ok (.getfield 16, 3) := by decide +kernel
theorem dX12_asks_34 : decode cX12_asks 34 = .ok (.iload_n 1, 1) := by decide +kernel
theorem dX12_asks_35 : decode cX12_asks 35 = .ok (.iaload, 1) := by decide +kernel
theorem dX12_asks_36 : decode cX12_asks 36 = .ok (.iconst 1, 1) := by decide +kernel
theorem dX12_asks_37 : decode cX12_asks 37 = .ok (.if_icmp .ne 17, 3) := by decide +kernel
theorem dX12_asks_40 : decode cX12_asks 40 = .ok (.iload_n 3, 1) := by decide +kernel
theorem dX12_asks_41 : decode cX12_asks 41 = .ok (.iload 4, 2) := by decide +kernel
theorem dX12_asks_43 : decode cX12_asks 43 = .ok (.if_icmp .ge 7, 3) := by decide +kernel
theorem dX12_asks_46 : decode cX12_asks 46 = .ok (.iconst 1, 1) := by decide +kernel
theorem dX12_asks_47 : decode cX12_asks 47 = .ok (.goto 18, 3) := by decide +kernel
theorem dX12_asks_50 : decode cX12_asks 50 = .ok (.iconst 0, 1) := by decide +kernel
theorem dX12_asks_51 : decode cX12_asks 51 = .ok (.goto 14, 3) := by decide +kernel
theorem dX12_asks_54 : decode cX12_asks 54 = .ok (.iload_n 3, 1) := by decide +kernel
theorem dX12_asks_55 : decode cX12_asks 55 = .ok (.iload 4, 2) := by decide +kernel
theorem dX12_asks_57 : decode cX12_asks 57 = .ok (.if_icmp .lt 7, 3) := by decide +kernel
theorem dX12_asks_60 : decode cX12_asks 60 = .ok (.iconst 1, 1) := by decide +kernel
theorem dX12_asks_61 : decode cX12_asks 61 = .ok (.goto 4, 3) := by decide +kernel
theorem dX12_asks_64 : decode cX12_asks 64 = .ok (.iconst 0, 1) := by decide +kernel
theorem dX12_asks_65 : decode cX12_asks 65 = .ok (.ireturn, 1) := by decide +kernel
theorem dX12_asks_66 : decode cX12_asks 66 = .ok (.aload_n 0, 1) := by decide +kernel
theorem dX12_asks_67 : decode cX12_asks 67 = .ok (.getfield 64, 3) := by decide +kernel
theorem dX12_asks_70 : decode cX12_asks 70 = .ok (.iconst 0, 1) := by decide +kernel
theorem dX12_asks_71 : decode cX12_asks 71 = .ok (.iload_n 3, 1) := by decide +kernel
theorem dX12_asks_72 : decode cX12_asks 72 = .ok (.iastore, 1) := by decide +kernel
theorem dX12_asks_73 : decode cX12_asks 73 = .ok (.aload_n 0, 1) := by decide +kernel
theorem dX12_asks_74 : decode cX12_asks 74 = .ok (.getfield 64, 3) := by decide +kernel
theorem dX12_asks_77 : decode cX12_asks 77 = .ok (.iconst 1, 1) := by decide +kernel
theorem dX12_asks_78 : decode cX12_asks 78 = .ok (.iload 4, 2) := by decide +kernel
theorem dX12_asks_80 : decode cX12_asks 80 = .ok (.iastore, 1) := by decide +kernel
theorem dX12_asks_81 : decode cX12_asks 81 = .ok (.aload_n 0, 1) := by decide +kernel
theorem dX12_asks_82 : decode cX12_asks 82 = .ok (.getfield 64, 3) := by decide +kernel
theorem dX12_asks_85 : decode cX12_asks 85 = .ok (.iconst 2, 1) := by decide +kernel
theorem dX12_asks_86 : decode cX12_asks 86 = .ok (.iload_n 1, 1) := by decide +kernel
theorem dX12_asks_87 : decode cX12_asks 87 = .ok (.iastore, 1) := by decide +kernel
theorem dX12_asks_88 : decode cX12_asks 88 = .ok (.aload_n 0, 1) := by decide +kernel
theorem dX12_asks_89 : decode cX12_asks 89 = .ok (.getfield 64, 3) := by decide +kernel
theorem dX12_asks_92 : decode cX12_asks 92 = .ok (.iconst 3, 1) := by decide +kernel
theorem dX12_asks_93 : decode cX12_asks 93 = .ok (.aload_n 0, 1) := by decide +kernel
theorem dX12_asks_94 : decode cX12_asks 94 = .ok (.getfield 16, 3) := by decide +kernel
theorem dX12_asks_97 : decode cX12_asks 97 = .ok (.iload_n 1, 1) := by decide +kernel
theorem dX12_asks_98 : decode cX12_asks 98 = .ok (.iaload, 1) := by decide +kernel
theorem dX12_asks_99 : decode cX12_asks 99 = .ok (.iastore, 1) := by decide +kernel
theorem dX12_asks_100 : decode cX12_asks 100 = .ok (.aload_n 0, 1) := by decide +kernel
theorem dX12_asks_101 : decode cX12_asks 101 = .ok (.getfield 64, 3) := by decide +kernel
theorem dX12_asks_104 : decode cX12_asks 104 = .ok (.iconst 4, 1) := by decide +kernel
theorem dX12_asks_105 : decode cX12_asks 105 = .ok (.iload_n 2, 1) := by decide +kernel
theorem dX12_asks_106 : decode cX12_asks 106 = .ok (.ifCond .eq 12, 3) := by decide +kernel
theorem dX12_asks_109 : decode cX12_asks 109 = .ok (.aload_n 0, 1) := by decide +kernel
theorem dX12_asks_110 : decode cX12_asks 110 = .ok (.getfield 13, 3) := by decide +kernel
theorem dX12_asks_113 : decode cX12_asks 113 = .ok (.iload_n 1, 1) := by decide +kernel
theorem dX12_asks_114 : decode cX12_asks 114 = .ok (.iaload, 1) := by decide +kernel
theorem dX12_asks_115 : decode cX12_asks 115 = .ok (.goto 9, 3) := by decide +kernel
theorem dX12_asks_118 : decode cX12_asks 118 = .ok (.aload_n 0, 1) := by decide +kernel
theorem dX12_asks_119 : decode cX12_asks 119 = .ok (.getfield 7, 3) := by decide +kernel
theorem dX12_asks_122 : decode cX12_asks 122 = .ok (.iload_n 1, 1) := by decide +kernel
theorem dX12_asks_123 : decode cX12_asks 123 = .ok (.iaload, 1) := by decide +kernel
theorem dX12_asks_124 : decode cX12_asks 124 = .ok (.iastore, 1) := by decide +kernel
theorem dX12_asks_125 : decode cX12_asks 125 = .ok (.aload_n 0, 1) := by decide +kernel
theorem dX12_asks_126 : decode cX12_asks 126 = .ok (.getfield 64, 3) := by decide +kernel
theorem dX12_asks_129 : decode cX12_asks 129 = .ok (.iconst 5, 1) := by decide +kernel
theorem dX12_asks_130 : decode cX12_asks 130 = .ok (.iload_n 2, 1) := by decide +kernel
theorem dX12_asks_131 : decode cX12_asks 131 = .ok (.ifCond .eq 12, 3) := by decide +kernel
theorem dX12_asks_134 : decode cX12_asks 134 = .ok (.aload_n 0, 1) := by decide +kernel
theorem dX12_asks_135 : decode cX12_asks 135 = .ok (.getfield 7, 3) := by decide +kernel
theorem dX12_asks_138 : decode cX12_asks 138 = .ok (.iload_n 1, 1) := by decide +kernel
theorem dX12_asks_139 : decode cX12_asks 139 = .ok (.iaload, 1) := by decide +kernel
theorem dX12_asks_140 : decode cX12_asks 140 = .ok (.goto 9, 3) := by decide +kernel
theorem dX12_asks_143 : decode cX12_asks 143 = .ok (.aload_n 0, 1) := by decide +kernel
theorem dX12_asks_144 : decode cX12_asks 144 = .ok (.getfield 13, 3) := by decide +kernel
theorem dX12_asks_147 : decode cX12_asks 147 = .ok (.iload_n 1, 1) := by decide +kernel
theorem dX12_asks_148 : decode cX12_asks 148 = .ok (.iaload, 1) := by decide +kernel
theorem dX12_asks_149 : decode cX12_asks 149 = .ok (.iastore, 1) := by decide +kernel
theorem dX12_asks_150 : decode cX12_asks 150 = .ok (.aload_n 0, 1) := by decide +kernel
theorem dX12_asks_151 : decode cX12_asks 151 = .ok (.iconst 0, 1) := by decide +kernel
theorem dX12_asks_152 : decode cX12_asks 152 = .ok (.invokevirtual 245, 3) := by decide +kernel
theorem dX12_asks_155 : decode cX12_asks 155 = .ok (.ifCond .eq 7, 3) := by decide +kernel
theorem dX12_asks_158 : decode cX12_asks 158 = .ok (.iconst 1, 1) := by decide +kernel
theorem dX12_asks_159 : decode cX12_asks 159 = .ok (.goto 4, 3) := by decide +kernel
theorem dX12_asks_162 : decode cX12_asks 162 = .ok (.iconst 0, 1) := by decide +kernel
theorem dX12_asks_163 : decode cX12_asks 163 = .ok (.ireturn, 1) := by decide +kernel
theorem dX12_findMay_0 : decode cX12_findMay 0 = .ok (.iconst 0, 1) := by decide +kernel
theorem dX12_findMay_1 : decode cX12_findMay 1 = .ok (.istore 4, 2) := by decide +kernel
theorem dX12_findMay_3 : decode cX12_findMay 3 = .ok (.iload 4, 2) := by decide +kernel
theorem dX12_findMay_5 : decode cX12_findMay 5 = .ok (.aload_n 0, 1) := by decide +kernel
theorem dX12_findMay_6 : decode cX12_findMay 6 = .ok (.getfield 118, 3) := by decide +kernel
theorem dX12_findMay_9 : decode cX12_findMay 9 = .ok (.if_icmp .ge 178, 3) := by decide +kernel
theorem dX12_findMay_12 : decode cX12_findMay 12 = .ok (.iload_n 1, 1) := by decide +kernel
theorem dX12_findMay_13 : decode cX12_findMay 13 = .ok (.iload 4, 2) := by decide +kernel
theorem dX12_findMay_15 : decode cX12_findMay 15 = .ok (.ishr, 1) := by decide +kernel
theorem dX12_findMay_16 : decode cX12_findMay 16 = .ok (.iconst 1, 1) := by decide +kernel
theorem dX12_findMay_17 : decode cX12_findMay 17 = .ok (.iand, 1) := by decide +kernel
theorem dX12_findMay_18 : decode cX12_findMay 18 = .ok (.iconst 1, 1) := by decide +kernel
theorem dX12_findMay_19 : decode cX12_findMay 19 = .ok (.if_icmp .ne 7, 3) := by decide +kernel
theorem dX12_findMay_22 : decode cX12_findMay 22 = .ok (.iconst 1, 1) := by decide +kernel
theorem dX12_findMay_23 : decode cX12_findMay 23 = .ok (.goto 4, 3) := by decide +kernel
theorem dX12_findMay_26 : decode cX12_findMay 26 = .ok (.iconst 0, 1) := by decide +kernel
theorem dX12_findMay_27 : decode cX12_findMay 27 = .ok (.istore 5, 2) := by decide +kernel
theorem dX12_findMay_29 : decode cX12_findMay 29 = .ok (.aload_n 0, 1) := by decide +kernel
theorem dX12_findMay_30 : decode cX12_findMay 30 = .ok (.getfield 74, 3) := by decide +kernel
theorem dX12_findMay_33 : decode cX12_findMay 33 = .ok (.iload 4, 2) := by decide +kernel
theorem dX12_findMay_35 : decode cX12_findMay 35 = .ok (.iload 5, 2) := by decide +kernel
theorem dX12_findMay_37 : decode cX12_findMay 37 = .ok (.ifCond .eq 13, 3) := by decide +kernel
theorem dX12_findMay_40 : decode cX12_findMay 40 = .ok (.aload_n 0, 1) := by decide +kernel
theorem dX12_findMay_41 : decode cX12_findMay 41 = .ok (.getfield 13, 3) := by decide +kernel
theorem dX12_findMay_44 : decode cX12_findMay 44 = .ok (.iload 4, 2) := by decide +kernel
theorem dX12_findMay_46 : decode cX12_findMay 46 = .ok (.iaload, 1) := by decide +kernel
theorem dX12_findMay_47 : decode cX12_findMay 47 = .ok (.goto 10, 3) := by decide +kernel
theorem dX12_findMay_50 : decode cX12_findMay 50 = .ok (.aload_n 0, 1) := by decide +kernel
theorem dX12_findMay_51 : decode cX12_findMay 51 = .ok (.getfield 7, 3) := by decide +kernel
theorem dX12_findMay_54 : decode cX12_findMay 54 = .ok (.iload 4, 2) := by decide +kernel
theorem dX12_findMay_56 : decode cX12_findMay 56 = .ok (.iaload, 1) := by decide +kernel
theorem dX12_findMay_57 : decode cX12_findMay 57 = .ok (.iastore, 1) := by decide +kernel
theorem dX12_findMay_58 : decode cX12_findMay 58 = .ok (.aload_n 0, 1) := by decide +kernel
theorem dX12_findMay_59 : decode cX12_findMay 59 = .ok (.getfield 77, 3) := by decide +kernel
theorem dX12_findMay_62 : decode cX12_findMay 62 = .ok (.iload 4, 2) := by decide +kernel
theorem dX12_findMay_64 : decode cX12_findMay 64 = .ok (.iload 5, 2) := by decide +kernel
theorem dX12_findMay_66 : decode cX12_findMay 66 = .ok (.ifCond .eq 13, 3) := by decide +kernel
theorem dX12_findMay_69 : decode cX12_findMay 69 = .ok (.aload_n 0, 1) := by decide +kernel
theorem dX12_findMay_70 : decode cX12_findMay 70 = .ok (.getfield 7, 3) := by decide +kernel
theorem dX12_findMay_73 : decode cX12_findMay 73 = .ok (.iload 4, 2) := by decide +kernel
theorem dX12_findMay_75 : decode cX12_findMay 75 = .ok (.iaload, 1) := by decide +kernel
theorem dX12_findMay_76 : decode cX12_findMay 76 = .ok (.goto 10, 3) := by decide +kernel
theorem dX12_findMay_79 : decode cX12_findMay 79 = .ok (.aload_n 0, 1) := by decide +kernel
theorem dX12_findMay_80 : decode cX12_findMay 80 = .ok (.getfield 13, 3) := by decide +kernel
theorem dX12_findMay_83 : decode cX12_findMay 83 = .ok (.iload 4, 2) := by decide +kernel
theorem dX12_findMay_85 : decode cX12_findMay 85 = .ok (.iaload, 1) := by decide +kernel
theorem dX12_findMay_86 : decode cX12_findMay 86 = .ok (.iastore, 1) := by decide +kernel
theorem dX12_findMay_87 : decode cX12_findMay 87 = .ok (.iconst 0, 1) := by decide +kernel
theorem dX12_findMay_88 : decode cX12_findMay 88 = .ok (.istore 6, 2) := by decide +kernel
theorem dX12_findMay_90 : decode cX12_findMay 90 = .ok (.iload 6, 2) := by decide +kernel
theorem dX12_findMay_92 : decode cX12_findMay 92 = .ok (.aload_n 0, 1) := by decide +kernel
theorem dX12_findMay_93 : decode cX12_findMay 93 = .ok (.getfield 121, 3) := by decide +kernel
theorem dX12_findMay_96 : decode cX12_findMay 96 = .ok (.if_icmp .ge 85, 3) := by decide +kernel
theorem dX12_findMay_99 : decode cX12_findMay 99 = .ok (.iconst 0, 1) := by decide +kernel
theorem dX12_findMay_100 : decode cX12_findMay 100 = .ok (.istore 7, 2) := by decide +kernel
theorem dX12_findMay_102 : decode cX12_findMay 102 = .ok (.iload 7, 2) := by decide +kernel
theorem dX12_findMay_104 : decode cX12_findMay 104 = .ok (.aload_n 0, 1) := by decide +kernel
theorem dX12_findMay_105 : decode cX12_findMay 105 = .ok (.getfield 121, 3) := by decide +kernel
theorem dX12_findMay_108 : decode cX12_findMay 108 = .ok (.if_icmp .ge 67, 3) := by decide +kernel
theorem dX12_findMay_111 : decode cX12_findMay 111 = .ok (.aload_n 0, 1) := by decide +kernel
theorem dX12_findMay_112 : decode cX12_findMay 112 = .ok (.getfield 70, 3) := by decide +kernel
theorem dX12_findMay_115 : decode cX12_findMay 115 = .ok (.bipush 49, 2) := by decide +kernel
theorem dX12_findMay_117 : decode cX12_findMay 117 = .ok (.iload 4, 2) := by decide +kernel
theorem dX12_findMay_119 : decode cX12_findMay 119 = .ok (.imul, 1) := by decide +kernel
theorem dX12_findMay_120 : decode cX12_findMay 120 = .ok (.bipush 7, 2) := by decide +kernel
theorem dX12_findMay_122 : decode cX12_findMay 122 = .ok (.iload 6, 2) := by decide +kernel
theorem dX12_findMay_124 : decode cX12_findMay 124 = .ok (.imul, 1) := by decide +kernel
theorem dX12_findMay_125 : decode cX12_findMay 125 = .ok (.iadd, 1) := by decide +kernel
theorem dX12_findMay_126 : decode cX12_findMay 126 = .ok (.iload 7, 2) := by decide +kernel
theorem dX12_findMay_128 : decode cX12_findMay 128 = .ok (.iadd, 1) := by decide +kernel
theorem dX12_findMay_129 : decode cX12_findMay 129 = .ok (.iload 6, 2) := by decide +kernel
theorem dX12_findMay_131 : decode cX12_findMay 131 = .ok (.iload 7, 2) := by decide +kernel
theorem dX12_findMay_133 : decode cX12_findMay 133 = .ok (.if_icmp .eq 34, 3) := by decide +kernel
theorem dX12_findMay_136 : decode cX12_findMay 136 = .ok (.aload_n 0, 1) := by decide +kernel
theorem dX12_findMay_137 : decode cX12_findMay 137 = .ok (.iload 4, 2) := by decide +kernel
theorem dX12_findMay_139 : decode cX12_findMay 139 = .ok (.iload 5, 2) := by decide +kernel
theorem dX12_findMay_141 : decode cX12_findMay 141 = .ok (.aload_n 0, 1) := by decide +kernel
theorem dX12_findMay_142 : decode cX12_findMay 142 = .ok (.iload 6, 2) := by decide +kernel
theorem dX12_findMay_144 : decode cX12_findMay 144 = .ok (.iload_n 2, 1) := by decide +kernel
theorem dX12_findMay_145 : decode cX12_findMay 145 = .ok (.iload_n 3, 1) := by decide +kernel
theorem dX12_findMay_146 : decode cX12_findMay 146 = .ok (.invokevirtual 168, 3) := by decide +kernel
theorem dX12_findMay_149 : decode cX12_findMay 149 = .ok (.aload_n 0, 1) := by decide +kernel
theorem dX12_findMay_150 : decode cX12_findMay 150 = .ok (.iload 7, 2) := by decide +kernel
theorem dX12_findMay_152 : decode cX12_findMay 152 = .ok (.iload_n 2, 1) := by decide +kernel
theorem dX12_findMay_153 : decode cX12_findMay 153 = .ok (.iload_n 3, 1) := by decide +kernel
theorem dX12_findMay_154 : decode cX12_findMay 154 = .ok (.invokevirtual 168, 3) := by decide +kernel
theorem dX12_findMay_157 : decode cX12_findMay 157 = .ok (.invokevirtual 248, 3) := by decide +kernel
theorem dX12_findMay_160 : decode cX12_findMay 160 = .ok (.ifCond .eq 7, 3) := by decide +kernel
theorem dX12_findMay_163 : decode cX12_findMay 163 = .ok (.iconst 1, 1) := by decide +kernel
theorem dX12_findMay_164 : decode cX12_findMay 164 = .ok (.goto 4, 3) := by decide +kernel
theorem dX12_findMay_167 : decode cX12_findMay 167 = .ok (.iconst 0, 1) := by decide +kernel
theorem dX12_findMay_168 : decode cX12_findMay 168 = .ok (.bastore, 1) := by decide +kernel
theorem dX12_findMay_169 : decode cX12_findMay 169 = .ok (.iinc 7 1, 3) := by decide +kernel
theorem dX12_findMay_172 : decode cX12_findMay 172 = .ok (.goto (-70), 3) := by decide +kernel
theorem dX12_findMay_175 : decode cX12_findMay 175 = .ok (.iinc 6 1, 3) := by decide +kernel
theorem dX12_findMay_178 : decode cX12_findMay 178 = .ok (.goto (-88), 3) := by decide +kernel
theorem dX12_findMay_181 : decode cX12_findMay 181 = .ok (.iinc 4 1, 3) := by decide +kernel
theorem dX12_findMay_184 : decode cX12_findMay 184 = .ok (.goto (-181), 3) := by decide +kernel
theorem dX12_findMay_187 : decode cX12_findMay 187 = .ok (.return_, 1) := by decide +kernel
theorem dX12_findNow_0 : decode cX12_findNow 0 = .ok (.aload_n 0, 1) := by decide +kernel
theorem dX12_findNow_1 : decode cX12_findNow 1 = .ok (.iconst 0, 1) := by decide +kernel
theorem dX12_findNow_2 : decode cX12_findNow 2 = .ok (.aload_n 0, 1) := by decide +kernel
theorem dX12_findNow_3 : decode cX12_findNow 3 = .ok (.getfield 25, 3) := by decide +kernel
theorem dX12_findNow_6 : decode cX12_findNow 6 = .ok (.iconst 0, 1) := by decide +kernel
theorem dX12_findNow_7 : decode cX12_findNow 7 = .ok (.invokevirtual 252, 3) := by decide +kernel
theorem dX12_findNow_10 : decode cX12_findNow 10 = .ok (.return_, 1) := by decide +kernel
theorem dX12_can_0 : decode cX12_can 0 = .ok (.aload_n 0, 1) := by decide +kernel
theorem dX12_can_1 : decode cX12_can 1 = .ok (.getfield 70, 3) := by decide +kernel
theorem dX12_can_4 : decode cX12_can 4 = .ok (.bipush 49, 2) := by decide +kernel
theorem dX12_can_6 : decode cX12_can 6 = .ok (.iload_n 2, 1) := by decide +kernel
theorem dX12_can_7 : decode cX12_can 7 = .ok (.imul, 1) := by decide +kernel
theorem dX12_can_8 : decode cX12_can 8 = .ok (.bipush 7, 2) := by decide +kernel
theorem dX12_can_10 : decode cX12_can 10 = .ok (.iload_n 3, 1) := by decide +kernel
theorem dX12_can_11 : decode cX12_can 11 = .ok (.imul, 1) := by decide +kernel
theorem dX12_can_12 : decode cX12_can 12 = .ok (.iadd, 1) := by decide +kernel
theorem dX12_can_13 : decode cX12_can 13 = .ok (.iload 4, 2) := by decide +kernel
theorem dX12_can_15 : decode cX12_can 15 = .ok (.iadd, 1) := by decide +kernel
theorem dX12_can_16 : decode cX12_can 16 = .ok (.baload, 1) := by decide +kernel
theorem dX12_can_17 : decode cX12_can 17 = .ok (.ifCond .eq 36, 3) := by decide +kernel
theorem dX12_can_20 : decode cX12_can 20 = .ok (.iload_n 1, 1) := by decide +kernel
theorem dX12_can_21 : decode cX12_can 21 = .ok (.iload_n 3, 1) := by decide +kernel
theorem dX12_can_22 : decode cX12_can 22 = .ok (.invokestatic 165, 3) := by decide +kernel
theorem dX12_can_25 : decode cX12_can 25 = .ok (.aload_n 0, 1) := by decide +kernel
theorem dX12_can_26 : decode cX12_can 26 = .ok (.getfield 74, 3) := by decide +kernel
theorem dX12_can_29 : decode cX12_can 29 = .ok (.iload_n 2, 1) := by decide +kernel
theorem dX12_can_30 : decode cX12_can 30 = .ok (.iaload, 1) := by decide +kernel
theorem dX12_can_31 : decode cX12_can 31 = .ok (.if_icmp .ne 22, 3) := by decide +kernel
theorem dX12_can_34 : decode cX12_can 34 = .ok (.iload_n 1, 1) := by decide +kernel
theorem dX12_can_35 : decode cX12_can 35 = .ok (.iload 4, 2) := by decide +kernel
theorem dX12_can_37 : decode cX12_can 37 = .ok (.invokestatic 165, 3) := by decide +kernel
theorem dX12_can_40 : decode cX12_can 40 = .ok (.aload_n 0, 1) := by decide +kernel
theorem dX12_can_41 : decode cX12_can 41 = .ok (.getfield 77, 3) := by decide +kernel
theorem dX12_can_44 : decode cX12_can 44 = .ok (.iload_n 2, 1) := by decide +kernel
theorem dX12_can_45 : decode cX12_can 45 = .ok (.iaload, 1) := by decide +kernel
theorem dX12_can_46 : decode cX12_can 46 = .ok (.if_icmp .ne 7, 3) := by decide +kernel
theorem dX12_can_49 : decode cX12_can 49 = .ok (.iconst 1, 1) := by decide +kernel
theorem dX12_can_50 : decode cX12_can 50 = .ok (.goto 4, 3) := by decide +kernel
theorem dX12_can_53 : decode cX12_can 53 = .ok (.iconst 0, 1) := by decide +kernel
theorem dX12_can_54 : decode cX12_can 54 = .ok (.ireturn, 1) := by decide +kernel
theorem dX12_swapped_0 : decode cX12_swapped 0 = .ok (.iload_n 0, 1) := by decide +kernel
theorem dX12_swapped_1 : decode cX12_swapped 1 = .ok (.iload_n 1, 1) := by decide +kernel
theorem dX12_swapped_2 : decode cX12_swapped 2 = .ok (.iload_n 0, 1) := by decide +kernel
theorem dX12_swapped_3 : decode cX12_swapped 3 = .ok (.iload_n 2, 1) := by decide +kernel
theorem dX12_swapped_4 : decode cX12_swapped 4 = .ok (.invokestatic 165, 3) := by decide +kernel
theorem dX12_swapped_7 : decode cX12_swapped 7 = .ok (.invokestatic 131, 3) := by decide +kernel
theorem dX12_swapped_10 : decode cX12_swapped 10 = .ok (.iload_n 2, 1) := by decide +kernel
theorem dX12_swapped_11 : decode cX12_swapped 11 = .ok (.iload_n 0, 1) := by decide +kernel
theorem dX12_swapped_12 : decode cX12_swapped 12 = .ok (.iload_n 1, 1) := by decide +kernel
theorem dX12_swapped_13 : decode cX12_swapped 13 = .ok (.invokestatic 165, 3) := by decide +kernel
theorem dX12_swapped_16 : decode cX12_swapped 16 = .ok (.invokestatic 131, 3) := by decide +kernel
theorem dX12_swapped_19 : decode cX12_swapped 19 = .ok (.ireturn, 1) := by decide +kernel
theorem dX12_areTwo_0 : decode cX12_areTwo 0 = .ok (.iload_n 1, 1) := by decide +kernel
theorem dX12_areTwo_1 : decode cX12_areTwo 1 = .ok (.ifCond .lt 40, 3) := by decide +kernel
theorem dX12_areTwo_4 : decode cX12_areTwo 4 = .ok (.aload_n 0, 1) := by decide +kernel
theorem dX12_areTwo_5 : decode cX12_areTwo 5 = .ok (.iload_n 1, 1) := by decide +kernel
theorem dX12_areTwo_6 : decode cX12_areTwo 6 = .ok (.bipush 10, 2) := by decide +kernel
theorem dX12_areTwo_8 : decode cX12_areTwo 8 = .ok (.idiv, 1) := by decide +kernel
theorem dX12_areTwo_9 : decode cX12_areTwo 9 = .ok (.invokevirtual 155, 3) := by decide +kernel
theorem dX12_areTwo_12 : decode cX12_areTwo 12 = .ok (.ifCond .eq 29, 3) := by decide +kernel
theorem dX12_areTwo_15 : decode cX12_areTwo 15 = .ok (.aload_n 0, 1) := by decide +kernel
theorem dX12_areTwo_16 : decode cX12_areTwo 16 = .ok (.iload_n 1, 1) := by decide +kernel
theorem dX12_areTwo_17 : decode cX12_areTwo 17 = .ok (.bipush 10, 2) := by decide +kernel
theorem dX12_areTwo_19 : decode cX12_areTwo 19 = .ok (.irem, 1) := by decide +kernel
theorem dX12_areTwo_20 : decode cX12_areTwo 20 = .ok (.invokevirtual 155, 3) := by decide +kernel
theorem dX12_areTwo_23 : decode cX12_areTwo 23 = .ok (.ifCond .eq 18, 3) := by decide +kernel
theorem dX12_areTwo_26 : decode cX12_areTwo 26 = .ok (.iload_n 1, 1) := by decide +kernel
theorem dX12_areTwo_27 : decode cX12_areTwo 27 = .ok (.bipush 10, 2) := by decide +kernel
theorem dX12_areTwo_29 : decode cX12_areTwo 29 = .ok (.idiv, 1) := by decide +kernel
theorem dX12_areTwo_30 : decode cX12_areTwo 30 = .ok (.iload_n 1, 1) := by decide +kernel
theorem dX12_areTwo_31 : decode cX12_areTwo 31 = .ok (.bipush 10, 2) := by decide +kernel
theorem dX12_areTwo_33 : decode cX12_areTwo 33 = .ok (.irem, 1) := by decide +kernel
theorem dX12_areTwo_34 : decode cX12_areTwo 34 = .ok (.if_icmp .eq 7, 3) := by decide +kernel
theorem dX12_areTwo_37 : decode cX12_areTwo 37 = .ok (.iconst 1, 1) := by decide +kernel
theorem dX12_areTwo_38 : decode cX12_areTwo 38 = .ok (.goto 4, 3) := by decide +kernel
theorem dX12_areTwo_41 : decode cX12_areTwo 41 = .ok (.iconst 0, 1) := by decide +kernel
theorem dX12_areTwo_42 : decode cX12_areTwo 42 = .ok (.ireturn, 1) := by decide +kernel
theorem dX12_may_0 : decode cX12_may 0 = .ok (.aload_n 0, 1) := by decide +kernel
theorem dX12_may_1 : decode cX12_may 1 = .ok (.iload_n 1, 1) := by decide +kernel
theorem dX12_may_2 : decode cX12_may 2 = .ok (.invokevirtual 161, 3) := by decide +kernel
theorem dX12_may_5 : decode cX12_may 5 = .ok (.ifCond .eq 11, 3) := by decide +kernel
theorem dX12_may_8 : decode cX12_may 8 = .ok (.aload_n 0, 1) := by decide +kernel
theorem dX12_may_9 : decode cX12_may 9 = .ok (.iload_n 2, 1) := by decide +kernel
theorem dX12_may_10 : decode cX12_may 10 = .ok (.invokevirtual 255, 3) := by decide +kernel
theorem dX12_may_13 : decode cX12_may 13 = .ok (.ifCond .ne 5, 3) := by decide +kernel
theorem dX12_may_16 : decode cX12_may 16 = .ok (.iconst (-1), 1) := by decide +kernel
theorem dX12_may_17 : decode cX12_may 17 = .ok (.ireturn, 1) := by decide +kernel
theorem dX12_may_18 : decode cX12_may 18 = .ok (.aload_n 0, 1) := by decide +kernel
theorem dX12_may_19 : decode cX12_may 19 = .ok (.invokevirtual 258, 3) := by decide +kernel
theorem dX12_may_22 : decode cX12_may 22 = .ok (.aload_n 0, 1) := by decide +kernel
theorem dX12_may_23 : decode cX12_may 23 = .ok (.aload_n 0, 1) := by decide +kernel
theorem dX12_may_24 : decode cX12_may 24 = .ok (.getfield 128, 3) := by decide +kernel
theorem dX12_may_27 : decode cX12_may 27 = .ok (.iload_n 1, 1) := by decide +kernel
theorem dX12_may_28 : decode cX12_may 28 = .ok (.iload_n 2, 1) := by decide +kernel
theorem dX12_may_29 : decode cX12_may 29 = .ok (.bipush 10, 2) := by decide +kernel
theorem dX12_may_31 : decode cX12_may 31 = .ok (.idiv, 1) := by decide +kernel
theorem dX12_may_32 : decode cX12_may 32 = .ok (.iload_n 2, 1) := by decide +kernel
theorem dX12_may_33 : decode cX12_may 33 = .ok (.bipush 10, 2) := by decide +kernel
theorem dX12_may_35 : decode cX12_may 35 = .ok (.irem, 1) := by decide +kernel
theorem dX12_may_36 : decode cX12_may 36 = .ok (.invokevirtual 261, 3) := by decide +kernel
theorem dX12_may_39 : decode cX12_may 39 = .ok (.ifCond .eq 7, 3) := by decide +kernel
theorem dX12_may_42 : decode cX12_may 42 = .ok (.iconst 1, 1) := by decide +kernel
theorem dX12_may_43 : decode cX12_may 43 = .ok (.goto 4, 3) := by decide +kernel
theorem dX12_may_46 : decode cX12_may 46 = .ok (.iconst 0, 1) := by decide +kernel
theorem dX12_may_47 : decode cX12_may 47 = .ok (.ireturn, 1) := by decide +kernel
theorem dX12_changes_0 : decode cX12_changes 0 = .ok (.iload_n 1, 1) := by decide +kernel
theorem dX12_changes_1 : decode cX12_changes 1 = .ok (.iconst (-1), 1) := by decide +kernel
theorem dX12_changes_2 : decode cX12_changes 2 = .ok (.if_icmp .ge 5, 3) := by decide +kernel
theorem dX12_changes_5 : decode cX12_changes 5 = .ok (.iconst (-1), 1) := by decide +kernel
theorem dX12_changes_6 : decode cX12_changes 6 = .ok (.ireturn, 1) := by decide +kernel
theorem dX12_changes_7 : decode cX12_changes 7 = .ok (.aload_n 0, 1) := by decide +kernel
theorem dX12_changes_8 : decode cX12_changes 8 = .ok (.invokevirtual 258, 3) := by decide +kernel
theorem dX12_changes_11 : decode cX12_changes 11 = .ok (.iconst 0, 1) := by decide +kernel
theorem dX12_changes_12 : decode cX12_changes 12 = .ok (.istore_n 2, 1) := by decide +kernel
theorem dX12_changes_13 : decode cX12_changes 13 = .ok (.iconst 0, 1) := by decide +kernel
theorem dX12_changes_14 : decode cX12_changes 14 = .ok (.istore_n 3, 1) := by decide +kernel
theorem dX12_changes_15 : decode cX12_changes 15 = .ok (.iload_n 3, 1) := by decide +kernel
theorem dX12_changes_16 : decode cX12_changes 16 = .ok (.aload_n 0, 1) := by decide +kernel
theorem dX12_changes_17 : decode cX12_changes 17 = .ok (.getfield 118, 3) := by decide +kernel
theorem dX12_changes_20 : decode cX12_changes 20 = .ok (.if_icmp .ge 86, 3) := by decide +kernel
theorem dX12_changes_23 : decode cX12_changes 23 = .ok (.iconst 0, 1) := by decide +kernel
theorem dX12_changes_24 : decode cX12_changes 24 = .ok (.istore 4, 2) := by decide +kernel
theorem dX12_changes_26 : decode cX12_changes 26 = .ok (.iload 4, 2) := by decide +kernel
theorem dX12_changes_28 : decode cX12_changes 28 = .ok (.aload_n 0, 1) := by decide +kernel
theorem dX12_changes_29 : decode cX12_changes 29 = .ok (.getfield 121, 3) := by decide +kernel
theorem dX12_changes_32 : decode cX12_changes 32 = .ok (.if_icmp .ge 68, 3) := by decide +kernel
theorem dX12_changes_35 : decode cX12_changes 35 = .ok (.iconst 0, 1) := by decide +kernel
theorem dX12_changes_36 : decode cX12_changes 36 = .ok (.istore 5, 2) := by decide +kernel
theorem dX12_changes_38 : decode cX12_changes 38 = .ok (.iload 5, 2) := by decide +kernel
theorem dX12_changes_40 : decode cX12_changes 40 = .ok (.aload_n 0, 1) := by decide +kernel
theorem dX12_changes_41 : decode cX12_changes 41 = .ok (.getfield 121, 3) := by decide +kernel
theorem dX12_changes_44 : decode cX12_changes 44 = .ok (.if_icmp .ge 50, 3) := by decide +kernel
theorem dX12_changes_47 : decode cX12_changes 47 = .ok (.aload_n 0, 1) := by decide +kernel
theorem dX12_changes_48 : decode cX12_changes 48 = .ok (.aload_n 0, 1) := by decide +kernel
theorem dX12_changes_49 : decode cX12_changes 49 = .ok (.getfield 128, 3) := by decide +kernel
theorem dX12_changes_52 : decode cX12_changes 52 = .ok (.iload_n 3, 1) := by decide +kernel
theorem dX12_changes_53 : decode cX12_changes 53 = .ok (.iload 4, 2) := by decide +kernel
theorem dX12_changes_55 : decode cX12_changes 55 = .ok (.iload 5, 2) := by decide +kernel
theorem dX12_changes_57 : decode cX12_changes 57 = .ok (.invokevirtual 261, 3) := by decide +kernel
theorem dX12_changes_60 : decode cX12_changes 60 = .ok (.ifCond .ne 6, 3) := by decide +kernel
theorem dX12_changes_63 : decode cX12_changes 63 = .ok (.goto 25, 3) := by decide +kernel
theorem dX12_changes_66 : decode cX12_changes 66 = .ok (.iload_n 2, 1) := by decide +kernel
theorem dX12_changes_67 : decode cX12_changes 67 = .ok (.iload_n 1, 1) := by decide +kernel
theorem dX12_changes_68 : decode cX12_changes 68 = .ok (.if_icmp .ne 17, 3) := by decide +kernel
theorem dX12_changes_71 : decode cX12_changes 71 = .ok (.bipush 100, 2) := by decide +kernel
theorem dX12_changes_73 : decode cX12_changes 73 = .ok (.iload_n 3, 1) := by decide +kernel
theorem dX12_changes_74 : decode cX12_changes 74 = .ok (.imul, 1) := by decide +kernel
theorem dX12_changes_75 : decode cX12_changes 75 = .ok (.bipush 10, 2) := by decide +kernel
theorem dX12_changes_77 : decode cX12_changes 77 = .ok (.iload 4, 2) := by decide +kernel
theorem dX12_changes_79 : decode cX12_changes 79 = .ok (.imul, 1) := by decide +kernel
theorem dX12_changes_80 : decode cX12_changes 80 = .ok (.iadd, 1) := by decide +kernel
theorem dX12_changes_81 : decode cX12_changes 81 = .ok (.iload 5, 2) := by decide +kernel
theorem dX12_changes_83 : decode cX12_changes 83 = .ok (.iadd, 1) := by decide +kernel
theorem dX12_changes_84 : decode cX12_changes 84 = .ok (.ireturn, 1) := by decide +kernel
theorem dX12_changes_85 : decode cX12_changes 85 = .ok (.iinc 2 1, 3) := by decide +kernel
theorem dX12_changes_88 : decode cX12_changes 88 = .ok (.iinc 5 1, 3) := by decide +kernel
theorem dX12_changes_91 : decode cX12_changes 91 = .ok (.goto (-53), 3) := by decide +kernel
theorem dX12_changes_94 : decode cX12_changes 94 = .ok (.iinc 4 1, 3) := by decide +kernel
theorem dX12_changes_97 : decode cX12_changes 97 = .ok (.goto (-71), 3) := by decide +kernel
theorem dX12_changes_100 : decode cX12_changes 100 = .ok (.iinc 3 1, 3) := by decide +kernel
theorem dX12_changes_103 : decode cX12_changes 103 = .ok (.goto (-88), 3) := by decide +kernel
theorem dX12_changes_106 : decode cX12_changes 106 = .ok (.iload_n 1, 1) := by decide +kernel
theorem dX12_changes_107 : decode cX12_changes 107 = .ok (.ifCond .ge 7, 3) := by decide +kernel
theorem dX12_changes_110 : decode cX12_changes 110 = .ok (.iload_n 2, 1) := by decide +kernel
theorem dX12_changes_111 : decode cX12_changes 111 = .ok (.goto 4, 3) := by decide +kernel
theorem dX12_changes_114 : decode cX12_changes 114 = .ok (.iconst (-1), 1) := by decide +kernel
theorem dX12_changes_115 : decode cX12_changes 115 = .ok (.ireturn, 1) := by decide +kernel
theorem dX12_change_0 : decode cX12_change 0 = .ok (.aload_n 0, 1) := by decide +kernel
theorem dX12_change_1 : decode cX12_change 1 = .ok (.iload_n 1, 1) := by decide +kernel
theorem dX12_change_2 : decode cX12_change 2 = .ok (.invokevirtual 161, 3) := by decide +kernel
theorem dX12_change_5 : decode cX12_change 5 = .ok (.ifCond .eq 11, 3) := by decide +kernel
theorem dX12_change_8 : decode cX12_change 8 = .ok (.aload_n 0, 1) := by decide +kernel
theorem dX12_change_9 : decode cX12_change 9 = .ok (.iload_n 2, 1) := by decide +kernel
theorem dX12_change_10 : decode cX12_change 10 = .ok (.invokevirtual 255, 3) := by decide +kernel
theorem dX12_change_13 : decode cX12_change 13 = .ok (.ifCond .ne 5, 3) := by decide +kernel
theorem dX12_change_16 : decode cX12_change 16 = .ok (.iconst (-1), 1) := by decide +kernel
theorem dX12_change_17 : decode cX12_change 17 = .ok (.ireturn, 1) := by decide +kernel
theorem dX12_change_18 : decode cX12_change 18 = .ok (.aload_n 0, 1) := by decide +kernel
theorem dX12_change_19 : decode cX12_change 19 = .ok (.invokevirtual 258, 3) := by decide +kernel
theorem dX12_change_22 : decode cX12_change 22 = .ok (.aload_n 0, 1) := by decide +kernel
theorem dX12_change_23 : decode cX12_change 23 = .ok (.aload_n 0, 1) := by decide +kernel
theorem dX12_change_24 : decode cX12_change 24 = .ok (.getfield 128, 3) := by decide +kernel
theorem dX12_change_27 : decode cX12_change 27 = .ok (.iload_n 1, 1) := by decide +kernel
theorem dX12_change_28 : decode cX12_change 28 = .ok (.iload_n 2, 1) := by decide +kernel
theorem dX12_change_29 : decode cX12_change 29 = .ok (.bipush 10, 2) := by decide +kernel
theorem dX12_change_31 : decode cX12_change 31 = .ok (.idiv, 1) := by decide +kernel
theorem dX12_change_32 : decode cX12_change 32 = .ok (.iload_n 2, 1) := by decide +kernel
theorem dX12_change_33 : decode cX12_change 33 = .ok (.bipush 10, 2) := by decide +kernel
theorem dX12_change_35 : decode cX12_change 35 = .ok (.irem, 1) := by decide +kernel
theorem dX12_change_36 : decode cX12_change 36 = .ok (.invokevirtual 261, 3) := by decide +kernel
theorem dX12_change_39 : decode cX12_change 39 = .ok (.ifCond .ne 6, 3) := by decide +kernel
theorem dX12_change_42 : decode cX12_change 42 = .ok (.bipush (-2), 2) := by decide +kernel
theorem dX12_change_44 : decode cX12_change 44 = .ok (.ireturn, 1) := by decide +kernel
theorem dX12_change_45 : decode cX12_change 45 = .ok (.aload_n 0, 1) := by decide +kernel
theorem dX12_change_46 : decode cX12_change 46 = .ok (.aload_n 0, 1) := by decide +kernel
theorem dX12_change_47 : decode cX12_change 47 = .ok (.getfield 128, 3) := by decide +kernel
theorem dX12_change_50 : decode cX12_change 50 = .ok (.iload_n 2, 1) := by decide +kernel
theorem dX12_change_51 : decode cX12_change 51 = .ok (.bipush 10, 2) := by decide +kernel
theorem dX12_change_53 : decode cX12_change 53 = .ok (.idiv, 1) := by decide +kernel
theorem dX12_change_54 : decode cX12_change 54 = .ok (.iload_n 2, 1) := by decide +kernel
theorem dX12_change_55 : decode cX12_change 55 = .ok (.bipush 10, 2) := by decide +kernel
theorem dX12_change_57 : decode cX12_change 57 = .ok (.irem, 1) := by decide +kernel
theorem dX12_change_58 : decode cX12_change 58 = .ok (.invokestatic 265, 3) := by decide +kernel
theorem dX12_change_61 : decode cX12_change 61 = .ok (.putfield 128, 3) := by decide +kernel
theorem dX12_change_64 : decode cX12_change 64 = .ok (.aload_n 0, 1) := by decide +kernel
theorem dX12_change_65 : decode cX12_change 65 = .ok (.bipush 100, 2) := by decide +kernel
theorem dX12_change_67 : decode cX12_change 67 = .ok (.iload_n 1, 1) := by decide +kernel
theorem dX12_change_68 : decode cX12_change 68 = .ok (.imul, 1) := by decide +kernel
theorem dX12_change_69 : decode cX12_change 69 = .ok (.iload_n 2, 1) := by decide +kernel
theorem dX12_change_70 : decode cX12_change 70 = .ok (.iadd, 1) := by decide +kernel
theorem dX12_change_71 : decode cX12_change 71 = .ok (.putfield 268, 3) := by decide +kernel
theorem dX12_change_74 : decode cX12_change 74 = .ok (.aload_n 0, 1) := by decide +kernel
theorem dX12_change_75 : decode cX12_change 75 = .ok (.dup, 1) := by decide +kernel
theorem dX12_change_76 : decode cX12_change 76 = .ok (.getfield 271, 3) := by decide +kernel
theorem dX12_change_79 : decode cX12_change 79 = .ok (.iconst 1, 1) := by decide +kernel
theorem dX12_change_80 : decode cX12_change 80 = .ok (.iadd, 1) := by decide +kernel
theorem dX12_change_81 : decode cX12_change 81 = .ok (.putfield 271, 3) := by decide +kernel
theorem dX12_change_84 : decode cX12_change 84 = .ok (.aload_n 0, 1) := by decide +kernel
theorem dX12_change_85 : decode cX12_change 85 = .ok (.getfield 271, 3) := by decide +kernel
theorem dX12_change_88 : decode cX12_change 88 = .ok (.ireturn, 1) := by decide +kernel
theorem dX12_led_0 : decode cX12_led 0 = .ok (.iload_n 1, 1) := by decide +kernel
theorem dX12_led_1 : decode cX12_led 1 = .ok (.iconst 0, 1) := by decide +kernel
theorem dX12_led_2 : decode cX12_led 2 = .ok (.iconst 1, 1) := by decide +kernel
theorem dX12_led_3 : decode cX12_led 3 = .ok (.invokestatic 114, 3) := by decide +kernel
theorem dX12_led_6 : decode cX12_led 6 = .ok (.ifCond .ne 5, 3) := by decide +kernel
theorem dX12_led_9 : decode cX12_led 9 = .ok (.iconst (-1), 1) := by decide +kernel
theorem dX12_led_10 : decode cX12_led 10 = .ok (.ireturn, 1) := by decide +kernel
theorem dX12_led_11 : decode cX12_led 11 = .ok (.iload_n 1, 1) := by decide +kernel
theorem dX12_led_12 : decode cX12_led 12 = .ok (.ifCond .ne 8, 3) := by decide +kernel
theorem dX12_led_15 : decode cX12_led 15 = .ok (.aload_n 0, 1) := by decide +kernel
theorem dX12_led_16 : decode cX12_led 16 = .ok (.getfield 271, 3) := by decide +kernel
theorem dX12_led_19 : decode cX12_led 19 = .ok (.ireturn, 1) := by decide +kernel
theorem dX12_led_20 : decode cX12_led 20 = .ok (.aload_n 0, 1) := by decide +kernel
theorem dX12_led_21 : decode cX12_led 21 = .ok (.getfield 271, 3) := by decide +kernel
theorem dX12_led_24 : decode cX12_led 24 = .ok (.ifCond .ne 8, 3) := by decide +kernel
theorem dX12_led_27 : decode cX12_led 27 = .ok (.bipush (-5), 2) := by decide +kernel
theorem dX12_led_29 : decode cX12_led 29 = .ok (.goto 7, 3) := by decide +kernel
theorem dX12_led_32 : decode cX12_led 32 = .ok (.aload_n 0, 1) := by decide +kernel
theorem dX12_led_33 : decode cX12_led 33 = .ok (.getfield 268, 3) := by decide +kernel
theorem dX12_led_36 : decode cX12_led 36 = .ok (.ireturn, 1) := by decide +kernel
theorem dX12_meet_0 : decode cX12_meet 0 = .ok (.aload_n 0, 1) := by decide +kernel
theorem dX12_meet_1 : decode cX12_meet 1 = .ok (.getfield 80, 3) := by decide +kernel
theorem dX12_meet_4 : decode cX12_meet 4 = .ok (.iload_n 1, 1) := by decide +kernel
theorem dX12_meet_5 : decode cX12_meet 5 = .ok (.saload, 1) := by decide +kernel
theorem dX12_meet_6 : decode cX12_meet 6 = .ok (.ifCond .lt 4, 3) := by decide +kernel
theorem dX12_meet_9 : decode cX12_meet 9 = .ok (.return_, 1) := by decide +kernel
theorem dX12_meet_10 : decode cX12_meet 10 = .ok (.aload_n 0, 1) := by decide +kernel
theorem dX12_meet_11 : decode cX12_meet 11 = .ok (.getfield 80, 3) := by decide +kernel
theorem dX12_meet_14 : decode cX12_meet 14 = .ok (.iload_n 1, 1) := by decide +kernel
theorem dX12_meet_15 : decode cX12_meet 15 = .ok (.iload_n 2, 1) := by decide +kernel
theorem dX12_meet_16 : decode cX12_meet 16 = .ok (.i2s, 1) := by decide +kernel
theorem dX12_meet_17 : decode cX12_meet 17 = .ok (.sastore, 1) := by decide +kernel
theorem dX12_meet_18 : decode cX12_meet 18 = .ok (.aload_n 0, 1) := by decide +kernel
theorem dX12_meet_19 : decode cX12_meet 19 = .ok (.getfield 83, 3) := by decide +kernel
theorem dX12_meet_22 : decode cX12_meet 22 = .ok (.aload_n 0, 1) := by decide +kernel
theorem dX12_meet_23 : decode cX12_meet 23 = .ok (.getfield 274, 3) := by decide +kernel
theorem dX12_meet_26 : decode cX12_meet 26 = .ok (.iload_n 1, 1) := by decide +kernel
theorem dX12_meet_27 : decode cX12_meet 27 = .ok (.i2s, 1) := by decide +kernel
theorem dX12_meet_28 : decode cX12_meet 28 = .ok (.sastore, 1) := by decide +kernel
theorem dX12_meet_29 : decode cX12_meet 29 = .ok (.aload_n 0, 1) := by decide +kernel
theorem dX12_meet_30 : decode cX12_meet 30 = .ok (.dup, 1) := by decide +kernel
theorem dX12_meet_31 : decode cX12_meet 31 = .ok (.getfield 274, 3) := by decide +kernel
theorem dX12_meet_34 : decode cX12_meet 34 = .ok (.iconst 1, 1) := by decide +kernel
theorem dX12_meet_35 : decode cX12_meet 35 = .ok (.iadd, 1) := by decide +kernel
theorem dX12_meet_36 : decode cX12_meet 36 = .ok (.putfield 274, 3) := by decide +kernel
theorem dX12_meet_39 : decode cX12_meet 39 = .ok (.aload_n 0, 1) := by decide +kernel
theorem dX12_meet_40 : decode cX12_meet 40 = .ok (.getfield 277, 3) := by decide +kernel
theorem dX12_meet_43 : decode cX12_meet 43 = .ok (.ifCond .ge 21, 3) := by decide +kernel
theorem dX12_meet_46 : decode cX12_meet 46 = .ok (.iload_n 1, 1) := by decide +kernel
theorem dX12_meet_47 : decode cX12_meet 47 = .ok (.aload_n 0, 1) := by decide +kernel
theorem dX12_meet_48 : decode cX12_meet 48 = .ok (.getfield 280, 3) := by decide +kernel
theorem dX12_meet_51 : decode cX12_meet 51 = .ok (.iand, 1) := by decide +kernel
theorem dX12_meet_52 : decode cX12_meet 52 = .ok (.aload_n 0, 1) := by decide +kernel
theorem dX12_meet_53 : decode cX12_meet 53 = .ok (.getfield 283, 3) := by decide +kernel
theorem dX12_meet_56 : decode cX12_meet 56 = .ok (.if_icmp .ne 8, 3) := by decide +kernel
theorem dX12_meet_59 : decode cX12_meet 59 = .ok (.aload_n 0, 1) := by decide +kernel
theorem dX12_meet_60 : decode cX12_meet 60 = .ok (.iload_n 2, 1) := by decide +kernel
theorem dX12_meet_61 : decode cX12_meet 61 = .ok (.putfield 277, 3) := by decide +kernel
theorem dX12_meet_64 : decode cX12_meet 64 = .ok (.return_, 1) := by decide +kernel
theorem dX12_findAll_0 : decode cX12_findAll 0 = .ok (.iconst 0, 1) := by decide +kernel
theorem dX12_findAll_1 : decode cX12_findAll 1 = .ok (.istore_n 3, 1) := by decide +kernel
theorem dX12_findAll_2 : decode cX12_findAll 2 = .ok (.iload_n 3, 1) := by decide +kernel
theorem dX12_findAll_3 : decode cX12_findAll 3 = .ok (.sipush 16384, 3) := by decide +kernel
theorem dX12_findAll_6 : decode cX12_findAll 6 = .ok (.if_icmp .ge 16, 3) := by decide +kernel
theorem dX12_findAll_9 : decode cX12_findAll 9 = .ok (.aload_n 0, 1) := by decide +kernel
theorem dX12_findAll_10 : decode cX12_findAll 10 = .ok (.getfield 80, 3) := by decide +kernel
theorem dX12_findAll_13 : decode cX12_findAll 13 = .ok (.iload_n 3, 1) := by decide +kernel
theorem dX12_findAll_14 : decode cX12_findAll 14 = .ok (.iconst (-1), 1) := by decide +kernel
theorem dX12_findAll_15 : decode cX12_findAll 15 = .ok (.sastore, 1) := by decide +kernel
theorem dX12_findAll_16 : decode cX12_findAll 16 = .ok (.iinc 3 1, 3) := by decide +kernel
theorem dX12_findAll_19 : decode cX12_findAll 19 = .ok (.goto (-17), 3) := by decide +kernel
theorem dX12_findAll_22 : decode cX12_findAll 22 = .ok (.aload_n 0, 1) := by decide +kernel
theorem dX12_findAll_23 : decode cX12_findAll 23 = .ok (.iconst 0, 1) := by decide +kernel
theorem dX12_findAll_24 : decode cX12_findAll 24 = .ok (.putfield 274, 3) := by decide +kernel
theorem dX12_findAll_27 : decode cX12_findAll 27 = .ok (.aload_n 0, 1) := by decide +kernel
theorem dX12_findAll_28 : decode cX12_findAll 28 = .ok (.iconst (-1), 1) := by decide +kernel
theorem dX12_findAll_29 : decode cX12_findAll 29 = .ok (.putfield 277, 3) := by decide +kernel
theorem dX12_findAll_32 : decode cX12_findAll 32 = .ok (.aload_n 0, 1) := by decide +kernel
theorem dX12_findAll_33 : decode cX12_findAll 33 = .ok (.iload_n 1, 1) := by decide +kernel
theorem dX12_findAll_34 : decode cX12_findAll 34 = .ok (.iconst 0, 1) := by decide +kernel
theorem dX12_findAll_35 : decode cX12_findAll 35 = .ok (.invokevirtual 286, 3) := by decide +kernel
theorem dX12_findAll_38 : decode cX12_findAll 38 = .ok (.iconst 0, 1) := by decide +kernel
theorem dX12_findAll_39 : decode cX12_findAll 39 = .ok (.istore_n 3, 1) := by decide +kernel
theorem dX12_findAll_40 : decode cX12_findAll 40 = .ok (.iload_n 3, 1) := by decide +kernel
theorem dX12_findAll_41 : decode cX12_findAll 41 = .ok (.aload_n 0, 1) := by decide +kernel
theorem dX12_findAll_42 : decode cX12_findAll 42 = .ok (.getfield 274, 3) := by decide +kernel
theorem dX12_findAll_45 : decode cX12_findAll 45 = .ok (.if_icmp .ge 124, 3) := by decide +kernel
theorem dX12_findAll_48 : decode cX12_findAll 48 = .ok (.aload_n 0, 1) := by decide +kernel
theorem dX12_findAll_49 : decode cX12_findAll 49 = .ok (.getfield 83, 3) := by decide +kernel
theorem dX12_findAll_52 : decode cX12_findAll 52 = .ok (.iload_n 3, 1) := by decide +kernel
theorem dX12_findAll_53 : decode cX12_findAll 53 = .ok (.saload, 1) := by decide +kernel
theorem dX12_findAll_54 : decode cX12_findAll 54 = .ok (.istore 4, 2) := by decide +kernel
theorem dX12_findAll_56 : decode cX12_findAll 56 = .ok (.iconst 0, 1) := by decide +kernel
theorem dX12_findAll_57 : decode cX12_findAll 57 = .ok (.istore 5, 2) := by decide +kernel
theorem dX12_findAll_59 : decode cX12_findAll 59 = .ok (.iload 5, 2) := by decide +kernel
theorem dX12_findAll_61 : decode cX12_findAll 61 = .ok (.aload_n 0, 1) := by decide +kernel
theorem dX12_findAll_62 : decode cX12_findAll 62 = .ok (.getfield 118, 3) := by decide +kernel
theorem dX12_findAll_65 : decode cX12_findAll 65 = .ok (.if_icmp .ge 98, 3) := by decide +kernel
theorem dX12_findAll_68 : decode cX12_findAll 68 = .ok (.iconst 0, 1) := by decide +kernel
theorem dX12_findAll_69 : decode cX12_findAll 69 = .ok (.istore 6, 2) := by decide +kernel
theorem dX12_findAll_71 : decode cX12_findAll 71 = .ok (.iload 6, 2) := by decide +kernel
theorem dX12_findAll_73 : decode cX12_findAll 73 = .ok (.aload_n 0, 1) := by decide +kernel
theorem dX12_findAll_74 : decode cX12_findAll 74 = .ok (.getfield 121, 3) := by decide +kernel
theorem dX12_findAll_77 : decode cX12_findAll 77 = .ok (.if_icmp .ge 80, 3) := by decide +kernel
theorem dX12_findAll_80 : decode cX12_findAll 80 = .ok (.iconst 0, 1) := by decide +kernel
theorem dX12_findAll_81 : decode cX12_findAll 81 = .ok (.istore 7, 2) := by decide +kernel
theorem dX12_findAll_83 : decode cX12_findAll 83 = .ok (.iload 7, 2) := by decide +kernel
theorem dX12_findAll_85 : decode cX12_findAll 85 = .ok (.aload_n 0, 1) := by decide +kernel
theorem dX12_findAll_86 : decode cX12_findAll 86 = .ok (.getfield 121, 3) := by decide +kernel
theorem dX12_findAll_89 : decode cX12_findAll 89 = .ok (.if_icmp .ge 62, 3) := by decide +kernel
theorem dX12_findAll_92 : decode cX12_findAll 92 = .ok (.iload_n 2, 1) := by decide +kernel
theorem dX12_findAll_93 : decode cX12_findAll 93 = .ok (.ifCond .lt 15, 3) := by decide +kernel
theorem dX12_findAll_96 : decode cX12_findAll 96 = .ok (.iload 6, 2) := by decide +kernel
theorem dX12_findAll_98 : decode cX12_findAll 98 = .ok (.iload_n 2, 1) := by decide +kernel
theorem dX12_findAll_99 : decode cX12_findAll 99 = .ok (.if_icmp .eq 9, 3) := by decide +kernel
theorem dX12_findAll_102 : decode cX12_findAll 102 = .ok (.iload 7, 2) := by decide +kernel
theorem dX12_findAll_104 : decode cX12_findAll 104 = .ok (.iload_n 2, 1) := by decide +kernel
theorem dX12_findAll_105 : decode cX12_findAll 105 = .ok (.if_icmp .ne 40, 3) := by decide +kernel
theorem dX12_findAll_108 : decode cX12_findAll 108 = .ok (.aload_n 0, 1) := by decide +kernel
theorem dX12_findAll_109 : decode cX12_findAll 109 = .ok (.iload 4, 2) := by decide +kernel
theorem dX12_findAll_111 : decode cX12_findAll 111 = .ok (.iload 5, 2) := by decide +kernel
theorem dX12_findAll_113 : decode cX12_findAll 113 = .ok (.iload 6, 2) := by decide +kernel
theorem dX12_findAll_115 : decode cX12_findAll 115 = .ok (.iload 7, 2) := by decide +kernel
theorem dX12_findAll_117 : decode cX12_findAll 117 = .ok (.invokevirtual 261, 3) := by decide +kernel
theorem dX12_findAll_120 : decode cX12_findAll 120 = .ok (.ifCond .eq 25, 3) := by decide +kernel
theorem dX12_findAll_123 : decode cX12_findAll 123 = .ok (.aload_n 0, 1) := by decide +kernel
theorem dX12_findAll_124 : decode cX12_findAll 124 = .ok (.iload 4, 2) := by decide +kernel
theorem dX12_findAll_126 : decode cX12_findAll 126 = .ok (.iload 6, 2) := by decide +kernel
theorem dX12_findAll_128 : decode cX12_findAll 128 = .ok (.iload 7, 2) := by decide +kernel
theorem dX12_findAll_130 : decode cX12_findAll 130 = .ok (.invokestatic 265, 3) := by decide +kernel
theorem dX12_findAll_133 : decode cX12_findAll 133 = .ok (.aload_n 0, 1) := by decide +kernel
theorem dX12_findAll_134 : decode cX12_findAll 134 = .ok (.getfield 80, 3) := by decide +kernel
theorem dX12_findAll_137 : decode cX12_findAll 137 = .ok (.iload 4, 2) := by decide +kernel
theorem dX12_findAll_139 : decode cX12_findAll 139 = .ok (.saload, 1) := by decide +kernel
theorem dX12_findAll_140 : decode cX12_findAll 140 = .ok (.iconst 1, 1) := by decide +kernel
theorem dX12_findAll_141 : decode cX12_findAll 141 = .ok (.iadd, 1) := by decide +kernel
theorem dX12_findAll_142 : decode cX12_findAll 142 = .ok (.invokevirtual 286, 3) := by decide +kernel
theorem dX12_findAll_145 : decode cX12_findAll 145 = .ok (.iinc 7 1, 3) := by decide +kernel
theorem dX12_findAll_148 : decode cX12_findAll 148 = .ok (.goto (-65), 3) := by decide +kernel
theorem dX12_findAll_151 : decode cX12_findAll 151 = .ok (.iinc 6 1, 3) := by decide +kernel
theorem dX12_findAll_154 : decode cX12_findAll 154 = .ok (.goto (-83), 3) := by decide +kernel
theorem dX12_findAll_157 : decode cX12_findAll 157 = .ok (.iinc 5 1, 3) := by decide +kernel
theorem dX12_findAll_160 : decode cX12_findAll 160 = .ok (.goto (-101), 3) := by decide +kernel
theorem dX12_findAll_163 : decode cX12_findAll 163 = .ok (.iinc 3 1, 3) := by decide +kernel
theorem dX12_findAll_166 : decode cX12_findAll 166 = .ok (.goto (-126), 3) := by decide +kernel
theorem dX12_findAll_169 : decode cX12_findAll 169 = .ok (.return_, 1) := by decide +kernel
theorem dX12_noGoal_0 : decode cX12_noGoal 0 = .ok (.aload_n 0, 1) := by decide +kernel
theorem dX12_noGoal_1 : decode cX12_noGoal 1 = .ok (.iconst 0, 1) := by decide +kernel
theorem dX12_noGoal_2 : decode cX12_noGoal 2 = .ok (.putfield 280, 3) := by decide +kernel
theorem dX12_noGoal_5 : decode cX12_noGoal 5 = .ok (.aload_n 0, 1) := by decide +kernel
theorem dX12_noGoal_6 : decode cX12_noGoal 6 = .ok (.iconst (-1), 1) := by decide +kernel
theorem dX12_noGoal_7 : decode cX12_noGoal 7 = .ok (.putfield 283, 3) := by decide +kernel
theorem dX12_noGoal_10 : decode cX12_noGoal 10 = .ok (.return_, 1) := by decide +kernel
theorem dX12_goal_0 : decode cX12_goal 0 = .ok (.aload_n 0, 1) := by decide +kernel
theorem dX12_goal_1 : decode cX12_goal 1 = .ok (.iconst 0, 1) := by decide +kernel
theorem dX12_goal_2 : decode cX12_goal 2 = .ok (.putfield 280, 3) := by decide +kernel
theorem dX12_goal_5 : decode cX12_goal 5 = .ok (.aload_n 0, 1) := by decide +kernel
theorem dX12_goal_6 : decode cX12_goal 6 = .ok (.iconst 0, 1) := by decide +kernel
theorem dX12_goal_7 : decode cX12_goal 7 = .ok (.putfield 283, 3) := by decide +kernel
theorem dX12_goal_10 : decode cX12_goal 10 = .ok (.iconst 0, 1) := by decide +kernel
theorem dX12_goal_11 : decode cX12_goal 11 = .ok (.istore_n 3, 1) := by decide +kernel
theorem dX12_goal_12 : decode cX12_goal 12 = .ok (.iload_n 3, 1) := by decide +kernel
theorem dX12_goal_13 : decode cX12_goal 13 = .ok (.aload_n 0, 1) := by decide +kernel
theorem dX12_goal_14 : decode cX12_goal 14 = .ok (.getfield 121, 3) := by decide +kernel
theorem dX12_goal_17 : decode cX12_goal 17 = .ok (.if_icmp .ge 48, 3) := by decide +kernel
theorem dX12_goal_20 : decode cX12_goal 20 = .ok (.iload_n 1, 1) := by decide +kernel
theorem dX12_goal_21 : decode cX12_goal 21 = .ok (.iload_n 3, 1) := by decide +kernel
theorem dX12_goal_22 : decode cX12_goal 22 = .ok (.ishr, 1) := by decide +kernel
theorem dX12_goal_23 : decode cX12_goal 23 = .ok (.iconst 1, 1) := by decide +kernel
theorem dX12_goal_24 : decode cX12_goal 24 = .ok (.iand, 1) := by decide +kernel
theorem dX12_goal_25 : decode cX12_goal 25 = .ok (.ifCond .ne 6, 3) := by decide +kernel
theorem dX12_goal_28 : decode cX12_goal 28 = .ok (.goto 31, 3) := by decide +kernel
theorem dX12_goal_31 : decode cX12_goal 31 = .ok (.aload_n 0, 1) := by decide +kernel
theorem dX12_goal_32 : decode cX12_goal 32 = .ok (.dup, 1) := by decide +kernel
theorem dX12_goal_33 : decode cX12_goal 33 = .ok (.getfield 280, 3) := by decide +kernel
theorem dX12_goal_36 : decode cX12_goal 36 = .ok (.iconst 3, 1) := by decide +kernel
theorem dX12_goal_37 : decode cX12_goal 37 = .ok (.iconst 2, 1) := by decide +kernel
theorem dX12_goal_38 : decode cX12_goal 38 = .ok (.iload_n 3, 1) := by decide +kernel
theorem dX12_goal_39 : decode cX12_goal 39 = .ok (.imul, 1) := by decide +kernel
theorem dX12_goal_40 : decode cX12_goal 40 = .ok (.ishl, 1) := by decide +kernel
theorem dX12_goal_41 : decode cX12_goal 41 = .ok (.ior, 1) := by decide +kernel
theorem dX12_goal_42 : decode cX12_goal 42 = .ok (.putfield 280, 3) := by decide +kernel
theorem dX12_goal_45 : decode cX12_goal 45 = .ok (.aload_n 0, 1) := by decide +kernel
theorem dX12_goal_46 : decode cX12_goal 46 = .ok (.dup, 1) := by decide +kernel
theorem dX12_goal_47 : decode cX12_goal 47 = .ok (.getfield 283, 3) := by decide +kernel
theorem dX12_goal_50 : decode cX12_goal 50 = .ok (.iload_n 2, 1) := by decide +kernel
theorem dX12_goal_51 : decode cX12_goal 51 = .ok (.iconst 2, 1) := by decide +kernel
theorem dX12_goal_52 : decode cX12_goal 52 = .ok (.iload_n 3, 1) := by decide +kernel
theorem dX12_goal_53 : decode cX12_goal 53 = .ok (.imul, 1) := by decide +kernel
theorem dX12_goal_54 : decode cX12_goal 54 = .ok (.ishl, 1) := by decide +kernel
theorem dX12_goal_55 : decode cX12_goal 55 = .ok (.ior, 1) := by decide +kernel
theorem dX12_goal_56 : decode cX12_goal 56 = .ok (.putfield 283, 3) := by decide +kernel
theorem dX12_goal_59 : decode cX12_goal 59 = .ok (.iinc 3 1, 3) := by decide +kernel
theorem dX12_goal_62 : decode cX12_goal 62 = .ok (.goto (-50), 3) := by decide +kernel
theorem dX12_goal_65 : decode cX12_goal 65 = .ok (.return_, 1) := by decide +kernel
theorem dX12_isRest_0 : decode cX12_isRest 0 = .ok (.iconst 0, 1) := by decide +kernel
theorem dX12_isRest_1 : decode cX12_isRest 1 = .ok (.istore_n 2, 1) := by decide +kernel
theorem dX12_isRest_2 : decode cX12_isRest 2 = .ok (.iload_n 2, 1) := by decide +kernel
theorem dX12_isRest_3 : decode cX12_isRest 3 = .ok (.aload_n 0, 1) := by decide +kernel
theorem dX12_isRest_4 : decode cX12_isRest 4 = .ok (.getfield 118, 3) := by decide +kernel
theorem dX12_isRest_7 : decode cX12_isRest 7 = .ok (.if_icmp .ge 57, 3) := by decide +kernel
theorem dX12_isRest_10 : decode cX12_isRest 10 = .ok (.iconst 0, 1) := by decide +kernel
theorem dX12_isRest_11 : decode cX12_isRest 11 = .ok (.istore_n 3, 1) := by decide +kernel
theorem dX12_isRest_12 : decode cX12_isRest 12 = .ok (.iload_n 3, 1) := by decide +kernel
theorem dX12_isRest_13 : decode cX12_isRest 13 = .ok (.aload_n 0, 1) := by decide +kernel
theorem dX12_isRest_14 : decode cX12_isRest 14 = .ok (.getfield 121, 3) := by decide +kernel
theorem dX12_isRest_17 : decode cX12_isRest 17 = .ok (.if_icmp .ge 41, 3) := by decide +kernel
theorem dX12_isRest_20 : decode cX12_isRest 20 = .ok (.iconst 0, 1) := by decide +kernel
theorem dX12_isRest_21 : decode cX12_isRest 21 = .ok (.istore 4, 2) := by decide +kernel
theorem dX12_isRest_23 : decode cX12_isRest 23 = .ok (.iload 4, 2) := by decide +kernel
theorem dX12_isRest_25 : decode cX12_isRest 25 = .ok (.aload_n 0, 1) := by decide +kernel
theorem dX12_isRest_26 : decode cX12_isRest 26 = .ok (.getfield 121, 3) := by decide +kernel
theorem dX12_isRest_29 : decode cX12_isRest 29 = .ok (.if_icmp .ge 23, 3) := by decide +kernel
theorem dX12_isRest_32 : decode cX12_isRest 32 = .ok (.aload_n 0, 1) := by decide +kernel
theorem dX12_isRest_33 : decode cX12_isRest 33 = .ok (.iload_n 1, 1) := by decide +kernel
theorem dX12_isRest_34 : decode cX12_isRest 34 = .ok (.iload_n 2, 1) := by decide +kernel
theorem dX12_isRest_35 : decode cX12_isRest 35 = .ok (.iload_n 3, 1) := by decide +kernel
theorem dX12_isRest_36 : decode cX12_isRest 36 = .ok (.iload 4, 2) := by decide +kernel
theorem dX12_isRest_38 : decode cX12_isRest 38 = .ok (.invokevirtual 261, 3) := by decide +kernel
theorem dX12_isRest_41 : decode cX12_isRest 41 = .ok (.ifCond .eq 5, 3) := by decide +kernel
theorem dX12_isRest_44 : decode cX12_isRest 44 = .ok (.iconst 0, 1) := by decide +kernel
theorem dX12_isRest_45 : decode cX12_isRest 45 = .ok (.ireturn, 1) := by decide +kernel
theorem dX12_isRest_46 : decode cX12_isRest 46 = .ok (.iinc 4 1, 3) := by decide +kernel
theorem dX12_isRest_49 : decode cX12_isRest 49 = .ok (.goto (-26), 3) := by decide +kernel
theorem dX12_isRest_52 : decode cX12_isRest 52 = .ok (.iinc 3 1, 3) := by decide +kernel
theorem dX12_isRest_55 : decode cX12_isRest 55 = .ok (.goto (-43), 3) := by decide +kernel
theorem dX12_isRest_58 : decode cX12_isRest 58 = .ok (.iinc 2 1, 3) := by decide +kernel
theorem dX12_isRest_61 : decode cX12_isRest 61 = .ok (.goto (-59), 3) := by decide +kernel
theorem dX12_isRest_64 : decode cX12_isRest 64 = .ok (.iconst 1, 1) := by decide +kernel
theorem dX12_isRest_65 : decode cX12_isRest 65 = .ok (.ireturn, 1) := by decide +kernel
theorem dX12_longest_0 : decode cX12_longest 0 = .ok (.iconst 0, 1) := by decide +kernel
theorem dX12_longest_1 : decode cX12_longest 1 = .ok (.istore_n 1, 1) := by decide +kernel
theorem dX12_longest_2 : decode cX12_longest 2 = .ok (.iload_n 1, 1) := by decide +kernel
theorem dX12_longest_3 : decode cX12_longest 3 = .ok (.sipush 16384, 3) := by decide +kernel
theorem dX12_longest_6 : decode cX12_longest 6 = .ok (.if_icmp .ge 16, 3) := by decide +kernel
theorem dX12_longest_9 : decode cX12_longest 9 = .ok (.aload_n 0, 1) := by decide +kernel
theorem dX12_longest_10 : decode cX12_longest 10 = .ok (.getfield 86, 3) := by decide +kernel
theorem dX12_longest_13 : decode cX12_longest 13 = .ok (.iload_n 1, 1) := by decide +kernel
theorem dX12_longest_14 : decode cX12_longest 14 = .ok (.iconst 0, 1) := by decide +kernel
theorem dX12_longest_15 : decode cX12_longest 15 = .ok (.bastore, 1) := by decide +kernel
theorem dX12_longest_16 : decode cX12_longest 16 = .ok (.iinc 1 1, 3) := by decide +kernel
theorem dX12_longest_19 : decode cX12_longest 19 = .ok (.goto (-17), 3) := by decide +kernel
theorem dX12_longest_22 : decode cX12_longest 22 = .ok (.iconst 0, 1) := by decide +kernel
theorem dX12_longest_23 : decode cX12_longest 23 = .ok (.istore_n 1, 1) := by decide +kernel
theorem dX12_longest_24 : decode cX12_longest 24 = .ok (.iload_n 1, 1) := by decide +kernel
theorem dX12_longest_25 : decode cX12_longest 25 = .ok (.aload_n 0, 1) := by decide +kernel
theorem dX12_longest_26 : decode cX12_longest 26 = .ok (.getfield 274, 3) := by decide +kernel
theorem dX12_longest_29 : decode cX12_longest 29 = .ok (.if_icmp .ge 106, 3) := by decide +kernel
theorem dX12_longest_32 : decode cX12_longest 32 = .ok (.aload_n 0, 1) := by decide +kernel
theorem dX12_longest_33 : decode cX12_longest 33 = .ok (.getfield 83, 3) := by decide +kernel
theorem dX12_longest_36 : decode cX12_longest 36 = .ok (.iload_n 1, 1) := by decide +kernel
theorem dX12_longest_37 : decode cX12_longest 37 = .ok (.saload, 1) := by decide +kernel
theorem dX12_longest_38 : decode cX12_longest 38 = .ok (.istore_n 2, 1) := by decide +kernel
theorem dX12_longest_39 : decode cX12_longest 39 = .ok (.aload_n 0, 1) := by decide +kernel
theorem dX12_longest_40 : decode cX12_longest 40 = .ok (.getfield 80, 3) := by decide +kernel
theorem dX12_longest_43 : decode cX12_longest 43 = .ok (.iload_n 2, 1) := by decide +kernel
theorem dX12_longest_44 : decode cX12_longest 44 = .ok (.iconst 0, 1) := by decide +kernel
theorem dX12_longest_45 : decode cX12_longest 45 = .ok (.sastore, 1) := by decide +kernel
theorem dX12_longest_46 : decode cX12_longest 46 = .ok (.iconst 0, 1) := by decide +kernel
theorem dX12_longest_47 : decode cX12_longest 47 = .ok (.istore_n 3, 1) := by decide +kernel
theorem dX12_longest_48 : decode cX12_longest 48 = .ok (.iload_n 3, 1) := by decide +kernel
theorem dX12_longest_49 : decode cX12_longest 49 = .ok (.aload_n 0, 1) := by decide +kernel
theorem dX12_longest_50 : decode cX12_longest 50 = .ok (.getfield 118, 3) := by decide +kernel
theorem dX12_longest_53 : decode cX12_longest 53 = .ok (.if_icmp .ge 76, 3) := by decide +kernel
theorem dX12_longest_56 : decode cX12_longest 56 = .ok (.iconst 0, 1) := by decide +kernel
theorem dX12_longest_57 : decode cX12_longest 57 = .ok (.istore 4, 2) := by decide +kernel
theorem dX12_longest_59 : decode cX12_longest 59 = .ok (.iload 4, 2) := by decide +kernel
theorem dX12_longest_61 : decode cX12_longest 61 = .ok (.aload_n 0, 1) := by decide +kernel
theorem dX12_longest_62 : decode cX12_longest 62 = .ok (.getfield 121, 3) := by decide +kernel
theorem dX12_longest_65 : decode cX12_longest 65 = .ok (.if_icmp .ge 58, 3) := by decide +kernel
theorem dX12_longest_68 : decode cX12_longest 68 = .ok (.iconst 0, 1) := by decide +kernel
theorem dX12_longest_69 : decode cX12_longest 69 = .ok (.istore 5, 2) := by decide +kernel
theorem dX12_longest_71 : decode cX12_longest 71 = .ok (.iload 5, 2) := by decide +kernel
theorem dX12_longest_73 : decode cX12_longest 73 = .ok (.aload_n 0, 1) := by decide +kernel
theorem dX12_longest_74 : decode cX12_longest 74 = .ok (.getfield 121, 3) := by decide +kernel
theorem dX12_longest_77 : decode cX12_longest 77 = .ok (.if_icmp .ge 40, 3) := by decide +kernel
theorem dX12_longest_80 : decode cX12_longest 80 = .ok (.aload_n 0, 1) := by decide +kernel
theorem dX12_longest_81 : decode cX12_longest 81 = .ok (.iload_n 2, 1) := by decide +kernel
theorem dX12_longest_82 : decode cX12_longest 82 = .ok (.iload_n 3, 1) := by decide +kernel
theorem dX12_longest_83 : decode cX12_longest 83 = .ok (.iload 4, 2) := by decide +kernel
theorem dX12_longest_85 : decode cX12_longest 85 = .ok (.iload 5, 2) := by decide +kernel
theorem dX12_longest_87 : decode cX12_longest 87 = .ok (.invokevirtual 261, 3) := by decide +kernel
theorem dX12_longest_90 : decode cX12_longest 90 = .ok (.ifCond .eq 21, 3) := by decide +kernel
theorem dX12_longest_93 : decode cX12_longest 93 = .ok (.aload_n 0, 1) := by decide +kernel
theorem dX12_longest_94 : decode cX12_longest 94 = .ok (.getfield 86, 3) := by decide +kernel
theorem dX12_longest_97 : decode cX12_longest 97 = .ok (.iload_n 2, 1) := by decide +kernel
theorem dX12_longest_98 : decode cX12_longest 98 = .ok (.iload 4, 2) := by decide +kernel
theorem dX12_longest_100 : decode cX12_longest 100 = .ok (.iload 5, 2) := by decide +kernel
theorem dX12_longest_102 : decode cX12_longest 102 = .ok (.invokestatic 265, 3) := by decide +kernel
theorem dX12_longest_105 : decode cX12_longest 105 = .ok (.dup2, 1) := by decide +kernel
theorem dX12_longest_106 : decode cX12_longest 106 = .ok (.baload, 1) := by decide +kernel
theorem dX12_longest_107 : decode cX12_longest 107 = .ok (.iconst 1, 1) := by decide +kernel
theorem dX12_longest_108 : decode cX12_longest 108 = .ok (.iadd, 1) := by decide +kernel
theorem dX12_longest_109 : decode cX12_longest 109 = .ok (.i2b, 1) := by decide +kernel
theorem dX12_longest_110 : decode cX12_longest 110 = .ok (.bastore, 1) := by decide +kernel
theorem dX12_longest_111 : decode cX12_longest 111 = .ok (.iinc 5 1, 3) := by decide +kernel
theorem dX12_longest_114 : decode cX12_longest 114 = .ok (.goto (-43), 3) := by decide +kernel
theorem dX12_longest_117 : decode cX12_longest 117 = .ok (.iinc 4 1, 3) := by decide +kernel
theorem dX12_longest_120 : decode cX12_longest 120 = .ok (.goto (-61), 3) := by decide +kernel
theorem dX12_longest_123 : decode cX12_longest 123 = .ok (.iinc 3 1, 3) := by decide +kernel
theorem dX12_longest_126 : decode cX12_longest 126 = .ok (.goto (-78), 3) := by decide +kernel
theorem dX12_longest_129 : decode cX12_longest 129 = .ok (.iinc 1 1, 3) := by decide +kernel
theorem dX12_longest_132 : decode cX12_longest 132 = .ok (.goto (-108), 3) := by decide +kernel
theorem dX12_longest_135 : decode cX12_longest 135 = .ok (.aload_n 0, 1) := by decide +kernel
theorem dX12_longest_136 : decode cX12_longest 136 = .ok (.getfield 274, 3) := by decide +kernel
theorem dX12_longest_139 : decode cX12_longest 139 = .ok (.istore_n 1, 1) := by decide +kernel
theorem dX12_longest_140 : decode cX12_longest 140 = .ok (.iconst 0, 1) := by decide +kernel
theorem dX12_longest_141 : decode cX12_longest 141 = .ok (.istore_n 2, 1) := by decide +kernel
theorem dX12_longest_142 : decode cX12_longest 142 = .ok (.aload_n 0, 1) := by decide +kernel
theorem dX12_longest_143 : decode cX12_longest 143 = .ok (.iconst 0, 1) := by decide +kernel
theorem dX12_longest_144 : decode cX12_longest 144 = .ok (.putfield 274, 3) := by decide +kernel
theorem dX12_longest_147 : decode cX12_longest 147 = .ok (.aload_n 0, 1) := by decide +kernel
theorem dX12_longest_148 : decode cX12_longest 148 = .ok (.getfield 86, 3) := by decide +kernel
theorem dX12_longest_151 : decode cX12_longest 151 = .ok (.aload_n 0, 1) := by decide +kernel
theorem dX12_longest_152 : decode cX12_longest 152 = .ok (.getfield 128, 3) := by decide +kernel
theorem dX12_longest_155 : decode cX12_longest 155 = .ok (.baload, 1) := by decide +kernel
theorem dX12_longest_156 : decode cX12_longest 156 = .ok (.ifCond .ne 19, 3) := by decide +kernel
theorem dX12_longest_159 : decode cX12_longest 159 = .ok (.aload_n 0, 1) := by decide +kernel
theorem dX12_longest_160 : decode cX12_longest 160 = .ok (.getfield 83, 3) := by decide +kernel
theorem dX12_longest_163 : decode cX12_longest 163 = .ok (.iconst 0, 1) := by decide +kernel
theorem dX12_longest_164 : decode cX12_longest 164 = .ok (.aload_n 0, 1) := by decide +kernel
theorem dX12_longest_165 : decode cX12_longest 165 = .ok (.getfield 128, 3) := by decide +kernel
theorem dX12_longest_168 : decode cX12_longest 168 = .ok (.i2s, 1) := by decide +kernel
theorem dX12_longest_169 : decode cX12_longest 169 = .ok (.sastore, 1) := by decide +kernel
theorem dX12_longest_170 : decode cX12_longest 170 = .ok (.aload_n 0, 1) := by decide +kernel
theorem dX12_longest_171 : decode cX12_longest 171 = .ok (.iconst 1, 1) := by decide +kernel
theorem dX12_longest_172 : decode cX12_longest 172 = .ok (.putfield 274, 3) := by decide +kernel
theorem dX12_longest_175 : decode cX12_longest 175 = .ok (.iconst 0, 1) := by decide +kernel
theorem dX12_longest_176 : decode cX12_longest 176 = .ok (.istore_n 3, 1) := by decide +kernel
theorem dX12_longest_177 : decode cX12_longest 177 = .ok (.iload_n 3, 1) := by decide +kernel
theorem dX12_longest_178 : decode cX12_longest 178 = .ok (.aload_n 0, 1) := by decide +kernel
theorem dX12_longest_179 : decode cX12_longest 179 = .ok (.getfield 274, 3) := by decide +kernel
theorem dX12_longest_182 : decode cX12_longest 182 = .ok (.if_icmp .ge 120, 3) := by decide +kernel
theorem dX12_longest_185 : decode cX12_longest 185 = .ok (.aload_n 0, 1) := by decide +kernel
theorem dX12_longest_186 : decode cX12_longest 186 = .ok (.getfield 83, 3) := by decide +kernel
theorem dX12_longest_189 : decode cX12_longest 189 = .ok (.iload_n 3, 1) := by decide +kernel
theorem dX12_longest_190 : decode cX12_longest 190 = .ok (.saload, 1) := by decide +kernel
theorem dX12_longest_191 : decode cX12_longest 191 = .ok (.istore 4, 2) := by decide +kernel
theorem dX12_longest_193 : decode cX12_longest 193 = .ok (.aload_n 0, 1) := by decide +kernel
theorem dX12_longest_194 : decode cX12_longest 194 = .ok (.getfield 80, 3) := by decide +kernel
theorem dX12_longest_197 : decode cX12_longest 197 = .ok (.iload 4, 2) := by decide +kernel
theorem dX12_longest_199 : decode cX12_longest 199 = .ok (.saload, 1) := by decide +kernel
theorem dX12_longest_200 : decode cX12_longest 200 = .ok (.iload_n 2, 1) := by decide +kernel
theorem dX12_longest_201 : decode cX12_longest 201 = .ok (.if_icmp .le 11, 3) := by decide +kernel
theorem dX12_longest_204 : decode cX12_longest 204 = .ok (.aload_n 0, 1) := by decide +kernel
theorem dX12_longest_205 : decode cX12_longest 205 = .ok (.getfield 80, 3) := by decide +kernel
theorem dX12_longest_208 : decode cX12_longest 208 = .ok (.iload 4, 2) := by decide +kernel
theorem dX12_longest_210 : decode cX12_longest 210 = .ok (.saload, 1) := by decide +kernel
theorem dX12_longest_211 : decode cX12_longest 211 = .ok (.istore_n 2, 1) := by decide +kernel
theorem dX12_longest_212 : decode cX12_longest 212 = .ok (.iconst 0, 1) := by decide +kernel
theorem dX12_longest_213 : decode cX12_longest 213 = .ok (.istore 5, 2) := by decide +kernel
theorem dX12_longest_215 : decode cX12_longest 215 = .ok (.iload 5, 2) := by decide +kernel
theorem dX12_longest_217 : decode cX12_longest 217 = .ok (.aload_n 0, 1) := by decide +kernel
theorem dX12_longest_218 : decode cX12_longest 218 = .ok (.getfield 118, 3) := by decide +kernel
theorem dX12_longest_221 : decode cX12_longest 221 = .ok (.if_icmp .ge 75, 3) := by decide +kernel
theorem dX12_longest_224 : decode cX12_longest 224 = .ok (.iconst 0, 1) := by decide +kernel
theorem dX12_longest_225 : decode cX12_longest 225 = .ok (.istore 6, 2) := by decide +kernel
theorem dX12_longest_227 : decode cX12_longest 227 = .ok (.iload 6, 2) := by decide +kernel
theorem dX12_longest_229 : decode cX12_longest 229 = .ok (.aload_n 0, 1) := by decide +kernel
theorem dX12_longest_230 : decode cX12_longest 230 = .ok (.getfield 121, 3) := by decide +kernel
theorem dX12_longest_233 : decode cX12_longest 233 = .ok (.if_icmp .ge 57, 3) := by decide +kernel
theorem dX12_longest_236 : decode cX12_longest 236 = .ok (.iconst 0, 1) := by decide +kernel
theorem dX12_longest_237 : decode cX12_longest 237 = .ok (.istore 7, 2) := by decide +kernel
theorem dX12_longest_239 : decode cX12_longest 239 = .ok (.iload 7, 2) := by decide +kernel
theorem dX12_longest_241 : decode cX12_longest 241 = .ok (.aload_n 0, 1) := by decide +kernel
theorem dX12_longest_242 : decode cX12_longest 242 = .ok (.getfield 121, 3) := by decide +kernel
theorem dX12_longest_245 : decode cX12_longest 245 = .ok (.if_icmp .ge 39, 3) := by decide +kernel
theorem dX12_longest_248 : decode cX12_longest 248 = .ok (.aload_n 0, 1) := by decide +kernel
theorem dX12_longest_249 : decode cX12_longest 249 = .ok (.iload 4, 2) := by decide +kernel
theorem dX12_longest_251 : decode cX12_longest 251 = .ok (.iload 5, 2) := by decide +kernel
theorem dX12_longest_253 : decode cX12_longest 253 = .ok (.iload 6, 2) := by decide +kernel
theorem dX12_longest_255 : decode cX12_longest 255 = .ok (.iload 7, 2) := by decide +kernel
theorem dX12_longest_257 : decode cX12_longest 257 = .ok (.invokevirtual 261, 3) := by decide +kernel
theorem dX12_longest_260 : decode cX12_longest 260 = .ok (.ifCond .eq 18, 3) := by decide +kernel
theorem dX12_longest_263 : decode cX12_longest 263 = .ok (.aload_n 0, 1) := by decide +kernel
theorem dX12_longest_264 : decode cX12_longest 264 = .ok (.iload 4, 2) := by decide +kernel
theorem dX12_longest_266 : decode cX12_longest 266 = .ok (.iload 4, 2) := by decide +kernel
theorem dX12_longest_268 : decode cX12_longest 268 = .ok (.iload 6, 2) := by decide +kernel
theorem dX12_longest_270 : decode cX12_longest 270 = .ok (.iload 7, 2) := by decide +kernel
theorem dX12_longest_272 : decode cX12_longest 272 = .ok (.invokestatic 265, 3) := by decide +kernel
theorem dX12_longest_275 : decode cX12_longest 275 = .ok (.invokevirtual 289, 3) := by decide +kernel
theorem dX12_longest_278 : decode cX12_longest 278 = .ok (.iinc 7 1, 3) := by decide +kernel
theorem dX12_longest_281 : decode cX12_longest 281 = .ok (.goto (-42), 3) := by decide +kernel
theorem dX12_longest_284 : decode cX12_longest 284 = .ok (.iinc 6 1, 3) := by decide +kernel
theorem dX12_longest_287 : decode cX12_longest 287 = .ok (.goto (-60), 3) := by decide +kernel
theorem dX12_longest_290 : decode cX12_longest 290 = .ok (.iinc 5 1, 3) := by decide +kernel
theorem dX12_longest_293 : decode cX12_longest 293 = .ok (.goto (-78), 3) := by decide +kernel
theorem dX12_longest_296 : decode cX12_longest 296 = .ok (.iinc 3 1, 3) := by decide +kernel
theorem dX12_longest_299 : decode cX12_longest 299 = .ok (.goto (-122), 3) := by decide +kernel
theorem dX12_longest_302 : decode cX12_longest 302 = .ok (.aload_n 0, 1) := by decide +kernel
theorem dX12_longest_303 : decode cX12_longest 303 = .ok (.getfield 274, 3) := by decide +kernel
theorem dX12_longest_306 : decode cX12_longest 306 = .ok (.iload_n 1, 1) := by decide +kernel
theorem dX12_longest_307 : decode cX12_longest 307 = .ok (.if_icmp .ge 8, 3) := by decide +kernel
theorem dX12_longest_310 : decode cX12_longest 310 = .ok (.bipush (-2), 2) := by decide +kernel
theorem dX12_longest_312 : decode cX12_longest 312 = .ok (.goto 4, 3) := by decide +kernel
theorem dX12_longest_315 : decode cX12_longest 315 = .ok (.iload_n 2, 1) := by decide +kernel
theorem dX12_longest_316 : decode cX12_longest 316 = .ok (.ireturn, 1) := by decide +kernel
theorem dX12_leads_0 : decode cX12_leads 0 = .ok (.aload_n 0, 1) := by decide +kernel
theorem dX12_leads_1 : decode cX12_leads 1 = .ok (.getfield 80, 3) := by decide +kernel
theorem dX12_leads_4 : decode cX12_leads 4 = .ok (.iload_n 1, 1) := by decide +kernel
theorem dX12_leads_5 : decode cX12_leads 5 = .ok (.saload, 1) := by decide +kernel
theorem dX12_leads_6 : decode cX12_leads 6 = .ok (.iconst 1, 1) := by decide +kernel
theorem dX12_leads_7 : decode cX12_leads 7 = .ok (.iadd, 1) := by decide +kernel
theorem dX12_leads_8 : decode cX12_leads 8 = .ok (.aload_n 0, 1) := by decide +kernel
theorem dX12_leads_9 : decode cX12_leads 9 = .ok (.getfield 80, 3) := by decide +kernel
theorem dX12_leads_12 : decode cX12_leads 12 = .ok (.iload_n 2, 1) := by decide +kernel
theorem dX12_leads_13 : decode cX12_leads 13 = .ok (.saload, 1) := by decide +kernel
theorem dX12_leads_14 : decode cX12_leads 14 = .ok (.if_icmp .le 18, 3) := by decide +kernel
theorem dX12_leads_17 : decode cX12_leads 17 = .ok (.aload_n 0, 1) := by decide +kernel
theorem dX12_leads_18 : decode cX12_leads 18 = .ok (.getfield 80, 3) := by decide +kernel
theorem dX12_leads_21 : decode cX12_leads 21 = .ok (.iload_n 2, 1) := by decide +kernel
theorem dX12_leads_22 : decode cX12_leads 22 = .ok (.aload_n 0, 1) := by decide +kernel
theorem dX12_leads_23 : decode cX12_leads 23 = .ok (.getfield 80, 3) := by decide +kernel
theorem dX12_leads_26 : decode cX12_leads 26 = .ok (.iload_n 1, 1) := by decide +kernel
theorem dX12_leads_27 : decode cX12_leads 27 = .ok (.saload, 1) := by decide +kernel
theorem dX12_leads_28 : decode cX12_leads 28 = .ok (.iconst 1, 1) := by decide +kernel
theorem dX12_leads_29 : decode cX12_leads 29 = .ok (.iadd, 1) := by decide +kernel
theorem dX12_leads_30 : decode cX12_leads 30 = .ok (.i2s, 1) := by decide +kernel
theorem dX12_leads_31 : decode cX12_leads 31 = .ok (.sastore, 1) := by decide +kernel
theorem dX12_leads_32 : decode cX12_leads 32 = .ok (.aload_n 0, 1) := by decide +kernel
theorem dX12_leads_33 : decode cX12_leads 33 = .ok (.getfield 86, 3) := by decide +kernel
theorem dX12_leads_36 : decode cX12_leads 36 = .ok (.iload_n 2, 1) := by decide +kernel
theorem dX12_leads_37 : decode cX12_leads 37 = .ok (.dup2, 1) := by decide +kernel
theorem dX12_leads_38 : decode cX12_leads 38 = .ok (.baload, 1) := by decide +kernel
theorem dX12_leads_39 : decode cX12_leads 39 = .ok (.iconst 1, 1) := by decide +kernel
theorem dX12_leads_40 : decode cX12_leads 40 = .ok (.isub, 1) := by decide +kernel
theorem dX12_leads_41 : decode cX12_leads 41 = .ok (.i2b, 1) := by decide +kernel
theorem dX12_leads_42 : decode cX12_leads 42 = .ok (.bastore, 1) := by decide +kernel
theorem dX12_leads_43 : decode cX12_leads 43 = .ok (.aload_n 0, 1) := by decide +kernel
theorem dX12_leads_44 : decode cX12_leads 44 = .ok (.getfield 86, 3) := by decide +kernel
theorem dX12_leads_47 : decode cX12_leads 47 = .ok (.iload_n 2, 1) := by decide +kernel
theorem dX12_leads_48 : decode cX12_leads 48 = .ok (.baload, 1) := by decide +kernel
theorem dX12_leads_49 : decode cX12_leads 49 = .ok (.ifCond .le 4, 3) := by decide +kernel
theorem dX12_leads_52 : decode cX12_leads 52 = .ok (.return_, 1) := by decide +kernel
theorem dX12_leads_53 : decode cX12_leads 53 = .ok (.aload_n 0, 1) := by decide +kernel
theorem dX12_leads_54 : decode cX12_leads 54 = .ok (.getfield 83, 3) := by decide +kernel
theorem dX12_leads_57 : decode cX12_leads 57 = .ok (.aload_n 0, 1) := by decide +kernel
theorem dX12_leads_58 : decode cX12_leads 58 = .ok (.getfield 274, 3) := by decide +kernel
theorem dX12_leads_61 : decode cX12_leads 61 = .ok (.iload_n 2, 1) := by decide +kernel
theorem dX12_leads_62 : decode cX12_leads 62 = .ok (.i2s, 1) := by decide +kernel
theorem dX12_leads_63 : decode cX12_leads 63 = .ok (.sastore, 1) := by decide +kernel
theorem dX12_leads_64 : decode cX12_leads 64 = .ok (.aload_n 0, 1) := by decide +kernel
theorem dX12_leads_65 : decode cX12_leads 65 = .ok (.dup, 1) := by decide +kernel
theorem dX12_leads_66 : decode cX12_leads 66 = .ok (.getfield 274, 3) := by decide +kernel
theorem dX12_leads_69 : decode cX12_leads 69 = .ok (.iconst 1, 1) := by decide +kernel
theorem dX12_leads_70 : decode cX12_leads 70 = .ok (.iadd, 1) := by decide +kernel
theorem dX12_leads_71 : decode cX12_leads 71 = .ok (.putfield 274, 3) := by decide +kernel
theorem dX12_leads_74 : decode cX12_leads 74 = .ok (.return_, 1) := by decide +kernel
theorem dX12_reach_0 : decode cX12_reach 0 = .ok (.iload_n 1, 1) := by decide +kernel
theorem dX12_reach_1 : decode cX12_reach 1 = .ok (.iconst 0, 1) := by decide +kernel
theorem dX12_reach_2 : decode cX12_reach 2 = .ok (.iconst 2, 1) := by decide +kernel
theorem dX12_reach_3 : decode cX12_reach 3 = .ok (.invokestatic 114, 3) := by decide +kernel
theorem dX12_reach_6 : decode cX12_reach 6 = .ok (.ifCond .ne 5, 3) := by decide +kernel
theorem dX12_reach_9 : decode cX12_reach 9 = .ok (.iconst (-1), 1) := by decide +kernel
theorem dX12_reach_10 : decode cX12_reach 10 = .ok (.ireturn, 1) := by decide +kernel
theorem dX12_reach_11 : decode cX12_reach 11 = .ok (.aload_n 0, 1) := by decide +kernel
theorem dX12_reach_12 : decode cX12_reach 12 = .ok (.invokevirtual 258, 3) := by decide +kernel
theorem dX12_reach_15 : decode cX12_reach 15 = .ok (.aload_n 0, 1) := by decide +kernel
theorem dX12_reach_16 : decode cX12_reach 16 = .ok (.invokevirtual 292, 3) := by decide +kernel
theorem dX12_reach_19 : decode cX12_reach 19 = .ok (.aload_n 0, 1) := by decide +kernel
theorem dX12_reach_20 : decode cX12_reach 20 = .ok (.aload_n 0, 1) := by decide +kernel
theorem dX12_reach_21 : decode cX12_reach 21 = .ok (.getfield 128, 3) := by decide +kernel
theorem dX12_reach_24 : decode cX12_reach 24 = .ok (.iconst (-1), 1) := by decide +kernel
theorem dX12_reach_25 : decode cX12_reach 25 = .ok (.invokevirtual 295, 3) := by decide +kernel
theorem dX12_reach_28 : decode cX12_reach 28 = .ok (.iload_n 1, 1) := by decide +kernel
theorem dX12_reach_29 : decode cX12_reach 29 = .ok (.ifCond .ne 8, 3) := by decide +kernel
theorem dX12_reach_32 : decode cX12_reach 32 = .ok (.aload_n 0, 1) := by decide +kernel
theorem dX12_reach_33 : decode cX12_reach 33 = .ok (.getfield 274, 3) := by decide +kernel
theorem dX12_reach_36 : decode cX12_reach 36 = .ok (.ireturn, 1) := by decide +kernel
theorem dX12_reach_37 : decode cX12_reach 37 = .ok (.iload_n 1, 1) := by decide +kernel
theorem dX12_reach_38 : decode cX12_reach 38 = .ok (.iconst 2, 1) := by decide +kernel
theorem dX12_reach_39 : decode cX12_reach 39 = .ok (.if_icmp .ne 8, 3) := by decide +kernel
theorem dX12_reach_42 : decode cX12_reach 42 = .ok (.aload_n 0, 1) := by decide +kernel
theorem dX12_reach_43 : decode cX12_reach 43 = .ok (.invokevirtual 298, 3) := by decide +kernel
theorem dX12_reach_46 : decode cX12_reach 46 = .ok (.ireturn, 1) := by decide +kernel
theorem dX12_reach_47 : decode cX12_reach 47 = .ok (.iconst 0, 1) := by decide +kernel
theorem dX12_reach_48 : decode cX12_reach 48 = .ok (.istore_n 2, 1) := by decide +kernel
theorem dX12_reach_49 : decode cX12_reach 49 = .ok (.iconst 0, 1) := by decide +kernel
theorem dX12_reach_50 : decode cX12_reach 50 = .ok (.istore_n 3, 1) := by decide +kernel
theorem dX12_reach_51 : decode cX12_reach 51 = .ok (.iload_n 3, 1) := by decide +kernel
theorem dX12_reach_52 : decode cX12_reach 52 = .ok (.aload_n 0, 1) := by decide +kernel
theorem dX12_reach_53 : decode cX12_reach 53 = .ok (.getfield 274, 3) := by decide +kernel
theorem dX12_reach_56 : decode cX12_reach 56 = .ok (.if_icmp .ge 25, 3) := by decide +kernel
theorem dX12_reach_59 : decode cX12_reach 59 = .ok (.aload_n 0, 1) := by decide +kernel
theorem dX12_reach_60 : decode cX12_reach 60 = .ok (.aload_n 0, 1) := by decide +kernel
theorem dX12_reach_61 : decode cX12_reach 61 = .ok (.getfield 83, 3) := by decide +kernel
theorem dX12_reach_64 : decode cX12_reach 64 = .ok (.iload_n 3, 1) := by decide +kernel
theorem dX12_reach_65 : decode cX12_reach 65 = .ok (.saload, 1) := by decide +kernel
theorem dX12_reach_66 : decode cX12_reach 66 = .ok (.invokevirtual 301, 3) := by decide +kernel
theorem dX12_reach_69 : decode cX12_reach 69 = .ok (.ifCond .eq 6, 3) := by decide +kernel
theorem dX12_reach_72 : decode cX12_reach 72 = .ok (.iinc 2 1, 3) := by decide +kernel
theorem dX12_reach_75 : decode cX12_reach 75 = .ok (.iinc 3 1, 3) := by decide +kernel
theorem dX12_reach_78 : decode cX12_reach 78 = .ok (.goto (-27), 3) := by decide +kernel
theorem dX12_reach_81 : decode cX12_reach 81 = .ok (.iload_n 2, 1) := by decide +kernel
theorem dX12_reach_82 : decode cX12_reach 82 = .ok (.ireturn, 1) := by decide +kernel
theorem dX12_canBe_0 : decode cX12_canBe 0 = .ok (.aload_n 0, 1) := by decide +kernel
theorem dX12_canBe_1 : decode cX12_canBe 1 = .ok (.iload_n 1, 1) := by decide +kernel
theorem dX12_canBe_2 : decode cX12_canBe 2 = .ok (.invokevirtual 155, 3) := by decide +kernel
theorem dX12_canBe_5 : decode cX12_canBe 5 = .ok (.ifCond .ne 5, 3) := by decide +kernel
theorem dX12_canBe_8 : decode cX12_canBe 8 = .ok (.iconst (-1), 1) := by decide +kernel
theorem dX12_canBe_9 : decode cX12_canBe 9 = .ok (.ireturn, 1) := by decide +kernel
theorem dX12_canBe_10 : decode cX12_canBe 10 = .ok (.aload_n 0, 1) := by decide +kernel
theorem dX12_canBe_11 : decode cX12_canBe 11 = .ok (.invokevirtual 258, 3) := by decide +kernel
theorem dX12_canBe_14 : decode cX12_canBe 14 = .ok (.aload_n 0, 1) := by decide +kernel
theorem dX12_canBe_15 : decode cX12_canBe 15 = .ok (.invokevirtual 292, 3) := by decide +kernel
theorem dX12_canBe_18 : decode cX12_canBe 18 = .ok (.aload_n 0, 1) := by decide +kernel
theorem dX12_canBe_19 : decode cX12_canBe 19 = .ok (.aload_n 0, 1) := by decide +kernel
theorem dX12_canBe_20 : decode cX12_canBe 20 = .ok (.getfield 128, 3) := by decide +kernel
theorem dX12_canBe_23 : decode cX12_canBe 23 = .ok (.iconst (-1), 1) := by decide +kernel
theorem dX12_canBe_24 : decode cX12_canBe 24 = .ok (.invokevirtual 295, 3) := by decide +kernel
theorem dX12_canBe_27 : decode cX12_canBe 27 = .ok (.iconst 0, 1) := by decide +kernel
theorem dX12_canBe_28 : decode cX12_canBe 28 = .ok (.istore_n 2, 1) := by decide +kernel
theorem dX12_canBe_29 : decode cX12_canBe 29 = .ok (.iconst 0, 1) := by decide +kernel
theorem dX12_canBe_30 : decode cX12_canBe 30 = .ok (.istore_n 3, 1) := by decide +kernel
theorem dX12_canBe_31 : decode cX12_canBe 31 = .ok (.iload_n 3, 1) := by decide +kernel
theorem dX12_canBe_32 : decode cX12_canBe 32 = .ok (.aload_n 0, 1) := by decide +kernel
theorem dX12_canBe_33 : decode cX12_canBe 33 = .ok (.getfield 274, 3) := by decide +kernel
theorem dX12_canBe_36 : decode cX12_canBe 36 = .ok (.if_icmp .ge 24, 3) := by decide +kernel
theorem dX12_canBe_39 : decode cX12_canBe 39 = .ok (.iload_n 2, 1) := by decide +kernel
theorem dX12_canBe_40 : decode cX12_canBe 40 = .ok (.iconst 1, 1) := by decide +kernel
theorem dX12_canBe_41 : decode cX12_canBe 41 = .ok (.aload_n 0, 1) := by decide +kernel
theorem dX12_canBe_42 : decode cX12_canBe 42 = .ok (.getfield 83, 3) := by decide +kernel
theorem dX12_canBe_45 : decode cX12_canBe 45 = .ok (.iload_n 3, 1) := by decide +kernel
theorem dX12_canBe_46 : decode cX12_canBe 46 = .ok (.saload, 1) := by decide +kernel
theorem dX12_canBe_47 : decode cX12_canBe 47 = .ok (.iload_n 1, 1) := by decide +kernel
theorem dX12_canBe_48 : decode cX12_canBe 48 = .ok (.invokestatic 165, 3) := by decide +kernel
theorem dX12_canBe_51 : decode cX12_canBe 51 = .ok (.ishl, 1) := by decide +kernel
theorem dX12_canBe_52 : decode cX12_canBe 52 = .ok (.ior, 1) := by decide +kernel
theorem dX12_canBe_53 : decode cX12_canBe 53 = .ok (.istore_n 2, 1) := by decide +kernel
theorem dX12_canBe_54 : decode cX12_canBe 54 = .ok (.iinc 3 1, 3) := by decide +kernel
theorem dX12_canBe_57 : decode cX12_canBe 57 = .ok (.goto (-26), 3) := by decide +kernel
theorem dX12_canBe_60 : decode cX12_canBe 60 = .ok (.iload_n 2, 1) := by decide +kernel
theorem dX12_canBe_61 : decode cX12_canBe 61 = .ok (.ireturn, 1) := by decide +kernel
theorem dX12_isGoal_0 : decode cX12_isGoal 0 = .ok (.iload_n 1, 1) := by decide +kernel
theorem dX12_isGoal_1 : decode cX12_isGoal 1 = .ok (.ifCond .le 24, 3) := by decide +kernel
theorem dX12_isGoal_4 : decode cX12_isGoal 4 = .ok (.iload_n 1, 1) := by decide +kernel
theorem dX12_isGoal_5 : decode cX12_isGoal 5 = .ok (.aload_n 0, 1) := by decide +kernel
theorem dX12_isGoal_6 : decode cX12_isGoal 6 = .ok (.getfield 121, 3) := by decide +kernel
theorem dX12_isGoal_9 : decode cX12_isGoal 9 = .ok (.ishr, 1) := by decide +kernel
theorem dX12_isGoal_10 : decode cX12_isGoal 10 = .ok (.ifCond .ne 15, 3) := by decide +kernel
theorem dX12_isGoal_13 : decode cX12_isGoal 13 = .ok (.aload_n 0, 1) := by decide +kernel
theorem dX12_isGoal_14 : decode cX12_isGoal 14 = .ok (.iload_n 2, 1) := by decide +kernel
theorem dX12_isGoal_15 : decode cX12_isGoal 15 = .ok (.invokevirtual 124, 3) := by decide +kernel
theorem dX12_isGoal_18 : decode cX12_isGoal 18 = .ok (.ifCond .eq 7, 3) := by decide +kernel
theorem dX12_isGoal_21 : decode cX12_isGoal 21 = .ok (.iconst 1, 1) := by decide +kernel
theorem dX12_isGoal_22 : decode cX12_isGoal 22 = .ok (.goto 4, 3) := by decide +kernel
theorem dX12_isGoal_25 : decode cX12_isGoal 25 = .ok (.iconst 0, 1) := by decide +kernel
theorem dX12_isGoal_26 : decode cX12_isGoal 26 = .ok (.ireturn, 1) := by decide +kernel
theorem dX12_fewest_0 : decode cX12_fewest 0 = .ok (.aload_n 0, 1) := by decide +kernel
theorem dX12_fewest_1 : decode cX12_fewest 1 = .ok (.iload_n 1, 1) := by decide +kernel
theorem dX12_fewest_2 : decode cX12_fewest 2 = .ok (.iload_n 2, 1) := by decide +kernel
theorem dX12_fewest_3 : decode cX12_fewest 3 = .ok (.invokevirtual 304, 3) := by decide +kernel
theorem dX12_fewest_6 : decode cX12_fewest 6 = .ok (.ifCond .eq 16, 3) := by decide +kernel
theorem dX12_fewest_9 : decode cX12_fewest 9 = .ok (.iload_n 3, 1) := by decide +kernel
theorem dX12_fewest_10 : decode cX12_fewest 10 = .ok (.iconst (-1), 1) := by decide +kernel
theorem dX12_fewest_11 : decode cX12_fewest 11 = .ok (.if_icmp .eq 13, 3) := by decide +kernel
theorem dX12_fewest_14 : decode cX12_fewest 14 = .ok (.aload_n 0, 1) := by decide +kernel
theorem dX12_fewest_15 : decode cX12_fewest 15 = .ok (.iload_n 3, 1) := by decide +kernel
theorem dX12_fewest_16 : decode cX12_fewest 16 = .ok (.invokevirtual 155, 3) := by decide +kernel
theorem dX12_fewest_19 : decode cX12_fewest 19 = .ok (.ifCond .ne 5, 3) := by decide +kernel
theorem dX12_fewest_22 : decode cX12_fewest 22 = .ok (.iconst (-1), 1) := by decide +kernel
theorem dX12_fewest_23 : decode cX12_fewest 23 = .ok (.ireturn, 1) := by decide +kernel
theorem dX12_fewest_24 : decode cX12_fewest 24 = .ok (.aload_n 0, 1) := by decide +kernel
theorem dX12_fewest_25 : decode cX12_fewest 25 = .ok (.invokevirtual 258, 3) := by decide +kernel
theorem dX12_fewest_28 : decode cX12_fewest 28 = .ok (.aload_n 0, 1) := by decide +kernel
theorem dX12_fewest_29 : decode cX12_fewest 29 = .ok (.iload_n 1, 1) := by decide +kernel
theorem dX12_fewest_30 : decode cX12_fewest 30 = .ok (.iload_n 2, 1) := by decide +kernel
theorem dX12_fewest_31 : decode cX12_fewest 31 = .ok (.invokevirtual 308, 3) := by decide +kernel
theorem dX12_fewest_34 : decode cX12_fewest 34 = .ok (.aload_n 0, 1) := by decide +kernel
theorem dX12_fewest_35 : decode cX12_fewest 35 = .ok (.aload_n 0, 1) := by decide +kernel
theorem dX12_fewest_36 : decode cX12_fewest 36 = .ok (.getfield 128, 3) := by decide +kernel
theorem dX12_fewest_39 : decode cX12_fewest 39 = .ok (.iload_n 3, 1) := by decide +kernel
theorem dX12_fewest_40 : decode cX12_fewest 40 = .ok (.invokevirtual 295, 3) := by decide +kernel
theorem dX12_fewest_43 : decode cX12_fewest 43 = .ok (.aload_n 0, 1) := by decide +kernel
theorem dX12_fewest_44 : decode cX12_fewest 44 = .ok (.getfield 277, 3) := by decide +kernel
theorem dX12_fewest_47 : decode cX12_fewest 47 = .ok (.ifCond .ge 8, 3) := by decide +kernel
theorem dX12_fewest_50 : decode cX12_fewest 50 = .ok (.bipush (-2), 2) := by decide +kernel
theorem dX12_fewest_52 : decode cX12_fewest 52 = .ok (.goto 7, 3) := by decide +kernel
theorem dX12_fewest_55 : decode cX12_fewest 55 = .ok (.aload_n 0, 1) := by decide +kernel
theorem dX12_fewest_56 : decode cX12_fewest 56 = .ok (.getfield 277, 3) := by decide +kernel
theorem dX12_fewest_59 : decode cX12_fewest 59 = .ok (.ireturn, 1) := by decide +kernel
theorem dX12_first_0 : decode cX12_first 0 = .ok (.aload_n 0, 1) := by decide +kernel
theorem dX12_first_1 : decode cX12_first 1 = .ok (.iload_n 1, 1) := by decide +kernel
theorem dX12_first_2 : decode cX12_first 2 = .ok (.iload_n 2, 1) := by decide +kernel
theorem dX12_first_3 : decode cX12_first 3 = .ok (.invokevirtual 304, 3) := by decide +kernel
theorem dX12_first_6 : decode cX12_first 6 = .ok (.ifCond .ne 5, 3) := by decide +kernel
theorem dX12_first_9 : decode cX12_first 9 = .ok (.iconst (-1), 1) := by decide +kernel
theorem dX12_first_10 : decode cX12_first 10 = .ok (.ireturn, 1) := by decide +kernel
theorem dX12_first_11 : decode cX12_first 11 = .ok (.aload_n 0, 1) := by decide +kernel
theorem dX12_first_12 : decode cX12_first 12 = .ok (.invokevirtual 258, 3) := by decide +kernel
theorem dX12_first_15 : decode cX12_first 15 = .ok (.aload_n 0, 1) := by decide +kernel
theorem dX12_first_16 : decode cX12_first 16 = .ok (.iload_n 1, 1) := by decide +kernel
theorem dX12_first_17 : decode cX12_first 17 = .ok (.iload_n 2, 1) := by decide +kernel
theorem dX12_first_18 : decode cX12_first 18 = .ok (.invokevirtual 308, 3) := by decide +kernel
theorem dX12_first_21 : decode cX12_first 21 = .ok (.aload_n 0, 1) := by decide +kernel
theorem dX12_first_22 : decode cX12_first 22 = .ok (.aload_n 0, 1) := by decide +kernel
theorem dX12_first_23 : decode cX12_first 23 = .ok (.getfield 128, 3) := by decide +kernel
theorem dX12_first_26 : decode cX12_first 26 = .ok (.iconst (-1), 1) := by decide +kernel
theorem dX12_first_27 : decode cX12_first 27 = .ok (.invokevirtual 295, 3) := by decide +kernel
theorem dX12_first_30 : decode cX12_first 30 = .ok (.aload_n 0, 1) := by decide +kernel
theorem dX12_first_31 : decode cX12_first 31 = .ok (.getfield 277, 3) := by decide +kernel
theorem dX12_first_34 : decode cX12_first 34 = .ok (.istore_n 3, 1) := by decide +kernel
theorem dX12_first_35 : decode cX12_first 35 = .ok (.iload_n 3, 1) := by decide +kernel
theorem dX12_first_36 : decode cX12_first 36 = .ok (.ifCond .ne 6, 3) := by decide +kernel
theorem dX12_first_39 : decode cX12_first 39 = .ok (.bipush (-5), 2) := by decide +kernel
theorem dX12_first_41 : decode cX12_first 41 = .ok (.ireturn, 1) := by decide +kernel
theorem dX12_first_42 : decode cX12_first 42 = .ok (.iload_n 3, 1) := by decide +kernel
theorem dX12_first_43 : decode cX12_first 43 = .ok (.ifCond .ge 6, 3) := by decide +kernel
theorem dX12_first_46 : decode cX12_first 46 = .ok (.bipush (-2), 2) := by decide +kernel
theorem dX12_first_48 : decode cX12_first 48 = .ok (.ireturn, 1) := by decide +kernel
theorem dX12_first_49 : decode cX12_first 49 = .ok (.iconst 0, 1) := by decide +kernel
theorem dX12_first_50 : decode cX12_first 50 = .ok (.istore 4, 2) := by decide +kernel
theorem dX12_first_52 : decode cX12_first 52 = .ok (.iload 4, 2) := by decide +kernel
theorem dX12_first_54 : decode cX12_first 54 = .ok (.aload_n 0, 1) := by decide +kernel
theorem dX12_first_55 : decode cX12_first 55 = .ok (.getfield 118, 3) := by decide +kernel
theorem dX12_first_58 : decode cX12_first 58 = .ok (.if_icmp .ge 106, 3) := by decide +kernel
theorem dX12_first_61 : decode cX12_first 61 = .ok (.iconst 0, 1) := by decide +kernel
theorem dX12_first_62 : decode cX12_first 62 = .ok (.istore 5, 2) := by decide +kernel
theorem dX12_first_64 : decode cX12_first 64 = .ok (.iload 5, 2) := by decide +kernel
theorem dX12_first_66 : decode cX12_first 66 = .ok (.aload_n 0, 1) := by decide +kernel
theorem dX12_first_67 : decode cX12_first 67 = .ok (.getfield 121, 3) := by decide +kernel
theorem dX12_first_70 : decode cX12_first 70 = .ok (.if_icmp .ge 88, 3) := by decide +kernel
theorem dX12_first_73 : decode cX12_first 73 = .ok (.iconst 0, 1) := by decide +kernel
theorem dX12_first_74 : decode cX12_first 74 = .ok (.istore 6, 2) := by decide +kernel
theorem dX12_first_76 : decode cX12_first 76 = .ok (.iload 6, 2) := by decide +kernel
theorem dX12_first_78 : decode cX12_first 78 = .ok (.aload_n 0, 1) := by decide +kernel
theorem dX12_first_79 : decode cX12_first 79 = .ok (.getfield 121, 3) := by decide +kernel
theorem dX12_first_82 : decode cX12_first 82 = .ok (.if_icmp .ge 70, 3) := by decide +kernel
theorem dX12_first_85 : decode cX12_first 85 = .ok (.aload_n 0, 1) := by decide +kernel
theorem dX12_first_86 : decode cX12_first 86 = .ok (.aload_n 0, 1) := by decide +kernel
theorem dX12_first_87 : decode cX12_first 87 = .ok (.getfield 128, 3) := by decide +kernel
theorem dX12_first_90 : decode cX12_first 90 = .ok (.iload 4, 2) := by decide +kernel
theorem dX12_first_92 : decode cX12_first 92 = .ok (.iload 5, 2) := by decide +kernel
theorem dX12_first_94 : decode cX12_first 94 = .ok (.iload 6, 2) := by decide +kernel
theorem dX12_first_96 : decode cX12_first 96 = .ok (.invokevirtual 261, 3) := by decide +kernel
theorem dX12_first_99 : decode cX12_first 99 = .ok (.ifCond .ne 6, 3) := by decide +kernel
theorem dX12_first_102 : decode cX12_first 102 = .ok (.goto 44, 3) := by decide +kernel
theorem dX12_first_105 : decode cX12_first 105 = .ok (.aload_n 0, 1) := by decide +kernel
theorem dX12_first_106 : decode cX12_first 106 = .ok (.aload_n 0, 1) := by decide +kernel
theorem dX12_first_107 : decode cX12_first 107 = .ok (.getfield 128, 3) := by decide +kernel
theorem dX12_first_110 : decode cX12_first 110 = .ok (.iload 5, 2) := by decide +kernel
theorem dX12_first_112 : decode cX12_first 112 = .ok (.iload 6, 2) := by decide +kernel
theorem dX12_first_114 : decode cX12_first 114 = .ok (.invokestatic 265, 3) := by decide +kernel
theorem dX12_first_117 : decode cX12_first 117 = .ok (.iconst (-1), 1) := by decide +kernel
theorem dX12_first_118 : decode cX12_first 118 = .ok (.invokevirtual 295, 3) := by decide +kernel
theorem dX12_first_121 : decode cX12_first 121 = .ok (.aload_n 0, 1) := by decide +kernel
theorem dX12_first_122 : decode cX12_first 122 = .ok (.getfield 277, 3) := by decide +kernel
theorem dX12_first_125 : decode cX12_first 125 = .ok (.iload_n 3, 1) := by decide +kernel
theorem dX12_first_126 : decode cX12_first 126 = .ok (.iconst 1, 1) := by decide +kernel
theorem dX12_first_127 : decode cX12_first 127 = .ok (.isub, 1) := by decide +kernel
theorem dX12_first_128 : decode cX12_first 128 = .ok (.if_icmp .ne 18, 3) := by decide +kernel
theorem dX12_first_131 : decode cX12_first 131 = .ok (.bipush 100, 2) := by decide +kernel
theorem dX12_first_133 : decode cX12_first 133 = .ok (.iload 4, 2) := by decide +kernel
theorem dX12_first_135 : decode cX12_first 135 = .ok (.imul, 1) := by decide +kernel
theorem dX12_first_136 : decode cX12_first 136 = .ok (.bipush 10, 2) := by decide +kernel
theorem dX12_first_138 : decode cX12_first 138 = .ok (.iload 5, 2) := by decide +kernel
theorem dX12_first_140 : decode cX12_first 140 = .ok (.imul, 1) := by decide +kernel
theorem dX12_first_141 : decode cX12_first 141 = .ok (.iadd, 1) := by decide +kernel
theorem dX12_first_142 : decode cX12_first 142 = .ok (.iload 6, 2) := by decide +kernel
theorem dX12_first_144 : decode cX12_first 144 = .ok (.iadd, 1) := by decide +kernel
theorem dX12_first_145 : decode cX12_first 145 = .ok (.ireturn, 1) := by decide +kernel
theorem dX12_first_146 : decode cX12_first 146 = .ok (.iinc 6 1, 3) := by decide +kernel
theorem dX12_first_149 : decode cX12_first 149 = .ok (.goto (-73), 3) := by decide +kernel
theorem dX12_first_152 : decode cX12_first 152 = .ok (.iinc 5 1, 3) := by decide +kernel
theorem dX12_first_155 : decode cX12_first 155 = .ok (.goto (-91), 3) := by decide +kernel
theorem dX12_first_158 : decode cX12_first 158 = .ok (.iinc 4 1, 3) := by decide +kernel
theorem dX12_first_161 : decode cX12_first 161 = .ok (.goto (-109), 3) := by decide +kernel
theorem dX12_first_164 : decode cX12_first 164 = .ok (.bipush (-2), 2) := by decide +kernel
theorem dX12_first_166 : decode cX12_first 166 = .ok (.ireturn, 1) := by decide +kernel
theorem dX12_turn_0 : decode cX12_turn 0 = .ok (.aload_n 0, 1) := by decide +kernel
theorem dX12_turn_1 : decode cX12_turn 1 = .ok (.iload_n 1, 1) := by decide +kernel
theorem dX12_turn_2 : decode cX12_turn 2 = .ok (.iload_n 2, 1) := by decide +kernel
theorem dX12_turn_3 : decode cX12_turn 3 = .ok (.invokevirtual 304, 3) := by decide +kernel
theorem dX12_turn_6 : decode cX12_turn 6 = .ok (.ifCond .ne 5, 3) := by decide +kernel
theorem dX12_turn_9 : decode cX12_turn 9 = .ok (.iconst (-1), 1) := by decide +kernel
theorem dX12_turn_10 : decode cX12_turn 10 = .ok (.ireturn, 1) := by decide +kernel
theorem dX12_turn_11 : decode cX12_turn 11 = .ok (.aload_n 0, 1) := by decide +kernel
theorem dX12_turn_12 : decode cX12_turn 12 = .ok (.iload_n 1, 1) := by decide +kernel
theorem dX12_turn_13 : decode cX12_turn 13 = .ok (.iload_n 2, 1) := by decide +kernel
theorem dX12_turn_14 : decode cX12_turn 14 = .ok (.invokevirtual 308, 3) := by decide +kernel
theorem dX12_turn_17 : decode cX12_turn 17 = .ok (.iconst 0, 1) := by decide +kernel
theorem dX12_turn_18 : decode cX12_turn 18 = .ok (.istore_n 3, 1) := by decide +kernel
theorem dX12_turn_19 : decode cX12_turn 19 = .ok (.iload_n 3, 1) := by decide +kernel
theorem dX12_turn_20 : decode cX12_turn 20 = .ok (.aload_n 0, 1) := by decide +kernel
theorem dX12_turn_21 : decode cX12_turn 21 = .ok (.getfield 118, 3) := by decide +kernel
theorem dX12_turn_24 : decode cX12_turn 24 = .ok (.if_icmp .gt 71, 3) := by decide +kernel
theorem dX12_turn_27 : decode cX12_turn 27 = .ok (.iconst 0, 1) := by decide +kernel
theorem dX12_turn_28 : decode cX12_turn 28 = .ok (.istore 4, 2) := by decide +kernel
theorem dX12_turn_30 : decode cX12_turn 30 = .ok (.iload 4, 2) := by decide +kernel
theorem dX12_turn_32 : decode cX12_turn 32 = .ok (.iconst 1, 1) := by decide +kernel
theorem dX12_turn_33 : decode cX12_turn 33 = .ok (.aload_n 0, 1) := by decide +kernel
theorem dX12_turn_34 : decode cX12_turn 34 = .ok (.getfield 118, 3) := by decide +kernel
theorem dX12_turn_37 : decode cX12_turn 37 = .ok (.ishl, 1) := by decide +kernel
theorem dX12_turn_38 : decode cX12_turn 38 = .ok (.if_icmp .ge 51, 3) := by decide +kernel
theorem dX12_turn_41 : decode cX12_turn 41 = .ok (.iload 4, 2) := by decide +kernel
theorem dX12_turn_43 : decode cX12_turn 43 = .ok (.invokestatic 311, 3) := by decide +kernel
theorem dX12_turn_46 : decode cX12_turn 46 = .ok (.iload_n 3, 1) := by decide +kernel
theorem dX12_turn_47 : decode cX12_turn 47 = .ok (.if_icmp .eq 6, 3) := by decide +kernel
theorem dX12_turn_50 : decode cX12_turn 50 = .ok (.goto 33, 3) := by decide +kernel
theorem dX12_turn_53 : decode cX12_turn 53 = .ok (.aload_n 0, 1) := by decide +kernel
theorem dX12_turn_54 : decode cX12_turn 54 = .ok (.iload 4, 2) := by decide +kernel
theorem dX12_turn_56 : decode cX12_turn 56 = .ok (.aload_n 0, 1) := by decide +kernel
theorem dX12_turn_57 : decode cX12_turn 57 = .ok (.getfield 25, 3) := by decide +kernel
theorem dX12_turn_60 : decode cX12_turn 60 = .ok (.iconst 0, 1) := by decide +kernel
theorem dX12_turn_61 : decode cX12_turn 61 = .ok (.invokevirtual 252, 3) := by decide +kernel
theorem dX12_turn_64 : decode cX12_turn 64 = .ok (.aload_n 0, 1) := by decide +kernel
theorem dX12_turn_65 : decode cX12_turn 65 = .ok (.aload_n 0, 1) := by decide +kernel
theorem dX12_turn_66 : decode cX12_turn 66 = .ok (.getfield 128, 3) := by decide +kernel
theorem dX12_turn_69 : decode cX12_turn 69 = .ok (.iconst (-1), 1) := by decide +kernel
theorem dX12_turn_70 : decode cX12_turn 70 = .ok (.invokevirtual 295, 3) := by decide +kernel
theorem dX12_turn_73 : decode cX12_turn 73 = .ok (.aload_n 0, 1) := by decide +kernel
theorem dX12_turn_74 : decode cX12_turn 74 = .ok (.getfield 277, 3) := by decide +kernel
theorem dX12_turn_77 : decode cX12_turn 77 = .ok (.ifCond .lt 6, 3) := by decide +kernel
theorem dX12_turn_80 : decode cX12_turn 80 = .ok (.iload 4, 2) := by decide +kernel
theorem dX12_turn_82 : decode cX12_turn 82 = .ok (.ireturn, 1) := by decide +kernel
theorem dX12_turn_83 : decode cX12_turn 83 = .ok (.iinc 4 1, 3) := by decide +kernel
theorem dX12_turn_86 : decode cX12_turn 86 = .ok (.goto (-56), 3) := by decide +kernel
theorem dX12_turn_89 : decode cX12_turn 89 = .ok (.iinc 3 1, 3) := by decide +kernel
theorem dX12_turn_92 : decode cX12_turn 92 = .ok (.goto (-73), 3) := by decide +kernel
theorem dX12_turn_95 : decode cX12_turn 95 = .ok (.bipush (-2), 2) := by decide +kernel
theorem dX12_turn_97 : decode cX12_turn 97 = .ok (.ireturn, 1) := by decide +kernel
theorem dX12_boots_0 : decode cX12_boots 0 = .ok (.aload_n 0, 1) := by decide +kernel
theorem dX12_boots_1 : decode cX12_boots 1 = .ok (.iload_n 1, 1) := by decide +kernel
theorem dX12_boots_2 : decode cX12_boots 2 = .ok (.iload_n 2, 1) := by decide +kernel
theorem dX12_boots_3 : decode cX12_boots 3 = .ok (.invokevirtual 304, 3) := by decide +kernel
theorem dX12_boots_6 : decode cX12_boots 6 = .ok (.ifCond .eq 12, 3) := by decide +kernel
theorem dX12_boots_9 : decode cX12_boots 9 = .ok (.iload_n 3, 1) := by decide +kernel
theorem dX12_boots_10 : decode cX12_boots 10 = .ok (.iconst 0, 1) := by decide +kernel
theorem dX12_boots_11 : decode cX12_boots 11 = .ok (.iconst 1, 1) := by decide +kernel
theorem dX12_boots_12 : decode cX12_boots 12 = .ok (.invokestatic 114, 3) := by decide +kernel
theorem dX12_boots_15 : decode cX12_boots 15 = .ok (.ifCond .ne 6, 3) := by decide +kernel
theorem dX12_boots_18 : decode cX12_boots 18 = .ok (.ldc 164, 2) := by decide +kernel
theorem dX12_boots_20 : decode cX12_boots 20 = .ok (.ireturn, 1) := by decide +kernel
theorem dX12_boots_21 : decode cX12_boots 21 = .ok (.aload_n 0, 1) := by decide +kernel
theorem dX12_boots_22 : decode cX12_boots 22 = .ok (.iload_n 1, 1) := by decide +kernel
theorem dX12_boots_23 : decode cX12_boots 23 = .ok (.iload_n 2, 1) := by decide +kernel
theorem dX12_boots_24 : decode cX12_boots 24 = .ok (.invokevirtual 308, 3) := by decide +kernel
theorem dX12_boots_27 : decode cX12_boots 27 = .ok (.bipush (-2), 2) := by decide +kernel
theorem dX12_boots_29 : decode cX12_boots 29 = .ok (.istore 4, 2) := by decide +kernel
theorem dX12_boots_31 : decode cX12_boots 31 = .ok (.iconst (-1), 1) := by decide +kernel
theorem dX12_boots_32 : decode cX12_boots 32 = .ok (.istore 5, 2) := by decide +kernel
theorem dX12_boots_34 : decode cX12_boots 34 = .ok (.iconst (-1), 1) := by decide +kernel
theorem dX12_boots_35 : decode cX12_boots 35 = .ok (.istore 6, 2) := by decide +kernel
theorem dX12_boots_37 : decode cX12_boots 37 = .ok (.iload 6, 2) := by decide +kernel
theorem dX12_boots_39 : decode cX12_boots 39 = .ok (.aload_n 0, 1) := by decide +kernel
theorem dX12_boots_40 : decode cX12_boots 40 = .ok (.getfield 121, 3) := by decide +kernel
theorem dX12_boots_43 : decode cX12_boots 43 = .ok (.if_icmp .ge 60, 3) := by decide +kernel
theorem dX12_boots_46 : decode cX12_boots 46 = .ok (.aload_n 0, 1) := by decide +kernel
theorem dX12_boots_47 : decode cX12_boots 47 = .ok (.iconst 0, 1) := by decide +kernel
theorem dX12_boots_48 : decode cX12_boots 48 = .ok (.iload 6, 2) := by decide +kernel
theorem dX12_boots_50 : decode cX12_boots 50 = .ok (.iconst 0, 1) := by decide +kernel
theorem dX12_boots_51 : decode cX12_boots 51 = .ok (.invokevirtual 252, 3) := by decide +kernel
theorem dX12_boots_54 : decode cX12_boots 54 = .ok (.aload_n 0, 1) := by decide +kernel
theorem dX12_boots_55 : decode cX12_boots 55 = .ok (.aload_n 0, 1) := by decide +kernel
theorem dX12_boots_56 : decode cX12_boots 56 = .ok (.getfield 128, 3) := by decide +kernel
theorem dX12_boots_59 : decode cX12_boots 59 = .ok (.iconst (-1), 1) := by decide +kernel
theorem dX12_boots_60 : decode cX12_boots 60 = .ok (.invokevirtual 295, 3) := by decide +kernel
theorem dX12_boots_63 : decode cX12_boots 63 = .ok (.aload_n 0, 1) := by decide +kernel
theorem dX12_boots_64 : decode cX12_boots 64 = .ok (.getfield 277, 3) := by decide +kernel
theorem dX12_boots_67 : decode cX12_boots 67 = .ok (.ifCond .lt 30, 3) := by decide +kernel
theorem dX12_boots_70 : decode cX12_boots 70 = .ok (.iload 5, 2) := by decide +kernel
theorem dX12_boots_72 : decode cX12_boots 72 = .ok (.ifCond .lt 15, 3) := by decide +kernel
theorem dX12_boots_75 : decode cX12_boots 75 = .ok (.aload_n 0, 1) := by decide +kernel
theorem dX12_boots_76 : decode cX12_boots 76 = .ok (.getfield 277, 3) := by decide +kernel
theorem dX12_boots_79 : decode cX12_boots 79 = .ok (.iload 5, 2) := by decide +kernel
theorem dX12_boots_81 : decode cX12_boots 81 = .ok (.if_icmp .lt 6, 3) := by decide +kernel
theorem dX12_boots_84 : decode cX12_boots 84 = .ok (.goto 13, 3) := by decide +kernel
theorem dX12_boots_87 : decode cX12_boots 87 = .ok (.iload 6, 2) := by decide +kernel
theorem dX12_boots_89 : decode cX12_boots 89 = .ok (.istore 4, 2) := by decide +kernel
theorem dX12_boots_91 : decode cX12_boots 91 = .ok (.aload_n 0, 1) := by decide +kernel
theorem dX12_boots_92 : decode cX12_boots 92 = .ok (.getfield 277, 3) := by decide +kernel
theorem dX12_boots_95 : decode cX12_boots 95 = .ok (.istore 5, 2) := by decide +kernel
theorem dX12_boots_97 : decode cX12_boots 97 = .ok (.iinc 6 1, 3) := by decide +kernel
theorem dX12_boots_100 : decode cX12_boots 100 = .ok (.goto (-63), 3) := by decide +kernel
theorem dX12_boots_103 : decode cX12_boots 103 = .ok (.iload 5, 2) := by decide +kernel
theorem dX12_boots_105 : decode cX12_boots 105 = .ok (.ifCond .ge 8, 3) := by decide +kernel
theorem dX12_boots_108 : decode cX12_boots 108 = .ok (.bipush (-2), 2) := by decide +kernel
theorem dX12_boots_110 : decode cX12_boots 110 = .ok (.goto 14, 3) := by decide +kernel
theorem dX12_boots_113 : decode cX12_boots 113 = .ok (.iload_n 3, 1) := by decide +kernel
theorem dX12_boots_114 : decode cX12_boots 114 = .ok (.ifCond .ne 8, 3) := by decide +kernel
theorem dX12_boots_117 : decode cX12_boots 117 = .ok (.iload 4, 2) := by decide +kernel
theorem dX12_boots_119 : decode cX12_boots 119 = .ok (.goto 5, 3) := by decide +kernel
theorem dX12_boots_122 : decode cX12_boots 122 = .ok (.iload 5, 2) := by decide +kernel
theorem dX12_boots_124 : decode cX12_boots 124 = .ok (.ireturn, 1) := by decide +kernel
theorem dX12_month_0 : decode cX12_month 0 = .ok (.aload_n 0, 1) := by decide +kernel
theorem dX12_month_1 : decode cX12_month 1 = .ok (.iload_n 1, 1) := by decide +kernel
theorem dX12_month_2 : decode cX12_month 2 = .ok (.iload_n 2, 1) := by decide +kernel
theorem dX12_month_3 : decode cX12_month 3 = .ok (.invokevirtual 304, 3) := by decide +kernel
theorem dX12_month_6 : decode cX12_month 6 = .ok (.ifCond .ne 5, 3) := by decide +kernel
theorem dX12_month_9 : decode cX12_month 9 = .ok (.iconst (-1), 1) := by decide +kernel
theorem dX12_month_10 : decode cX12_month 10 = .ok (.ireturn, 1) := by decide +kernel
theorem dX12_month_11 : decode cX12_month 11 = .ok (.aload_n 0, 1) := by decide +kernel
theorem dX12_month_12 : decode cX12_month 12 = .ok (.iload_n 1, 1) := by decide +kernel
theorem dX12_month_13 : decode cX12_month 13 = .ok (.iload_n 2, 1) := by decide +kernel
theorem dX12_month_14 : decode cX12_month 14 = .ok (.invokevirtual 308, 3) := by decide +kernel
theorem dX12_month_17 : decode cX12_month 17 = .ok (.iconst 0, 1) := by decide +kernel
theorem dX12_month_18 : decode cX12_month 18 = .ok (.istore_n 3, 1) := by decide +kernel
theorem dX12_month_19 : decode cX12_month 19 = .ok (.iload_n 3, 1) := by decide +kernel
theorem dX12_month_20 : decode cX12_month 20 = .ok (.bipush 24, 2) := by decide +kernel
theorem dX12_month_22 : decode cX12_month 22 = .ok (.if_icmp .gt 37, 3) := by decide +kernel
theorem dX12_month_25 : decode cX12_month 25 = .ok (.aload_n 0, 1) := by decide +kernel
theorem dX12_month_26 : decode cX12_month 26 = .ok (.iconst 0, 1) := by decide +kernel
theorem dX12_month_27 : decode cX12_month 27 = .ok (.aload_n 0, 1) := by decide +kernel
theorem dX12_month_28 : decode cX12_month 28 = .ok (.getfield 25, 3) := by decide +kernel
theorem dX12_month_31 : decode cX12_month 31 = .ok (.iload_n 3, 1) := by decide +kernel
theorem dX12_month_32 : decode cX12_month 32 = .ok (.invokevirtual 252, 3) := by decide +kernel
theorem dX12_month_35 : decode cX12_month 35 = .ok (.aload_n 0, 1) := by decide +kernel
theorem dX12_month_36 : decode cX12_month 36 = .ok (.aload_n 0, 1) := by decide +kernel
theorem dX12_month_37 : decode cX12_month 37 = .ok (.getfield 128, 3) := by decide +kernel
theorem dX12_month_40 : decode cX12_month 40 = .ok (.iconst (-1), 1) := by decide +kernel
theorem dX12_month_41 : decode cX12_month 41 = .ok (.invokevirtual 295, 3) := by decide +kernel
theorem dX12_month_44 : decode cX12_month 44 = .ok (.aload_n 0, 1) := by decide +kernel
theorem dX12_month_45 : decode cX12_month 45 = .ok (.getfield 277, 3) := by decide +kernel
theorem dX12_month_48 : decode cX12_month 48 = .ok (.ifCond .lt 5, 3) := by decide +kernel
theorem dX12_month_51 : decode cX12_month 51 = .ok (.iload_n 3, 1) := by decide +kernel
theorem dX12_month_52 : decode cX12_month 52 = .ok (.ireturn, 1) := by decide +kernel
theorem dX12_month_53 : decode cX12_month 53 = .ok (.iinc 3 1, 3) := by decide +kernel
theorem dX12_month_56 : decode cX12_month 56 = .ok (.goto (-37), 3) := by decide +kernel
theorem dX12_month_59 : decode cX12_month 59 = .ok (.bipush (-2), 2) := by decide +kernel
theorem dX12_month_61 : decode cX12_month 61 = .ok (.ireturn, 1) := by decide +kernel
theorem dX12_draw_0 : decode cX12_draw 0 = .ok (.aload_n 0, 1) := by decide +kernel
theorem dX12_draw_1 : decode cX12_draw 1 = .ok (.aload_n 0, 1) := by decide +kernel
theorem dX12_draw_2 : decode cX12_draw 2 = .ok (.getfield 314, 3) := by decide +kernel
theorem dX12_draw_5 : decode cX12_draw 5 = .ok (.ldc_w 317, 3) := by decide +kernel
theorem dX12_draw_8 : decode cX12_draw 8 = .ok (.imul, 1) := by decide +kernel
theorem dX12_draw_9 : decode cX12_draw 9 = .ok (.sipush 12345, 3) := by decide +kernel
theorem dX12_draw_12 : decode cX12_draw 12 = .ok (.iadd, 1) := by decide +kernel
theorem dX12_draw_13 : decode cX12_draw 13 = .ok (.putfield 314, 3) := by decide +kernel
theorem dX12_draw_16 : decode cX12_draw 16 = .ok (.aload_n 0, 1) := by decide +kernel
theorem dX12_draw_17 : decode cX12_draw 17 = .ok (.getfield 314, 3) := by decide +kernel
theorem dX12_draw_20 : decode cX12_draw 20 = .ok (.bipush 8, 2) := by decide +kernel
theorem dX12_draw_22 : decode cX12_draw 22 = .ok (.iushr, 1) := by decide +kernel
theorem dX12_draw_23 : decode cX12_draw 23 = .ok (.iload_n 1, 1) := by decide +kernel
theorem dX12_draw_24 : decode cX12_draw 24 = .ok (.irem, 1) := by decide +kernel
theorem dX12_draw_25 : decode cX12_draw 25 = .ok (.ireturn, 1) := by decide +kernel
theorem dX12_countIn_0 : decode cX12_countIn 0 = .ok (.iconst 0, 1) := by decide +kernel
theorem dX12_countIn_1 : decode cX12_countIn 1 = .ok (.istore_n 3, 1) := by decide +kernel
theorem dX12_countIn_2 : decode cX12_countIn 2 = .ok (.iconst 0, 1) := by decide +kernel
theorem dX12_countIn_3 : decode cX12_countIn 3 = .ok (.istore 4, 2) := by decide +kernel
theorem dX12_countIn_5 : decode cX12_countIn 5 = .ok (.iload 4, 2) := by decide +kernel
theorem dX12_countIn_7 : decode cX12_countIn 7 = .ok (.iload_n 2, 1) := by decide +kernel
theorem dX12_countIn_8 : decode cX12_countIn 8 = .ok (.if_icmp .ge 22, 3) := by decide +kernel
theorem dX12_countIn_11 : decode cX12_countIn 11 = .ok (.iload_n 0, 1) := by decide +kernel
theorem dX12_countIn_12 : decode cX12_countIn 12 = .ok (.iload 4, 2) := by decide +kernel
theorem dX12_countIn_14 : decode cX12_countIn 14 = .ok (.invokestatic 165, 3) := by decide +kernel
theorem dX12_countIn_17 : decode cX12_countIn 17 = .ok (.iload_n 1, 1) := by decide +kernel
theorem dX12_countIn_18 : decode cX12_countIn 18 = .ok (.if_icmp .ne 6, 3) := by decide +kernel
theorem dX12_countIn_21 : decode cX12_countIn 21 = .ok (.iinc 3 1, 3) := by decide +kernel
theorem dX12_countIn_24 : decode cX12_countIn 24 = .ok (.iinc 4 1, 3) := by decide +kernel
theorem dX12_countIn_27 : decode cX12_countIn 27 = .ok (.goto (-22), 3) := by decide +kernel
theorem dX12_countIn_30 : decode cX12_countIn 30 = .ok (.iload_n 3, 1) := by decide +kernel
theorem dX12_countIn_31 : decode cX12_countIn 31 = .ok (.ireturn, 1) := by decide +kernel
theorem dX12_oneIn_0 : decode cX12_oneIn 0 = .ok (.iconst 0, 1) := by decide +kernel
theorem dX12_oneIn_1 : decode cX12_oneIn 1 = .ok (.istore_n 3, 1) := by decide +kernel
theorem dX12_oneIn_2 : decode cX12_oneIn 2 = .ok (.iload_n 2, 1) := by decide +kernel
theorem dX12_oneIn_3 : decode cX12_oneIn 3 = .ok (.istore 4, 2) := by decide +kernel
theorem dX12_oneIn_5 : decode cX12_oneIn 5 = .ok (.iload 4, 2) := by decide +kernel
theorem dX12_oneIn_7 : decode cX12_oneIn 7 = .ok (.ifCond .gt 12, 3) := by decide +kernel
theorem dX12_oneIn_10 : decode cX12_oneIn 10 = .ok (.iload_n 0, 1) := by decide +kernel
theorem dX12_oneIn_11 : decode cX12_oneIn 11 = .ok (.iload_n 3, 1) := by decide +kernel
theorem dX12_oneIn_12 : decode cX12_oneIn 12 = .ok (.invokestatic 165, 3) := by decide +kernel
theorem dX12_oneIn_15 : decode cX12_oneIn 15 = .ok (.iload_n 1, 1) := by decide +kernel
theorem dX12_oneIn_16 : decode cX12_oneIn 16 = .ok (.if_icmp .eq 21, 3) := by decide +kernel
theorem dX12_oneIn_19 : decode cX12_oneIn 19 = .ok (.iload_n 0, 1) := by decide +kernel
theorem dX12_oneIn_20 : decode cX12_oneIn 20 = .ok (.iload_n 3, 1) := by decide +kernel
theorem dX12_oneIn_21 : decode cX12_oneIn 21 = .ok (.invokestatic 165, 3) := by decide +kernel
theorem dX12_oneIn_24 : decode cX12_oneIn 24 = .ok (.iload_n 1, 1) := by decide +kernel
theorem dX12_oneIn_25 : decode cX12_oneIn 25 = .ok (.if_icmp .ne 6, 3) := by decide +kernel
theorem dX12_oneIn_28 : decode cX12_oneIn 28 = .ok (.iinc 4 (-1), 3) := by decide +kernel
theorem dX12_oneIn_31 : decode cX12_oneIn 31 = .ok (.iinc 3 1, 3) := by decide +kernel
theorem dX12_oneIn_34 : decode cX12_oneIn 34 = .ok (.goto (-29), 3) := by decide +kernel
theorem dX12_oneIn_37 : decode cX12_oneIn 37 = .ok (.iload_n 3, 1) := by decide +kernel
theorem dX12_oneIn_38 : decode cX12_oneIn 38 = .ok (.ireturn, 1) := by decide +kernel
theorem dX12_tries_0 : decode cX12_tries 0 = .ok (.iload_n 2, 1) := by decide +kernel
theorem dX12_tries_1 : decode cX12_tries 1 = .ok (.iconst 1, 1) := by decide +kernel
theorem dX12_tries_2 : decode cX12_tries 2 = .ok (.bipush 99, 2) := by decide +kernel
theorem dX12_tries_4 : decode cX12_tries 4 = .ok (.invokestatic 114, 3) := by decide +kernel
theorem dX12_tries_7 : decode cX12_tries 7 = .ok (.ifCond .eq 34, 3) := by decide +kernel
theorem dX12_tries_10 : decode cX12_tries 10 = .ok (.iload_n 3, 1) := by decide +kernel
theorem dX12_tries_11 : decode cX12_tries 11 = .ok (.iconst (-1), 1) := by decide +kernel
theorem dX12_tries_12 : decode cX12_tries 12 = .ok (.if_icmp .eq 11, 3) := by decide +kernel
theorem dX12_tries_15 : decode cX12_tries 15 = .ok (.aload_n 0, 1) := by decide +kernel
theorem dX12_tries_16 : decode cX12_tries 16 = .ok (.iload_n 3, 1) := by decide +kernel
theorem dX12_tries_17 : decode cX12_tries 17 = .ok (.invokevirtual 155, 3) := by decide +kernel
theorem dX12_tries_20 : decode cX12_tries 20 = .ok (.ifCond .eq 21, 3) := by decide +kernel
theorem dX12_tries_23 : decode cX12_tries 23 = .ok (.iload 4, 2) := by decide +kernel
theorem dX12_tries_25 : decode cX12_tries 25 = .ok (.iconst 0, 1) := by decide +kernel
theorem dX12_tries_26 : decode cX12_tries 26 = .ok (.iload_n 3, 1) := by decide +kernel
theorem dX12_tries_27 : decode cX12_tries 27 = .ok (.ifCond .ge 7, 3) := by decide +kernel
theorem dX12_tries_30 : decode cX12_tries 30 = .ok (.iconst 1, 1) := by decide +kernel
theorem dX12_tries_31 : decode cX12_tries 31 = .ok (.goto 4, 3) := by decide +kernel
theorem dX12_tries_34 : decode cX12_tries 34 = .ok (.iconst 0, 1) := by decide +kernel
theorem dX12_tries_35 : decode cX12_tries 35 = .ok (.invokestatic 114, 3) := by decide +kernel
theorem dX12_tries_38 : decode cX12_tries 38 = .ok (.ifCond .ne 5, 3) := by decide +kernel
theorem dX12_tries_41 : decode cX12_tries 41 = .ok (.iconst (-1), 1) := by decide +kernel
theorem dX12_tries_42 : decode cX12_tries 42 = .ok (.ireturn, 1) := by decide +kernel
theorem dX12_tries_43 : decode cX12_tries 43 = .ok (.aload_n 0, 1) := by decide +kernel
theorem dX12_tries_44 : decode cX12_tries 44 = .ok (.getfield 118, 3) := by decide +kernel
theorem dX12_tries_47 : decode cX12_tries 47 = .ok (.ifCond .ne 6, 3) := by decide +kernel
theorem dX12_tries_50 : decode cX12_tries 50 = .ok (.bipush (-5), 2) := by decide +kernel
theorem dX12_tries_52 : decode cX12_tries 52 = .ok (.ireturn, 1) := by decide +kernel
theorem dX12_tries_53 : decode cX12_tries 53 = .ok (.aload_n 0, 1) := by decide +kernel
theorem dX12_tries_54 : decode cX12_tries 54 = .ok (.invokevirtual 258, 3) := by decide +kernel
theorem dX12_tries_57 : decode cX12_tries 57 = .ok (.aload_n 0, 1) := by decide +kernel
theorem dX12_tries_58 : decode cX12_tries 58 = .ok (.iload_n 1, 1) := by decide +kernel
theorem dX12_tries_59 : decode cX12_tries 59 = .ok (.putfield 314, 3) := by decide +kernel
theorem dX12_tries_62 : decode cX12_tries 62 = .ok (.aload_n 0, 1) := by decide +kernel
theorem dX12_tries_63 : decode cX12_tries 63 = .ok (.getfield 128, 3) := by decide +kernel
theorem dX12_tries_66 : decode cX12_tries 66 = .ok (.istore 5, 2) := by decide +kernel
theorem dX12_tries_68 : decode cX12_tries 68 = .ok (.iconst 0, 1) := by decide +kernel
theorem dX12_tries_69 : decode cX12_tries 69 = .ok (.istore 6, 2) := by decide +kernel
theorem dX12_tries_71 : decode cX12_tries 71 = .ok (.aload_n 0, 1) := by decide +kernel
theorem dX12_tries_72 : decode cX12_tries 72 = .ok (.iload 5, 2) := by decide +kernel
theorem dX12_tries_74 : decode cX12_tries 74 = .ok (.invokevirtual 301, 3) := by decide +kernel
theorem dX12_tries_77 : decode cX12_tries 77 = .ok (.ifCond .eq 7, 3) := by decide +kernel
theorem dX12_tries_80 : decode cX12_tries 80 = .ok (.iconst 0, 1) := by decide +kernel
theorem dX12_tries_81 : decode cX12_tries 81 = .ok (.goto 5, 3) := by decide +kernel
theorem dX12_tries_84 : decode cX12_tries 84 = .ok (.bipush (-2), 2) := by decide +kernel
theorem dX12_tries_86 : decode cX12_tries 86 = .ok (.istore 7, 2) := by decide +kernel
theorem dX12_tries_88 : decode cX12_tries 88 = .ok (.iconst 1, 1) := by decide +kernel
theorem dX12_tries_89 : decode cX12_tries 89 = .ok (.istore 8, 2) := by decide +kernel
theorem dX12_tries_91 : decode cX12_tries 91 = .ok (.iload 8, 2) := by decide +kernel
theorem dX12_tries_93 : decode cX12_tries 93 = .ok (.iload_n 2, 1) := by decide +kernel
theorem dX12_tries_94 : decode cX12_tries 94 = .ok (.if_icmp .gt 158, 3) := by decide +kernel
theorem dX12_tries_97 : decode cX12_tries 97 = .ok (.aload_n 0, 1) := by decide +kernel
theorem dX12_tries_98 : decode cX12_tries 98 = .ok (.aload_n 0, 1) := by decide +kernel
theorem dX12_tries_99 : decode cX12_tries 99 = .ok (.getfield 118, 3) := by decide +kernel
theorem dX12_tries_102 : decode cX12_tries 102 = .ok (.invokevirtual 318, 3) := by decide +kernel
theorem dX12_tries_105 : decode cX12_tries 105 = .ok (.istore 9, 2) := by decide +kernel
theorem dX12_tries_107 : decode cX12_tries 107 = .ok (.iload 5, 2) := by decide +kernel
theorem dX12_tries_109 : decode cX12_tries 109 = .ok (.aload_n 0, 1) := by decide +kernel
theorem dX12_tries_110 : decode cX12_tries 110 = .ok (.getfield 74, 3) := by decide +kernel
theorem dX12_tries_113 : decode cX12_tries 113 = .ok (.iload 9, 2) := by decide +kernel
theorem dX12_tries_115 : decode cX12_tries 115 = .ok (.iaload, 1) := by decide +kernel
theorem dX12_tries_116 : decode cX12_tries 116 = .ok (.aload_n 0, 1) := by decide +kernel
theorem dX12_tries_117 : decode cX12_tries 117 = .ok (.getfield 121, 3) := by decide +kernel
theorem dX12_tries_120 : decode cX12_tries 120 = .ok (.invokestatic 321, 3) := by decide +kernel
theorem dX12_tries_123 : decode cX12_tries 123 = .ok (.istore 10, 2) := by decide +kernel
theorem dX12_tries_125 : decode cX12_tries 125 = .ok (.iload 5, 2) := by decide +kernel
theorem dX12_tries_127 : decode cX12_tries 127 = .ok (.aload_n 0, 1) := by decide +kernel
theorem dX12_tries_128 : decode cX12_tries 128 = .ok (.getfield 77, 3) := by decide +kernel
theorem dX12_tries_131 : decode cX12_tries 131 = .ok (.iload 9, 2) := by decide +kernel
theorem dX12_tries_133 : decode cX12_tries 133 = .ok (.iaload, 1) := by decide +kernel
theorem dX12_tries_134 : decode cX12_tries 134 = .ok (.aload_n 0, 1) := by decide +kernel
theorem dX12_tries_135 : decode cX12_tries 135 = .ok (.getfield 121, 3) := by decide +kernel
theorem dX12_tries_138 : decode cX12_tries 138 = .ok (.invokestatic 321, 3) := by decide +kernel
theorem dX12_tries_141 : decode cX12_tries 141 = .ok (.istore 11, 2) := by decide +kernel
theorem dX12_tries_143 : decode cX12_tries 143 = .ok (.iload 10, 2) := by decide +kernel
theorem dX12_tries_145 : decode cX12_tries 145 = .ok (.ifCond .eq 101, 3) := by decide +kernel
theorem dX12_tries_148 : decode cX12_tries 148 = .ok (.iload 11, 2) := by decide +kernel
theorem dX12_tries_150 : decode cX12_tries 150 = .ok (.ifCond .ne 6, 3) := by decide +kernel
theorem dX12_tries_153 : decode cX12_tries 153 = .ok (.goto 93, 3) := by decide +kernel
theorem dX12_tries_156 : decode cX12_tries 156 = .ok (.iload 5, 2) := by decide +kernel
theorem dX12_tries_158 : decode cX12_tries 158 = .ok (.aload_n 0, 1) := by decide +kernel
theorem dX12_tries_159 : decode cX12_tries 159 = .ok (.getfield 74, 3) := by decide +kernel
theorem dX12_tries_162 : decode cX12_tries 162 = .ok (.iload 9, 2) := by decide +kernel
theorem dX12_tries_164 : decode cX12_tries 164 = .ok (.iaload, 1) := by decide +kernel
theorem dX12_tries_165 : decode cX12_tries 165 = .ok (.aload_n 0, 1) := by decide +kernel
theorem dX12_tries_166 : decode cX12_tries 166 = .ok (.iload 10, 2) := by decide +kernel
theorem dX12_tries_168 : decode cX12_tries 168 = .ok (.invokevirtual 318, 3) := by decide +kernel
theorem dX12_tries_171 : decode cX12_tries 171 = .ok (.invokestatic 324, 3) := by decide +kernel
theorem dX12_tries_174 : decode cX12_tries 174 = .ok (.istore 12, 2) := by decide +kernel
theorem dX12_tries_176 : decode cX12_tries 176 = .ok (.iload 5, 2) := by decide +kernel
theorem dX12_tries_178 : decode cX12_tries 178 = .ok (.aload_n 0, 1) := by decide +kernel
theorem dX12_tries_179 : decode cX12_tries 179 = .ok (.getfield 77, 3) := by decide +kernel
theorem dX12_tries_182 : decode cX12_tries 182 = .ok (.iload 9, 2) := by decide +kernel
theorem dX12_tries_184 : decode cX12_tries 184 = .ok (.iaload, 1) := by decide +kernel
theorem dX12_tries_185 : decode cX12_tries 185 = .ok (.aload_n 0, 1) := by decide +kernel
theorem dX12_tries_186 : decode cX12_tries 186 = .ok (.iload 11, 2) := by decide +kernel
theorem dX12_tries_188 : decode cX12_tries 188 = .ok (.invokevirtual 318, 3) := by decide +kernel
theorem dX12_tries_191 : decode cX12_tries 191 = .ok (.invokestatic 324, 3) := by decide +kernel
theorem dX12_tries_194 : decode cX12_tries 194 = .ok (.istore 13, 2) := by decide +kernel
theorem dX12_tries_196 : decode cX12_tries 196 = .ok (.aload_n 0, 1) := by decide +kernel
theorem dX12_tries_197 : decode cX12_tries 197 = .ok (.iload 5, 2) := by decide +kernel
theorem dX12_tries_199 : decode cX12_tries 199 = .ok (.iload 9, 2) := by decide +kernel
theorem dX12_tries_201 : decode cX12_tries 201 = .ok (.iload 12, 2) := by decide +kernel
theorem dX12_tries_203 : decode cX12_tries 203 = .ok (.iload 13, 2) := by decide +kernel
theorem dX12_tries_205 : decode cX12_tries 205 = .ok (.invokevirtual 261, 3) := by decide +kernel
theorem dX12_tries_208 : decode cX12_tries 208 = .ok (.ifCond .ne 6, 3) := by decide +kernel
theorem dX12_tries_211 : decode cX12_tries 211 = .ok (.goto 35, 3) := by decide +kernel
theorem dX12_tries_214 : decode cX12_tries 214 = .ok (.iload 5, 2) := by decide +kernel
theorem dX12_tries_216 : decode cX12_tries 216 = .ok (.iload 12, 2) := by decide +kernel
theorem dX12_tries_218 : decode cX12_tries 218 = .ok (.iload 13, 2) := by decide +kernel
theorem dX12_tries_220 : decode cX12_tries 220 = .ok (.invokestatic 265, 3) := by decide +kernel
theorem dX12_tries_223 : decode cX12_tries 223 = .ok (.istore 5, 2) := by decide +kernel
theorem dX12_tries_225 : decode cX12_tries 225 = .ok (.iinc 6 1, 3) := by decide +kernel
theorem dX12_tries_228 : decode cX12_tries 228 = .ok (.iload 7, 2) := by decide +kernel
theorem dX12_tries_230 : decode cX12_tries 230 = .ok (.ifCond .ge 16, 3) := by decide +kernel
theorem dX12_tries_233 : decode cX12_tries 233 = .ok (.aload_n 0, 1) := by decide +kernel
theorem dX12_tries_234 : decode cX12_tries 234 = .ok (.iload 5, 2) := by decide +kernel
theorem dX12_tries_236 : decode cX12_tries 236 = .ok (.invokevirtual 301, 3) := by decide +kernel
theorem dX12_tries_239 : decode cX12_tries 239 = .ok (.ifCond .eq 7, 3) := by decide +kernel
theorem dX12_tries_242 : decode cX12_tries 242 = .ok (.iload 8, 2) := by decide +kernel
theorem dX12_tries_244 : decode cX12_tries 244 = .ok (.istore 7, 2) := by decide +kernel
theorem dX12_tries_246 : decode cX12_tries 246 = .ok (.iinc 8 1, 3) := by decide +kernel
theorem dX12_tries_249 : decode cX12_tries 249 = .ok (.goto (-158), 3) := by decide +kernel
theorem dX12_tries_252 : decode cX12_tries 252 = .ok (.iload_n 3, 1) := by decide +kernel
theorem dX12_tries_253 : decode cX12_tries 253 = .ok (.ifCond .lt 12, 3) := by decide +kernel
theorem dX12_tries_256 : decode cX12_tries 256 = .ok (.iload 5, 2) := by decide +kernel
theorem dX12_tries_258 : decode cX12_tries 258 = .ok (.iload_n 3, 1) := by decide +kernel
theorem dX12_tries_259 : decode cX12_tries 259 = .ok (.invokestatic 165, 3) := by decide +kernel
theorem dX12_tries_262 : decode cX12_tries 262 = .ok (.goto 15, 3) := by decide +kernel
theorem dX12_tries_265 : decode cX12_tries 265 = .ok (.iload 4, 2) := by decide +kernel
theorem dX12_tries_267 : decode cX12_tries 267 = .ok (.ifCond .ne 8, 3) := by decide +kernel
theorem dX12_tries_270 : decode cX12_tries 270 = .ok (.iload 6, 2) := by decide +kernel
theorem dX12_tries_272 : decode cX12_tries 272 = .ok (.goto 5, 3) := by decide +kernel
theorem dX12_tries_275 : decode cX12_tries 275 = .ok (.iload 7, 2) := by decide +kernel
theorem dX12_tries_277 : decode cX12_tries 277 = .ok (.ireturn, 1) := by decide +kernel
theorem dX12_rowFault_0 : decode cX12_rowFault 0 = .ok (.aload_n 0, 1) := by decide +kernel
theorem dX12_rowFault_1 : decode cX12_rowFault 1 = .ok (.getfield 95, 3) := by decide +kernel
theorem dX12_rowFault_4 : decode cX12_rowFault 4 = .ok (.iload_n 1, 1) := by decide +kernel
theorem dX12_rowFault_5 : decode cX12_rowFault 5 = .ok (.iaload, 1) := by decide +kernel
theorem dX12_rowFault_6 : decode cX12_rowFault 6 = .ok (.iconst (-1), 1) := by decide +kernel
theorem dX12_rowFault_7 : decode cX12_rowFault 7 = .ok (.if_icmp .ne 8, 3) := by decide +kernel
theorem dX12_rowFault_10 : decode cX12_rowFault 10 = .ok (.bipush (-11), 2) := by decide +kernel
theorem dX12_rowFault_12 : decode cX12_rowFault 12 = .ok (.goto 20, 3) := by decide +kernel
theorem dX12_rowFault_15 : decode cX12_rowFault 15 = .ok (.aload_n 0, 1) := by decide +kernel
theorem dX12_rowFault_16 : decode cX12_rowFault 16 = .ok (.getfield 95, 3) := by decide +kernel
theorem dX12_rowFault_19 : decode cX12_rowFault 19 = .ok (.iload_n 1, 1) := by decide +kernel
theorem dX12_rowFault_20 : decode cX12_rowFault 20 = .ok (.iaload, 1) := by decide +kernel
