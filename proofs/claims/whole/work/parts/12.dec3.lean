/-! decode rows, printed by wip/gen/evid.py -/
theorem d_Mo_comes_78 : decode m_Mo_comes.2.1 78 = .ok (.iadd, 1) := by decide +kernel
theorem d_Mo_comes_79 : decode m_Mo_comes.2.1 79 = .ok (.aload_n 0, 1) := by decide +kernel
theorem d_Mo_comes_80 : decode m_Mo_comes.2.1 80 = .ok (.getfield 153, 3) := by decide +kernel
theorem d_Mo_comes_83 : decode m_Mo_comes.2.1 83 = .ok (.iadd, 1) := by decide +kernel
theorem d_Mo_comes_84 : decode m_Mo_comes.2.1 84 = .ok (.aload_n 0, 1) := by decide +kernel
theorem d_Mo_comes_85 : decode m_Mo_comes.2.1 85 = .ok (.getfield 58, 3) := by decide +kernel
theorem d_Mo_comes_88 : decode m_Mo_comes.2.1 88 = .ok (.if_icmp .le 34, 3) := by decide +kernel
theorem d_Mo_comes_91 : decode m_Mo_comes.2.1 91 = .ok (.aload_n 0, 1) := by decide +kernel
theorem d_Mo_comes_92 : decode m_Mo_comes.2.1 92 = .ok (.getfield 85, 3) := by decide +kernel
theorem d_Mo_comes_95 : decode m_Mo_comes.2.1 95 = .ok (.aload_n 0, 1) := by decide +kernel
theorem d_Mo_comes_96 : decode m_Mo_comes.2.1 96 = .ok (.getfield 191, 3) := by decide +kernel
theorem d_Mo_comes_99 : decode m_Mo_comes.2.1 99 = .ok (.aload_n 0, 1) := by decide +kernel
theorem d_Mo_comes_100 : decode m_Mo_comes.2.1 100 = .ok (.aload_n 0, 1) := by decide +kernel
theorem d_Mo_comes_101 : decode m_Mo_comes.2.1 101 = .ok (.getfield 33, 3) := by decide +kernel
theorem d_Mo_comes_104 : decode m_Mo_comes.2.1 104 = .ok (.iload_n 1, 1) := by decide +kernel
theorem d_Mo_comes_105 : decode m_Mo_comes.2.1 105 = .ok (.iaload, 1) := by decide +kernel
theorem d_Mo_comes_106 : decode m_Mo_comes.2.1 106 = .ok (.iload 4, 2) := by decide +kernel
theorem d_Mo_comes_108 : decode m_Mo_comes.2.1 108 = .ok (.invokevirtual 194, 3) := by decide +kernel
theorem d_Mo_comes_111 : decode m_Mo_comes.2.1 111 = .ok (.iastore, 1) := by decide +kernel
theorem d_Mo_comes_112 : decode m_Mo_comes.2.1 112 = .ok (.aload_n 0, 1) := by decide +kernel
theorem d_Mo_comes_113 : decode m_Mo_comes.2.1 113 = .ok (.dup, 1) := by decide +kernel
theorem d_Mo_comes_114 : decode m_Mo_comes.2.1 114 = .ok (.getfield 191, 3) := by decide +kernel
theorem d_Mo_comes_117 : decode m_Mo_comes.2.1 117 = .ok (.iconst 1, 1) := by decide +kernel
theorem d_Mo_comes_118 : decode m_Mo_comes.2.1 118 = .ok (.iadd, 1) := by decide +kernel
theorem d_Mo_comes_119 : decode m_Mo_comes.2.1 119 = .ok (.putfield 191, 3) := by decide +kernel
theorem d_Mo_comes_122 : decode m_Mo_comes.2.1 122 = .ok (.iload 4, 2) := by decide +kernel
theorem d_Mo_comes_124 : decode m_Mo_comes.2.1 124 = .ok (.aload_n 0, 1) := by decide +kernel
theorem d_Mo_comes_125 : decode m_Mo_comes.2.1 125 = .ok (.getfield 16, 3) := by decide +kernel
theorem d_Mo_comes_128 : decode m_Mo_comes.2.1 128 = .ok (.iadd, 1) := by decide +kernel
theorem d_Mo_comes_129 : decode m_Mo_comes.2.1 129 = .ok (.istore 4, 2) := by decide +kernel
theorem d_Mo_comes_131 : decode m_Mo_comes.2.1 131 = .ok (.goto (-65), 3) := by decide +kernel
theorem d_Mo_comes_134 : decode m_Mo_comes.2.1 134 = .ok (.iconst 0, 1) := by decide +kernel
theorem d_Mo_comes_135 : decode m_Mo_comes.2.1 135 = .ok (.istore 4, 2) := by decide +kernel
theorem d_Mo_comes_137 : decode m_Mo_comes.2.1 137 = .ok (.iload 4, 2) := by decide +kernel
theorem d_Mo_comes_139 : decode m_Mo_comes.2.1 139 = .ok (.aload_n 0, 1) := by decide +kernel
theorem d_Mo_comes_140 : decode m_Mo_comes.2.1 140 = .ok (.getfield 191, 3) := by decide +kernel
theorem d_Mo_comes_143 : decode m_Mo_comes.2.1 143 = .ok (.if_icmp .ge 36, 3) := by decide +kernel
theorem d_Mo_comes_146 : decode m_Mo_comes.2.1 146 = .ok (.aload_n 0, 1) := by decide +kernel
theorem d_Mo_comes_147 : decode m_Mo_comes.2.1 147 = .ok (.getfield 82, 3) := by decide +kernel
theorem d_Mo_comes_150 : decode m_Mo_comes.2.1 150 = .ok (.aload_n 0, 1) := by decide +kernel
theorem d_Mo_comes_151 : decode m_Mo_comes.2.1 151 = .ok (.getfield 85, 3) := by decide +kernel
theorem d_Mo_comes_154 : decode m_Mo_comes.2.1 154 = .ok (.iload 4, 2) := by decide +kernel
theorem d_Mo_comes_156 : decode m_Mo_comes.2.1 156 = .ok (.iaload, 1) := by decide +kernel
theorem d_Mo_comes_157 : decode m_Mo_comes.2.1 157 = .ok (.baload, 1) := by decide +kernel
theorem d_Mo_comes_158 : decode m_Mo_comes.2.1 158 = .ok (.ifCond .eq 15, 3) := by decide +kernel
theorem d_Mo_comes_161 : decode m_Mo_comes.2.1 161 = .ok (.aload_n 0, 1) := by decide +kernel
theorem d_Mo_comes_162 : decode m_Mo_comes.2.1 162 = .ok (.aload_n 0, 1) := by decide +kernel
theorem d_Mo_comes_163 : decode m_Mo_comes.2.1 163 = .ok (.getfield 85, 3) := by decide +kernel
theorem d_Mo_comes_166 : decode m_Mo_comes.2.1 166 = .ok (.iload 4, 2) := by decide +kernel
theorem d_Mo_comes_168 : decode m_Mo_comes.2.1 168 = .ok (.iaload, 1) := by decide +kernel
theorem d_Mo_comes_169 : decode m_Mo_comes.2.1 169 = .ok (.iconst 1, 1) := by decide +kernel
theorem d_Mo_comes_170 : decode m_Mo_comes.2.1 170 = .ok (.invokevirtual 180, 3) := by decide +kernel
theorem d_Mo_comes_173 : decode m_Mo_comes.2.1 173 = .ok (.iinc 4 1, 3) := by decide +kernel
theorem d_Mo_comes_176 : decode m_Mo_comes.2.1 176 = .ok (.goto (-39), 3) := by decide +kernel
theorem d_Mo_comes_179 : decode m_Mo_comes.2.1 179 = .ok (.iconst 0, 1) := by decide +kernel
theorem d_Mo_comes_180 : decode m_Mo_comes.2.1 180 = .ok (.istore 4, 2) := by decide +kernel
theorem d_Mo_comes_182 : decode m_Mo_comes.2.1 182 = .ok (.iload 4, 2) := by decide +kernel
theorem d_Mo_comes_184 : decode m_Mo_comes.2.1 184 = .ok (.aload_n 0, 1) := by decide +kernel
theorem d_Mo_comes_185 : decode m_Mo_comes.2.1 185 = .ok (.getfield 191, 3) := by decide +kernel
theorem d_Mo_comes_188 : decode m_Mo_comes.2.1 188 = .ok (.if_icmp .ge 73, 3) := by decide +kernel
theorem d_Mo_comes_191 : decode m_Mo_comes.2.1 191 = .ok (.aload_n 0, 1) := by decide +kernel
theorem d_Mo_comes_192 : decode m_Mo_comes.2.1 192 = .ok (.getfield 76, 3) := by decide +kernel
theorem d_Mo_comes_195 : decode m_Mo_comes.2.1 195 = .ok (.aload_n 0, 1) := by decide +kernel
theorem d_Mo_comes_196 : decode m_Mo_comes.2.1 196 = .ok (.getfield 85, 3) := by decide +kernel
theorem d_Mo_comes_199 : decode m_Mo_comes.2.1 199 = .ok (.iload 4, 2) := by decide +kernel
theorem d_Mo_comes_201 : decode m_Mo_comes.2.1 201 = .ok (.iaload, 1) := by decide +kernel
theorem d_Mo_comes_202 : decode m_Mo_comes.2.1 202 = .ok (.dup2, 1) := by decide +kernel
theorem d_Mo_comes_203 : decode m_Mo_comes.2.1 203 = .ok (.iaload, 1) := by decide +kernel
theorem d_Mo_comes_204 : decode m_Mo_comes.2.1 204 = .ok (.iconst 1, 1) := by decide +kernel
theorem d_Mo_comes_205 : decode m_Mo_comes.2.1 205 = .ok (.iadd, 1) := by decide +kernel
theorem d_Mo_comes_206 : decode m_Mo_comes.2.1 206 = .ok (.iastore, 1) := by decide +kernel
theorem d_Mo_comes_207 : decode m_Mo_comes.2.1 207 = .ok (.aload_n 0, 1) := by decide +kernel
theorem d_Mo_comes_208 : decode m_Mo_comes.2.1 208 = .ok (.getfield 79, 3) := by decide +kernel
theorem d_Mo_comes_211 : decode m_Mo_comes.2.1 211 = .ok (.aload_n 0, 1) := by decide +kernel
theorem d_Mo_comes_212 : decode m_Mo_comes.2.1 212 = .ok (.getfield 85, 3) := by decide +kernel
theorem d_Mo_comes_215 : decode m_Mo_comes.2.1 215 = .ok (.iload 4, 2) := by decide +kernel
theorem d_Mo_comes_217 : decode m_Mo_comes.2.1 217 = .ok (.iaload, 1) := by decide +kernel
theorem d_Mo_comes_218 : decode m_Mo_comes.2.1 218 = .ok (.dup2, 1) := by decide +kernel
theorem d_Mo_comes_219 : decode m_Mo_comes.2.1 219 = .ok (.iaload, 1) := by decide +kernel
theorem d_Mo_comes_220 : decode m_Mo_comes.2.1 220 = .ok (.aload_n 0, 1) := by decide +kernel
theorem d_Mo_comes_221 : decode m_Mo_comes.2.1 221 = .ok (.getfield 36, 3) := by decide +kernel
theorem d_Mo_comes_224 : decode m_Mo_comes.2.1 224 = .ok (.iload_n 1, 1) := by decide +kernel
theorem d_Mo_comes_225 : decode m_Mo_comes.2.1 225 = .ok (.iaload, 1) := by decide +kernel
theorem d_Mo_comes_226 : decode m_Mo_comes.2.1 226 = .ok (.iadd, 1) := by decide +kernel
theorem d_Mo_comes_227 : decode m_Mo_comes.2.1 227 = .ok (.iastore, 1) := by decide +kernel
theorem d_Mo_comes_228 : decode m_Mo_comes.2.1 228 = .ok (.aload_n 0, 1) := by decide +kernel
theorem d_Mo_comes_229 : decode m_Mo_comes.2.1 229 = .ok (.getfield 82, 3) := by decide +kernel
theorem d_Mo_comes_232 : decode m_Mo_comes.2.1 232 = .ok (.aload_n 0, 1) := by decide +kernel
theorem d_Mo_comes_233 : decode m_Mo_comes.2.1 233 = .ok (.getfield 85, 3) := by decide +kernel
theorem d_Mo_comes_236 : decode m_Mo_comes.2.1 236 = .ok (.iload 4, 2) := by decide +kernel
theorem d_Mo_comes_238 : decode m_Mo_comes.2.1 238 = .ok (.iaload, 1) := by decide +kernel
theorem d_Mo_comes_239 : decode m_Mo_comes.2.1 239 = .ok (.baload, 1) := by decide +kernel
theorem d_Mo_comes_240 : decode m_Mo_comes.2.1 240 = .ok (.ifCond .eq 15, 3) := by decide +kernel
theorem d_Mo_comes_243 : decode m_Mo_comes.2.1 243 = .ok (.aload_n 0, 1) := by decide +kernel
theorem d_Mo_comes_244 : decode m_Mo_comes.2.1 244 = .ok (.aload_n 0, 1) := by decide +kernel
theorem d_Mo_comes_245 : decode m_Mo_comes.2.1 245 = .ok (.getfield 85, 3) := by decide +kernel
theorem d_Mo_comes_248 : decode m_Mo_comes.2.1 248 = .ok (.iload 4, 2) := by decide +kernel
theorem d_Mo_comes_250 : decode m_Mo_comes.2.1 250 = .ok (.iaload, 1) := by decide +kernel
theorem d_Mo_comes_251 : decode m_Mo_comes.2.1 251 = .ok (.iconst 0, 1) := by decide +kernel
theorem d_Mo_comes_252 : decode m_Mo_comes.2.1 252 = .ok (.invokevirtual 180, 3) := by decide +kernel
theorem d_Mo_comes_255 : decode m_Mo_comes.2.1 255 = .ok (.iinc 4 1, 3) := by decide +kernel
theorem d_Mo_comes_258 : decode m_Mo_comes.2.1 258 = .ok (.goto (-76), 3) := by decide +kernel
theorem d_Mo_comes_261 : decode m_Mo_comes.2.1 261 = .ok (.aload_n 0, 1) := by decide +kernel
theorem d_Mo_comes_262 : decode m_Mo_comes.2.1 262 = .ok (.getfield 191, 3) := by decide +kernel
theorem d_Mo_comes_265 : decode m_Mo_comes.2.1 265 = .ok (.ireturn, 1) := by decide +kernel
theorem d_Mo_drops_0 : decode m_Mo_drops.2.1 0 = .ok (.aload_n 0, 1) := by decide +kernel
theorem d_Mo_drops_1 : decode m_Mo_drops.2.1 1 = .ok (.dup, 1) := by decide +kernel
theorem d_Mo_drops_2 : decode m_Mo_drops.2.1 2 = .ok (.getfield 184, 3) := by decide +kernel
theorem d_Mo_drops_5 : decode m_Mo_drops.2.1 5 = .ok (.iconst 1, 1) := by decide +kernel
theorem d_Mo_drops_6 : decode m_Mo_drops.2.1 6 = .ok (.isub, 1) := by decide +kernel
theorem d_Mo_drops_7 : decode m_Mo_drops.2.1 7 = .ok (.putfield 184, 3) := by decide +kernel
theorem d_Mo_drops_10 : decode m_Mo_drops.2.1 10 = .ok (.iload_n 1, 1) := by decide +kernel
theorem d_Mo_drops_11 : decode m_Mo_drops.2.1 11 = .ok (.istore_n 2, 1) := by decide +kernel
theorem d_Mo_drops_12 : decode m_Mo_drops.2.1 12 = .ok (.iload_n 2, 1) := by decide +kernel
theorem d_Mo_drops_13 : decode m_Mo_drops.2.1 13 = .ok (.aload_n 0, 1) := by decide +kernel
theorem d_Mo_drops_14 : decode m_Mo_drops.2.1 14 = .ok (.getfield 184, 3) := by decide +kernel
theorem d_Mo_drops_17 : decode m_Mo_drops.2.1 17 = .ok (.if_icmp .ge 93, 3) := by decide +kernel
theorem d_Mo_drops_20 : decode m_Mo_drops.2.1 20 = .ok (.aload_n 0, 1) := by decide +kernel
theorem d_Mo_drops_21 : decode m_Mo_drops.2.1 21 = .ok (.getfield 67, 3) := by decide +kernel
theorem d_Mo_drops_24 : decode m_Mo_drops.2.1 24 = .ok (.iload_n 2, 1) := by decide +kernel
theorem d_Mo_drops_25 : decode m_Mo_drops.2.1 25 = .ok (.aload_n 0, 1) := by decide +kernel
theorem d_Mo_drops_26 : decode m_Mo_drops.2.1 26 = .ok (.getfield 67, 3) := by decide +kernel
theorem d_Mo_drops_29 : decode m_Mo_drops.2.1 29 = .ok (.iload_n 2, 1) := by decide +kernel
theorem d_Mo_drops_30 : decode m_Mo_drops.2.1 30 = .ok (.iconst 1, 1) := by decide +kernel
theorem d_Mo_drops_31 : decode m_Mo_drops.2.1 31 = .ok (.iadd, 1) := by decide +kernel
theorem d_Mo_drops_32 : decode m_Mo_drops.2.1 32 = .ok (.iaload, 1) := by decide +kernel
theorem d_Mo_drops_33 : decode m_Mo_drops.2.1 33 = .ok (.iastore, 1) := by decide +kernel
theorem d_Mo_drops_34 : decode m_Mo_drops.2.1 34 = .ok (.aload_n 0, 1) := by decide +kernel
theorem d_Mo_drops_35 : decode m_Mo_drops.2.1 35 = .ok (.getfield 70, 3) := by decide +kernel
theorem d_Mo_drops_38 : decode m_Mo_drops.2.1 38 = .ok (.iload_n 2, 1) := by decide +kernel
theorem d_Mo_drops_39 : decode m_Mo_drops.2.1 39 = .ok (.aload_n 0, 1) := by decide +kernel
theorem d_Mo_drops_40 : decode m_Mo_drops.2.1 40 = .ok (.getfield 70, 3) := by decide +kernel
theorem d_Mo_drops_43 : decode m_Mo_drops.2.1 43 = .ok (.iload_n 2, 1) := by decide +kernel
theorem d_Mo_drops_44 : decode m_Mo_drops.2.1 44 = .ok (.iconst 1, 1) := by decide +kernel
theorem d_Mo_drops_45 : decode m_Mo_drops.2.1 45 = .ok (.iadd, 1) := by decide +kernel
theorem d_Mo_drops_46 : decode m_Mo_drops.2.1 46 = .ok (.iaload, 1) := by decide +kernel
theorem d_Mo_drops_47 : decode m_Mo_drops.2.1 47 = .ok (.iastore, 1) := by decide +kernel
theorem d_Mo_drops_48 : decode m_Mo_drops.2.1 48 = .ok (.aload_n 0, 1) := by decide +kernel
theorem d_Mo_drops_49 : decode m_Mo_drops.2.1 49 = .ok (.getfield 73, 3) := by decide +kernel
theorem d_Mo_drops_52 : decode m_Mo_drops.2.1 52 = .ok (.iload_n 2, 1) := by decide +kernel
theorem d_Mo_drops_53 : decode m_Mo_drops.2.1 53 = .ok (.aload_n 0, 1) := by decide +kernel
theorem d_Mo_drops_54 : decode m_Mo_drops.2.1 54 = .ok (.getfield 73, 3) := by decide +kernel
theorem d_Mo_drops_57 : decode m_Mo_drops.2.1 57 = .ok (.iload_n 2, 1) := by decide +kernel
theorem d_Mo_drops_58 : decode m_Mo_drops.2.1 58 = .ok (.iconst 1, 1) := by decide +kernel
theorem d_Mo_drops_59 : decode m_Mo_drops.2.1 59 = .ok (.iadd, 1) := by decide +kernel
theorem d_Mo_drops_60 : decode m_Mo_drops.2.1 60 = .ok (.iaload, 1) := by decide +kernel
theorem d_Mo_drops_61 : decode m_Mo_drops.2.1 61 = .ok (.iastore, 1) := by decide +kernel
theorem d_Mo_drops_62 : decode m_Mo_drops.2.1 62 = .ok (.aload_n 0, 1) := by decide +kernel
theorem d_Mo_drops_63 : decode m_Mo_drops.2.1 63 = .ok (.getfield 76, 3) := by decide +kernel
theorem d_Mo_drops_66 : decode m_Mo_drops.2.1 66 = .ok (.iload_n 2, 1) := by decide +kernel
theorem d_Mo_drops_67 : decode m_Mo_drops.2.1 67 = .ok (.aload_n 0, 1) := by decide +kernel
theorem d_Mo_drops_68 : decode m_Mo_drops.2.1 68 = .ok (.getfield 76, 3) := by decide +kernel
theorem d_Mo_drops_71 : decode m_Mo_drops.2.1 71 = .ok (.iload_n 2, 1) := by decide +kernel
theorem d_Mo_drops_72 : decode m_Mo_drops.2.1 72 = .ok (.iconst 1, 1) := by decide +kernel
theorem d_Mo_drops_73 : decode m_Mo_drops.2.1 73 = .ok (.iadd, 1) := by decide +kernel
theorem d_Mo_drops_74 : decode m_Mo_drops.2.1 74 = .ok (.iaload, 1) := by decide +kernel
theorem d_Mo_drops_75 : decode m_Mo_drops.2.1 75 = .ok (.iastore, 1) := by decide +kernel
theorem d_Mo_drops_76 : decode m_Mo_drops.2.1 76 = .ok (.aload_n 0, 1) := by decide +kernel
theorem d_Mo_drops_77 : decode m_Mo_drops.2.1 77 = .ok (.getfield 79, 3) := by decide +kernel
theorem d_Mo_drops_80 : decode m_Mo_drops.2.1 80 = .ok (.iload_n 2, 1) := by decide +kernel
theorem d_Mo_drops_81 : decode m_Mo_drops.2.1 81 = .ok (.aload_n 0, 1) := by decide +kernel
theorem d_Mo_drops_82 : decode m_Mo_drops.2.1 82 = .ok (.getfield 79, 3) := by decide +kernel
theorem d_Mo_drops_85 : decode m_Mo_drops.2.1 85 = .ok (.iload_n 2, 1) := by decide +kernel
theorem d_Mo_drops_86 : decode m_Mo_drops.2.1 86 = .ok (.iconst 1, 1) := by decide +kernel
theorem d_Mo_drops_87 : decode m_Mo_drops.2.1 87 = .ok (.iadd, 1) := by decide +kernel
theorem d_Mo_drops_88 : decode m_Mo_drops.2.1 88 = .ok (.iaload, 1) := by decide +kernel
theorem d_Mo_drops_89 : decode m_Mo_drops.2.1 89 = .ok (.iastore, 1) := by decide +kernel
theorem d_Mo_drops_90 : decode m_Mo_drops.2.1 90 = .ok (.aload_n 0, 1) := by decide +kernel
theorem d_Mo_drops_91 : decode m_Mo_drops.2.1 91 = .ok (.getfield 82, 3) := by decide +kernel
theorem d_Mo_drops_94 : decode m_Mo_drops.2.1 94 = .ok (.iload_n 2, 1) := by decide +kernel
theorem d_Mo_drops_95 : decode m_Mo_drops.2.1 95 = .ok (.aload_n 0, 1) := by decide +kernel
theorem d_Mo_drops_96 : decode m_Mo_drops.2.1 96 = .ok (.getfield 82, 3) := by decide +kernel
theorem d_Mo_drops_99 : decode m_Mo_drops.2.1 99 = .ok (.iload_n 2, 1) := by decide +kernel
theorem d_Mo_drops_100 : decode m_Mo_drops.2.1 100 = .ok (.iconst 1, 1) := by decide +kernel
theorem d_Mo_drops_101 : decode m_Mo_drops.2.1 101 = .ok (.iadd, 1) := by decide +kernel
theorem d_Mo_drops_102 : decode m_Mo_drops.2.1 102 = .ok (.baload, 1) := by decide +kernel
theorem d_Mo_drops_103 : decode m_Mo_drops.2.1 103 = .ok (.bastore, 1) := by decide +kernel
theorem d_Mo_drops_104 : decode m_Mo_drops.2.1 104 = .ok (.iinc 2 1, 3) := by decide +kernel
theorem d_Mo_drops_107 : decode m_Mo_drops.2.1 107 = .ok (.goto (-95), 3) := by decide +kernel
theorem d_Mo_drops_110 : decode m_Mo_drops.2.1 110 = .ok (.return_, 1) := by decide +kernel
theorem d_Mo_touching_0 : decode m_Mo_touching.2.1 0 = .ok (.iconst (-1), 1) := by decide +kernel
theorem d_Mo_touching_1 : decode m_Mo_touching.2.1 1 = .ok (.istore 4, 2) := by decide +kernel
theorem d_Mo_touching_3 : decode m_Mo_touching.2.1 3 = .ok (.iconst 0, 1) := by decide +kernel
theorem d_Mo_touching_4 : decode m_Mo_touching.2.1 4 = .ok (.istore 5, 2) := by decide +kernel
theorem d_Mo_touching_6 : decode m_Mo_touching.2.1 6 = .ok (.iload 5, 2) := by decide +kernel
theorem d_Mo_touching_8 : decode m_Mo_touching.2.1 8 = .ok (.aload_n 0, 1) := by decide +kernel
theorem d_Mo_touching_9 : decode m_Mo_touching.2.1 9 = .ok (.getfield 184, 3) := by decide +kernel
theorem d_Mo_touching_12 : decode m_Mo_touching.2.1 12 = .ok (.if_icmp .ge 86, 3) := by decide +kernel
theorem d_Mo_touching_15 : decode m_Mo_touching.2.1 15 = .ok (.aload_n 0, 1) := by decide +kernel
theorem d_Mo_touching_16 : decode m_Mo_touching.2.1 16 = .ok (.getfield 67, 3) := by decide +kernel
theorem d_Mo_touching_19 : decode m_Mo_touching.2.1 19 = .ok (.iload 5, 2) := by decide +kernel
theorem d_Mo_touching_21 : decode m_Mo_touching.2.1 21 = .ok (.iaload, 1) := by decide +kernel
theorem d_Mo_touching_22 : decode m_Mo_touching.2.1 22 = .ok (.iload_n 1, 1) := by decide +kernel
theorem d_Mo_touching_23 : decode m_Mo_touching.2.1 23 = .ok (.if_icmp .ne 29, 3) := by decide +kernel
theorem d_Mo_touching_26 : decode m_Mo_touching.2.1 26 = .ok (.aload_n 0, 1) := by decide +kernel
theorem d_Mo_touching_27 : decode m_Mo_touching.2.1 27 = .ok (.getfield 70, 3) := by decide +kernel
theorem d_Mo_touching_30 : decode m_Mo_touching.2.1 30 = .ok (.iload 5, 2) := by decide +kernel
theorem d_Mo_touching_32 : decode m_Mo_touching.2.1 32 = .ok (.iaload, 1) := by decide +kernel
theorem d_Mo_touching_33 : decode m_Mo_touching.2.1 33 = .ok (.iload_n 3, 1) := by decide +kernel
theorem d_Mo_touching_34 : decode m_Mo_touching.2.1 34 = .ok (.if_icmp .ge 18, 3) := by decide +kernel
theorem d_Mo_touching_37 : decode m_Mo_touching.2.1 37 = .ok (.iload_n 2, 1) := by decide +kernel
theorem d_Mo_touching_38 : decode m_Mo_touching.2.1 38 = .ok (.aload_n 0, 1) := by decide +kernel
theorem d_Mo_touching_39 : decode m_Mo_touching.2.1 39 = .ok (.getfield 73, 3) := by decide +kernel
theorem d_Mo_touching_42 : decode m_Mo_touching.2.1 42 = .ok (.iload 5, 2) := by decide +kernel
theorem d_Mo_touching_44 : decode m_Mo_touching.2.1 44 = .ok (.iaload, 1) := by decide +kernel
theorem d_Mo_touching_45 : decode m_Mo_touching.2.1 45 = .ok (.if_icmp .ge 7, 3) := by decide +kernel
theorem d_Mo_touching_48 : decode m_Mo_touching.2.1 48 = .ok (.iconst 1, 1) := by decide +kernel
theorem d_Mo_touching_49 : decode m_Mo_touching.2.1 49 = .ok (.goto 4, 3) := by decide +kernel
theorem d_Mo_touching_52 : decode m_Mo_touching.2.1 52 = .ok (.iconst 0, 1) := by decide +kernel
theorem d_Mo_touching_53 : decode m_Mo_touching.2.1 53 = .ok (.istore 6, 2) := by decide +kernel
theorem d_Mo_touching_55 : decode m_Mo_touching.2.1 55 = .ok (.iload 6, 2) := by decide +kernel
theorem d_Mo_touching_57 : decode m_Mo_touching.2.1 57 = .ok (.ifCond .eq 31, 3) := by decide +kernel
theorem d_Mo_touching_60 : decode m_Mo_touching.2.1 60 = .ok (.iload 4, 2) := by decide +kernel
theorem d_Mo_touching_62 : decode m_Mo_touching.2.1 62 = .ok (.iconst (-1), 1) := by decide +kernel
theorem d_Mo_touching_63 : decode m_Mo_touching.2.1 63 = .ok (.if_icmp .eq 20, 3) := by decide +kernel
theorem d_Mo_touching_66 : decode m_Mo_touching.2.1 66 = .ok (.aload_n 0, 1) := by decide +kernel
theorem d_Mo_touching_67 : decode m_Mo_touching.2.1 67 = .ok (.getfield 70, 3) := by decide +kernel
theorem d_Mo_touching_70 : decode m_Mo_touching.2.1 70 = .ok (.iload 5, 2) := by decide +kernel
theorem d_Mo_touching_72 : decode m_Mo_touching.2.1 72 = .ok (.iaload, 1) := by decide +kernel
theorem d_Mo_touching_73 : decode m_Mo_touching.2.1 73 = .ok (.aload_n 0, 1) := by decide +kernel
theorem d_Mo_touching_74 : decode m_Mo_touching.2.1 74 = .ok (.getfield 70, 3) := by decide +kernel
theorem d_Mo_touching_77 : decode m_Mo_touching.2.1 77 = .ok (.iload 4, 2) := by decide +kernel
theorem d_Mo_touching_79 : decode m_Mo_touching.2.1 79 = .ok (.iaload, 1) := by decide +kernel
theorem d_Mo_touching_80 : decode m_Mo_touching.2.1 80 = .ok (.if_icmp .ge 8, 3) := by decide +kernel
theorem d_Mo_touching_83 : decode m_Mo_touching.2.1 83 = .ok (.iload 5, 2) := by decide +kernel
theorem d_Mo_touching_85 : decode m_Mo_touching.2.1 85 = .ok (.goto 5, 3) := by decide +kernel
theorem d_Mo_touching_88 : decode m_Mo_touching.2.1 88 = .ok (.iload 4, 2) := by decide +kernel
theorem d_Mo_touching_90 : decode m_Mo_touching.2.1 90 = .ok (.istore 4, 2) := by decide +kernel
theorem d_Mo_touching_92 : decode m_Mo_touching.2.1 92 = .ok (.iinc 5 1, 3) := by decide +kernel
theorem d_Mo_touching_95 : decode m_Mo_touching.2.1 95 = .ok (.goto (-89), 3) := by decide +kernel
theorem d_Mo_touching_98 : decode m_Mo_touching.2.1 98 = .ok (.iload 4, 2) := by decide +kernel
theorem d_Mo_touching_100 : decode m_Mo_touching.2.1 100 = .ok (.ireturn, 1) := by decide +kernel
theorem d_Mo_makes_0 : decode m_Mo_makes.2.1 0 = .ok (.aload_n 0, 1) := by decide +kernel
theorem d_Mo_makes_1 : decode m_Mo_makes.2.1 1 = .ok (.getfield 29, 3) := by decide +kernel
theorem d_Mo_makes_4 : decode m_Mo_makes.2.1 4 = .ok (.iload_n 1, 1) := by decide +kernel
theorem d_Mo_makes_5 : decode m_Mo_makes.2.1 5 = .ok (.iaload, 1) := by decide +kernel
theorem d_Mo_makes_6 : decode m_Mo_makes.2.1 6 = .ok (.istore_n 2, 1) := by decide +kernel
theorem d_Mo_makes_7 : decode m_Mo_makes.2.1 7 = .ok (.aload_n 0, 1) := by decide +kernel
theorem d_Mo_makes_8 : decode m_Mo_makes.2.1 8 = .ok (.getfield 29, 3) := by decide +kernel
theorem d_Mo_makes_11 : decode m_Mo_makes.2.1 11 = .ok (.iload_n 1, 1) := by decide +kernel
theorem d_Mo_makes_12 : decode m_Mo_makes.2.1 12 = .ok (.iaload, 1) := by decide +kernel
theorem d_Mo_makes_13 : decode m_Mo_makes.2.1 13 = .ok (.aload_n 0, 1) := by decide +kernel
theorem d_Mo_makes_14 : decode m_Mo_makes.2.1 14 = .ok (.getfield 13, 3) := by decide +kernel
theorem d_Mo_makes_17 : decode m_Mo_makes.2.1 17 = .ok (.iadd, 1) := by decide +kernel
theorem d_Mo_makes_18 : decode m_Mo_makes.2.1 18 = .ok (.istore_n 3, 1) := by decide +kernel
theorem d_Mo_makes_19 : decode m_Mo_makes.2.1 19 = .ok (.iload_n 3, 1) := by decide +kernel
theorem d_Mo_makes_20 : decode m_Mo_makes.2.1 20 = .ok (.aload_n 0, 1) := by decide +kernel
theorem d_Mo_makes_21 : decode m_Mo_makes.2.1 21 = .ok (.getfield 153, 3) := by decide +kernel
theorem d_Mo_makes_24 : decode m_Mo_makes.2.1 24 = .ok (.iadd, 1) := by decide +kernel
theorem d_Mo_makes_25 : decode m_Mo_makes.2.1 25 = .ok (.aload_n 0, 1) := by decide +kernel
theorem d_Mo_makes_26 : decode m_Mo_makes.2.1 26 = .ok (.getfield 58, 3) := by decide +kernel
theorem d_Mo_makes_29 : decode m_Mo_makes.2.1 29 = .ok (.if_icmp .gt 5, 3) := by decide +kernel
theorem d_Mo_makes_32 : decode m_Mo_makes.2.1 32 = .ok (.iconst 0, 1) := by decide +kernel
theorem d_Mo_makes_33 : decode m_Mo_makes.2.1 33 = .ok (.ireturn, 1) := by decide +kernel
theorem d_Mo_makes_34 : decode m_Mo_makes.2.1 34 = .ok (.iload_n 2, 1) := by decide +kernel
theorem d_Mo_makes_35 : decode m_Mo_makes.2.1 35 = .ok (.istore 4, 2) := by decide +kernel
theorem d_Mo_makes_37 : decode m_Mo_makes.2.1 37 = .ok (.iload_n 3, 1) := by decide +kernel
theorem d_Mo_makes_38 : decode m_Mo_makes.2.1 38 = .ok (.istore 5, 2) := by decide +kernel
theorem d_Mo_makes_40 : decode m_Mo_makes.2.1 40 = .ok (.iconst 1, 1) := by decide +kernel
theorem d_Mo_makes_41 : decode m_Mo_makes.2.1 41 = .ok (.istore 6, 2) := by decide +kernel
theorem d_Mo_makes_43 : decode m_Mo_makes.2.1 43 = .ok (.aload_n 0, 1) := by decide +kernel
theorem d_Mo_makes_44 : decode m_Mo_makes.2.1 44 = .ok (.getfield 36, 3) := by decide +kernel
theorem d_Mo_makes_47 : decode m_Mo_makes.2.1 47 = .ok (.iload_n 1, 1) := by decide +kernel
theorem d_Mo_makes_48 : decode m_Mo_makes.2.1 48 = .ok (.iaload, 1) := by decide +kernel
theorem d_Mo_makes_49 : decode m_Mo_makes.2.1 49 = .ok (.istore 7, 2) := by decide +kernel
theorem d_Mo_makes_51 : decode m_Mo_makes.2.1 51 = .ok (.iconst 0, 1) := by decide +kernel
theorem d_Mo_makes_52 : decode m_Mo_makes.2.1 52 = .ok (.istore 8, 2) := by decide +kernel
theorem d_Mo_makes_54 : decode m_Mo_makes.2.1 54 = .ok (.aload_n 0, 1) := by decide +kernel
theorem d_Mo_makes_55 : decode m_Mo_makes.2.1 55 = .ok (.aload_n 0, 1) := by decide +kernel
theorem d_Mo_makes_56 : decode m_Mo_makes.2.1 56 = .ok (.getfield 33, 3) := by decide +kernel
theorem d_Mo_makes_59 : decode m_Mo_makes.2.1 59 = .ok (.iload_n 1, 1) := by decide +kernel
theorem d_Mo_makes_60 : decode m_Mo_makes.2.1 60 = .ok (.iaload, 1) := by decide +kernel
theorem d_Mo_makes_61 : decode m_Mo_makes.2.1 61 = .ok (.iload_n 2, 1) := by decide +kernel
theorem d_Mo_makes_62 : decode m_Mo_makes.2.1 62 = .ok (.iload_n 3, 1) := by decide +kernel
theorem d_Mo_makes_63 : decode m_Mo_makes.2.1 63 = .ok (.invokevirtual 197, 3) := by decide +kernel
theorem d_Mo_makes_66 : decode m_Mo_makes.2.1 66 = .ok (.istore 9, 2) := by decide +kernel
theorem d_Mo_makes_68 : decode m_Mo_makes.2.1 68 = .ok (.iload 9, 2) := by decide +kernel
theorem d_Mo_makes_70 : decode m_Mo_makes.2.1 70 = .ok (.iconst (-1), 1) := by decide +kernel
theorem d_Mo_makes_71 : decode m_Mo_makes.2.1 71 = .ok (.if_icmp .eq 98, 3) := by decide +kernel
theorem d_Mo_makes_74 : decode m_Mo_makes.2.1 74 = .ok (.aload_n 0, 1) := by decide +kernel
theorem d_Mo_makes_75 : decode m_Mo_makes.2.1 75 = .ok (.getfield 82, 3) := by decide +kernel
theorem d_Mo_makes_78 : decode m_Mo_makes.2.1 78 = .ok (.iload 9, 2) := by decide +kernel
theorem d_Mo_makes_80 : decode m_Mo_makes.2.1 80 = .ok (.baload, 1) := by decide +kernel
theorem d_Mo_makes_81 : decode m_Mo_makes.2.1 81 = .ok (.ifCond .eq 13, 3) := by decide +kernel
theorem d_Mo_makes_84 : decode m_Mo_makes.2.1 84 = .ok (.aload_n 0, 1) := by decide +kernel
theorem d_Mo_makes_85 : decode m_Mo_makes.2.1 85 = .ok (.iload 9, 2) := by decide +kernel
theorem d_Mo_makes_87 : decode m_Mo_makes.2.1 87 = .ok (.iconst 1, 1) := by decide +kernel
theorem d_Mo_makes_88 : decode m_Mo_makes.2.1 88 = .ok (.invokevirtual 180, 3) := by decide +kernel
theorem d_Mo_makes_91 : decode m_Mo_makes.2.1 91 = .ok (.iconst 1, 1) := by decide +kernel
theorem d_Mo_makes_92 : decode m_Mo_makes.2.1 92 = .ok (.istore 8, 2) := by decide +kernel
theorem d_Mo_makes_94 : decode m_Mo_makes.2.1 94 = .ok (.iload 4, 2) := by decide +kernel
theorem d_Mo_makes_96 : decode m_Mo_makes.2.1 96 = .ok (.aload_n 0, 1) := by decide +kernel
theorem d_Mo_makes_97 : decode m_Mo_makes.2.1 97 = .ok (.getfield 70, 3) := by decide +kernel
theorem d_Mo_makes_100 : decode m_Mo_makes.2.1 100 = .ok (.iload 9, 2) := by decide +kernel
theorem d_Mo_makes_102 : decode m_Mo_makes.2.1 102 = .ok (.iaload, 1) := by decide +kernel
theorem d_Mo_makes_103 : decode m_Mo_makes.2.1 103 = .ok (.invokestatic 201, 3) := by decide +kernel
theorem d_Mo_makes_106 : decode m_Mo_makes.2.1 106 = .ok (.istore 4, 2) := by decide +kernel
theorem d_Mo_makes_108 : decode m_Mo_makes.2.1 108 = .ok (.iload 5, 2) := by decide +kernel
theorem d_Mo_makes_110 : decode m_Mo_makes.2.1 110 = .ok (.aload_n 0, 1) := by decide +kernel
theorem d_Mo_makes_111 : decode m_Mo_makes.2.1 111 = .ok (.getfield 73, 3) := by decide +kernel
theorem d_Mo_makes_114 : decode m_Mo_makes.2.1 114 = .ok (.iload 9, 2) := by decide +kernel
theorem d_Mo_makes_116 : decode m_Mo_makes.2.1 116 = .ok (.iaload, 1) := by decide +kernel
theorem d_Mo_makes_117 : decode m_Mo_makes.2.1 117 = .ok (.invokestatic 165, 3) := by decide +kernel
theorem d_Mo_makes_120 : decode m_Mo_makes.2.1 120 = .ok (.istore 5, 2) := by decide +kernel
theorem d_Mo_makes_122 : decode m_Mo_makes.2.1 122 = .ok (.iload 6, 2) := by decide +kernel
theorem d_Mo_makes_124 : decode m_Mo_makes.2.1 124 = .ok (.aload_n 0, 1) := by decide +kernel
theorem d_Mo_makes_125 : decode m_Mo_makes.2.1 125 = .ok (.getfield 76, 3) := by decide +kernel
theorem d_Mo_makes_128 : decode m_Mo_makes.2.1 128 = .ok (.iload 9, 2) := by decide +kernel
theorem d_Mo_makes_130 : decode m_Mo_makes.2.1 130 = .ok (.iaload, 1) := by decide +kernel
theorem d_Mo_makes_131 : decode m_Mo_makes.2.1 131 = .ok (.iadd, 1) := by decide +kernel
theorem d_Mo_makes_132 : decode m_Mo_makes.2.1 132 = .ok (.istore 6, 2) := by decide +kernel
theorem d_Mo_makes_134 : decode m_Mo_makes.2.1 134 = .ok (.iload 7, 2) := by decide +kernel
theorem d_Mo_makes_136 : decode m_Mo_makes.2.1 136 = .ok (.aload_n 0, 1) := by decide +kernel
theorem d_Mo_makes_137 : decode m_Mo_makes.2.1 137 = .ok (.getfield 79, 3) := by decide +kernel
theorem d_Mo_makes_140 : decode m_Mo_makes.2.1 140 = .ok (.iload 9, 2) := by decide +kernel
theorem d_Mo_makes_142 : decode m_Mo_makes.2.1 142 = .ok (.iaload, 1) := by decide +kernel
theorem d_Mo_makes_143 : decode m_Mo_makes.2.1 143 = .ok (.iadd, 1) := by decide +kernel
theorem d_Mo_makes_144 : decode m_Mo_makes.2.1 144 = .ok (.istore 7, 2) := by decide +kernel
theorem d_Mo_makes_146 : decode m_Mo_makes.2.1 146 = .ok (.aload_n 0, 1) := by decide +kernel
theorem d_Mo_makes_147 : decode m_Mo_makes.2.1 147 = .ok (.iload 9, 2) := by decide +kernel
theorem d_Mo_makes_149 : decode m_Mo_makes.2.1 149 = .ok (.invokevirtual 204, 3) := by decide +kernel
theorem d_Mo_makes_152 : decode m_Mo_makes.2.1 152 = .ok (.aload_n 0, 1) := by decide +kernel
theorem d_Mo_makes_153 : decode m_Mo_makes.2.1 153 = .ok (.aload_n 0, 1) := by decide +kernel
theorem d_Mo_makes_154 : decode m_Mo_makes.2.1 154 = .ok (.getfield 33, 3) := by decide +kernel
theorem d_Mo_makes_157 : decode m_Mo_makes.2.1 157 = .ok (.iload_n 1, 1) := by decide +kernel
theorem d_Mo_makes_158 : decode m_Mo_makes.2.1 158 = .ok (.iaload, 1) := by decide +kernel
theorem d_Mo_makes_159 : decode m_Mo_makes.2.1 159 = .ok (.iload_n 2, 1) := by decide +kernel
theorem d_Mo_makes_160 : decode m_Mo_makes.2.1 160 = .ok (.iload_n 3, 1) := by decide +kernel
theorem d_Mo_makes_161 : decode m_Mo_makes.2.1 161 = .ok (.invokevirtual 197, 3) := by decide +kernel
theorem d_Mo_makes_164 : decode m_Mo_makes.2.1 164 = .ok (.istore 9, 2) := by decide +kernel
theorem d_Mo_makes_166 : decode m_Mo_makes.2.1 166 = .ok (.goto (-98), 3) := by decide +kernel
theorem d_Mo_makes_169 : decode m_Mo_makes.2.1 169 = .ok (.aload_n 0, 1) := by decide +kernel
theorem d_Mo_makes_170 : decode m_Mo_makes.2.1 170 = .ok (.aload_n 0, 1) := by decide +kernel
theorem d_Mo_makes_171 : decode m_Mo_makes.2.1 171 = .ok (.getfield 33, 3) := by decide +kernel
theorem d_Mo_makes_174 : decode m_Mo_makes.2.1 174 = .ok (.iload_n 1, 1) := by decide +kernel
theorem d_Mo_makes_175 : decode m_Mo_makes.2.1 175 = .ok (.iaload, 1) := by decide +kernel
theorem d_Mo_makes_176 : decode m_Mo_makes.2.1 176 = .ok (.iload 4, 2) := by decide +kernel
theorem d_Mo_makes_178 : decode m_Mo_makes.2.1 178 = .ok (.invokevirtual 194, 3) := by decide +kernel
theorem d_Mo_makes_181 : decode m_Mo_makes.2.1 181 = .ok (.istore 10, 2) := by decide +kernel
theorem d_Mo_makes_183 : decode m_Mo_makes.2.1 183 = .ok (.aload_n 0, 1) := by decide +kernel
theorem d_Mo_makes_184 : decode m_Mo_makes.2.1 184 = .ok (.getfield 73, 3) := by decide +kernel
theorem d_Mo_makes_187 : decode m_Mo_makes.2.1 187 = .ok (.iload 10, 2) := by decide +kernel
theorem d_Mo_makes_189 : decode m_Mo_makes.2.1 189 = .ok (.iload 5, 2) := by decide +kernel
theorem d_Mo_makes_191 : decode m_Mo_makes.2.1 191 = .ok (.iastore, 1) := by decide +kernel
theorem d_Mo_makes_192 : decode m_Mo_makes.2.1 192 = .ok (.aload_n 0, 1) := by decide +kernel
theorem d_Mo_makes_193 : decode m_Mo_makes.2.1 193 = .ok (.getfield 76, 3) := by decide +kernel
theorem d_Mo_makes_196 : decode m_Mo_makes.2.1 196 = .ok (.iload 10, 2) := by decide +kernel
theorem d_Mo_makes_198 : decode m_Mo_makes.2.1 198 = .ok (.iload 6, 2) := by decide +kernel
theorem d_Mo_makes_200 : decode m_Mo_makes.2.1 200 = .ok (.iastore, 1) := by decide +kernel
theorem d_Mo_makes_201 : decode m_Mo_makes.2.1 201 = .ok (.aload_n 0, 1) := by decide +kernel
theorem d_Mo_makes_202 : decode m_Mo_makes.2.1 202 = .ok (.getfield 79, 3) := by decide +kernel
theorem d_Mo_makes_205 : decode m_Mo_makes.2.1 205 = .ok (.iload 10, 2) := by decide +kernel
theorem d_Mo_makes_207 : decode m_Mo_makes.2.1 207 = .ok (.iload 7, 2) := by decide +kernel
theorem d_Mo_makes_209 : decode m_Mo_makes.2.1 209 = .ok (.iastore, 1) := by decide +kernel
theorem d_Mo_makes_210 : decode m_Mo_makes.2.1 210 = .ok (.iload 8, 2) := by decide +kernel
theorem d_Mo_makes_212 : decode m_Mo_makes.2.1 212 = .ok (.ifCond .eq 27, 3) := by decide +kernel
theorem d_Mo_makes_215 : decode m_Mo_makes.2.1 215 = .ok (.iload 5, 2) := by decide +kernel
theorem d_Mo_makes_217 : decode m_Mo_makes.2.1 217 = .ok (.aload_n 0, 1) := by decide +kernel
theorem d_Mo_makes_218 : decode m_Mo_makes.2.1 218 = .ok (.getfield 58, 3) := by decide +kernel
theorem d_Mo_makes_221 : decode m_Mo_makes.2.1 221 = .ok (.if_icmp .gt 18, 3) := by decide +kernel
theorem d_Mo_makes_224 : decode m_Mo_makes.2.1 224 = .ok (.aload_n 0, 1) := by decide +kernel
theorem d_Mo_makes_225 : decode m_Mo_makes.2.1 225 = .ok (.iload 10, 2) := by decide +kernel
theorem d_Mo_makes_227 : decode m_Mo_makes.2.1 227 = .ok (.iconst 0, 1) := by decide +kernel
theorem d_Mo_makes_228 : decode m_Mo_makes.2.1 228 = .ok (.invokevirtual 180, 3) := by decide +kernel
theorem d_Mo_makes_231 : decode m_Mo_makes.2.1 231 = .ok (.aload_n 0, 1) := by decide +kernel
theorem d_Mo_makes_232 : decode m_Mo_makes.2.1 232 = .ok (.getfield 82, 3) := by decide +kernel
theorem d_Mo_makes_235 : decode m_Mo_makes.2.1 235 = .ok (.iload 10, 2) := by decide +kernel
theorem d_Mo_makes_237 : decode m_Mo_makes.2.1 237 = .ok (.iconst 1, 1) := by decide +kernel
theorem d_Mo_makes_238 : decode m_Mo_makes.2.1 238 = .ok (.bastore, 1) := by decide +kernel
theorem d_Mo_makes_239 : decode m_Mo_makes.2.1 239 = .ok (.iconst 1, 1) := by decide +kernel
theorem d_Mo_makes_240 : decode m_Mo_makes.2.1 240 = .ok (.ireturn, 1) := by decide +kernel
theorem d_Mo_isOpen_0 : decode m_Mo_isOpen.2.1 0 = .ok (.aload_n 0, 1) := by decide +kernel
theorem d_Mo_isOpen_1 : decode m_Mo_isOpen.2.1 1 = .ok (.getfield 58, 3) := by decide +kernel
theorem d_Mo_isOpen_4 : decode m_Mo_isOpen.2.1 4 = .ok (.aload_n 0, 1) := by decide +kernel
theorem d_Mo_isOpen_5 : decode m_Mo_isOpen.2.1 5 = .ok (.getfield 73, 3) := by decide +kernel
theorem d_Mo_isOpen_8 : decode m_Mo_isOpen.2.1 8 = .ok (.iload_n 1, 1) := by decide +kernel
theorem d_Mo_isOpen_9 : decode m_Mo_isOpen.2.1 9 = .ok (.iaload, 1) := by decide +kernel
theorem d_Mo_isOpen_10 : decode m_Mo_isOpen.2.1 10 = .ok (.aload_n 0, 1) := by decide +kernel
theorem d_Mo_isOpen_11 : decode m_Mo_isOpen.2.1 11 = .ok (.getfield 153, 3) := by decide +kernel
theorem d_Mo_isOpen_14 : decode m_Mo_isOpen.2.1 14 = .ok (.iadd, 1) := by decide +kernel
theorem d_Mo_isOpen_15 : decode m_Mo_isOpen.2.1 15 = .ok (.aload_n 0, 1) := by decide +kernel
theorem d_Mo_isOpen_16 : decode m_Mo_isOpen.2.1 16 = .ok (.getfield 9, 3) := by decide +kernel
theorem d_Mo_isOpen_19 : decode m_Mo_isOpen.2.1 19 = .ok (.iconst 2, 1) := by decide +kernel
theorem d_Mo_isOpen_20 : decode m_Mo_isOpen.2.1 20 = .ok (.if_icmp .ne 10, 3) := by decide +kernel
theorem d_Mo_isOpen_23 : decode m_Mo_isOpen.2.1 23 = .ok (.aload_n 0, 1) := by decide +kernel
theorem d_Mo_isOpen_24 : decode m_Mo_isOpen.2.1 24 = .ok (.getfield 13, 3) := by decide +kernel
theorem d_Mo_isOpen_27 : decode m_Mo_isOpen.2.1 27 = .ok (.goto 4, 3) := by decide +kernel
theorem d_Mo_isOpen_30 : decode m_Mo_isOpen.2.1 30 = .ok (.iconst 0, 1) := by decide +kernel
theorem d_Mo_isOpen_31 : decode m_Mo_isOpen.2.1 31 = .ok (.iadd, 1) := by decide +kernel
theorem d_Mo_isOpen_32 : decode m_Mo_isOpen.2.1 32 = .ok (.if_icmp .ge 7, 3) := by decide +kernel
theorem d_Mo_isOpen_35 : decode m_Mo_isOpen.2.1 35 = .ok (.iconst 1, 1) := by decide +kernel
theorem d_Mo_isOpen_36 : decode m_Mo_isOpen.2.1 36 = .ok (.goto 4, 3) := by decide +kernel
theorem d_Mo_isOpen_39 : decode m_Mo_isOpen.2.1 39 = .ok (.iconst 0, 1) := by decide +kernel
theorem d_Mo_isOpen_40 : decode m_Mo_isOpen.2.1 40 = .ok (.ireturn, 1) := by decide +kernel
theorem d_Mo_takes_0 : decode m_Mo_takes.2.1 0 = .ok (.bipush 40, 2) := by decide +kernel
theorem d_Mo_takes_2 : decode m_Mo_takes.2.1 2 = .ok (.iload_n 1, 1) := by decide +kernel
theorem d_Mo_takes_3 : decode m_Mo_takes.2.1 3 = .ok (.imul, 1) := by decide +kernel
theorem d_Mo_takes_4 : decode m_Mo_takes.2.1 4 = .ok (.aload_n 0, 1) := by decide +kernel
theorem d_Mo_takes_5 : decode m_Mo_takes.2.1 5 = .ok (.getfield 45, 3) := by decide +kernel
theorem d_Mo_takes_8 : decode m_Mo_takes.2.1 8 = .ok (.iload_n 1, 1) := by decide +kernel
theorem d_Mo_takes_9 : decode m_Mo_takes.2.1 9 = .ok (.iaload, 1) := by decide +kernel
theorem d_Mo_takes_10 : decode m_Mo_takes.2.1 10 = .ok (.iadd, 1) := by decide +kernel
theorem d_Mo_takes_11 : decode m_Mo_takes.2.1 11 = .ok (.istore_n 2, 1) := by decide +kernel
theorem d_Mo_takes_12 : decode m_Mo_takes.2.1 12 = .ok (.aload_n 0, 1) := by decide +kernel
theorem d_Mo_takes_13 : decode m_Mo_takes.2.1 13 = .ok (.getfield 29, 3) := by decide +kernel
theorem d_Mo_takes_16 : decode m_Mo_takes.2.1 16 = .ok (.iload_n 2, 1) := by decide +kernel
theorem d_Mo_takes_17 : decode m_Mo_takes.2.1 17 = .ok (.iaload, 1) := by decide +kernel
theorem d_Mo_takes_18 : decode m_Mo_takes.2.1 18 = .ok (.aload_n 0, 1) := by decide +kernel
theorem d_Mo_takes_19 : decode m_Mo_takes.2.1 19 = .ok (.getfield 58, 3) := by decide +kernel
theorem d_Mo_takes_22 : decode m_Mo_takes.2.1 22 = .ok (.if_icmp .ge 7, 3) := by decide +kernel
theorem d_Mo_takes_25 : decode m_Mo_takes.2.1 25 = .ok (.iconst 1, 1) := by decide +kernel
theorem d_Mo_takes_26 : decode m_Mo_takes.2.1 26 = .ok (.goto 4, 3) := by decide +kernel
theorem d_Mo_takes_29 : decode m_Mo_takes.2.1 29 = .ok (.iconst 0, 1) := by decide +kernel
theorem d_Mo_takes_30 : decode m_Mo_takes.2.1 30 = .ok (.istore_n 3, 1) := by decide +kernel
theorem d_Mo_takes_31 : decode m_Mo_takes.2.1 31 = .ok (.aload_n 0, 1) := by decide +kernel
theorem d_Mo_takes_32 : decode m_Mo_takes.2.1 32 = .ok (.getfield 45, 3) := by decide +kernel
theorem d_Mo_takes_35 : decode m_Mo_takes.2.1 35 = .ok (.iload_n 1, 1) := by decide +kernel
theorem d_Mo_takes_36 : decode m_Mo_takes.2.1 36 = .ok (.dup2, 1) := by decide +kernel
theorem d_Mo_takes_37 : decode m_Mo_takes.2.1 37 = .ok (.iaload, 1) := by decide +kernel
theorem d_Mo_takes_38 : decode m_Mo_takes.2.1 38 = .ok (.iconst 1, 1) := by decide +kernel
theorem d_Mo_takes_39 : decode m_Mo_takes.2.1 39 = .ok (.iadd, 1) := by decide +kernel
theorem d_Mo_takes_40 : decode m_Mo_takes.2.1 40 = .ok (.iastore, 1) := by decide +kernel
theorem d_Mo_takes_41 : decode m_Mo_takes.2.1 41 = .ok (.aload_n 0, 1) := by decide +kernel
theorem d_Mo_takes_42 : decode m_Mo_takes.2.1 42 = .ok (.getfield 9, 3) := by decide +kernel
theorem d_Mo_takes_45 : decode m_Mo_takes.2.1 45 = .ok (.iconst 2, 1) := by decide +kernel
theorem d_Mo_takes_46 : decode m_Mo_takes.2.1 46 = .ok (.if_icmp .ne 11, 3) := by decide +kernel
theorem d_Mo_takes_49 : decode m_Mo_takes.2.1 49 = .ok (.aload_n 0, 1) := by decide +kernel
theorem d_Mo_takes_50 : decode m_Mo_takes.2.1 50 = .ok (.iload_n 2, 1) := by decide +kernel
theorem d_Mo_takes_51 : decode m_Mo_takes.2.1 51 = .ok (.invokevirtual 208, 3) := by decide +kernel
theorem d_Mo_takes_54 : decode m_Mo_takes.2.1 54 = .ok (.goto 8, 3) := by decide +kernel
theorem d_Mo_takes_57 : decode m_Mo_takes.2.1 57 = .ok (.aload_n 0, 1) := by decide +kernel
theorem d_Mo_takes_58 : decode m_Mo_takes.2.1 58 = .ok (.iload_n 2, 1) := by decide +kernel
theorem d_Mo_takes_59 : decode m_Mo_takes.2.1 59 = .ok (.invokevirtual 211, 3) := by decide +kernel
theorem d_Mo_takes_62 : decode m_Mo_takes.2.1 62 = .ok (.istore 4, 2) := by decide +kernel
theorem d_Mo_takes_64 : decode m_Mo_takes.2.1 64 = .ok (.aload_n 0, 1) := by decide +kernel
theorem d_Mo_takes_65 : decode m_Mo_takes.2.1 65 = .ok (.dup, 1) := by decide +kernel
theorem d_Mo_takes_66 : decode m_Mo_takes.2.1 66 = .ok (.getfield 214, 3) := by decide +kernel
theorem d_Mo_takes_69 : decode m_Mo_takes.2.1 69 = .ok (.iload 4, 2) := by decide +kernel
theorem d_Mo_takes_71 : decode m_Mo_takes.2.1 71 = .ok (.ifCond .ne 7, 3) := by decide +kernel
theorem d_Mo_takes_74 : decode m_Mo_takes.2.1 74 = .ok (.iconst 1, 1) := by decide +kernel
theorem d_Mo_takes_75 : decode m_Mo_takes.2.1 75 = .ok (.goto 4, 3) := by decide +kernel
theorem d_Mo_takes_78 : decode m_Mo_takes.2.1 78 = .ok (.iconst 0, 1) := by decide +kernel
theorem d_Mo_takes_79 : decode m_Mo_takes.2.1 79 = .ok (.iadd, 1) := by decide +kernel
theorem d_Mo_takes_80 : decode m_Mo_takes.2.1 80 = .ok (.putfield 214, 3) := by decide +kernel
theorem d_Mo_takes_83 : decode m_Mo_takes.2.1 83 = .ok (.iload_n 3, 1) := by decide +kernel
theorem d_Mo_takes_84 : decode m_Mo_takes.2.1 84 = .ok (.ifCond .ne 28, 3) := by decide +kernel
theorem d_Mo_takes_87 : decode m_Mo_takes.2.1 87 = .ok (.iload_n 1, 1) := by decide +kernel
theorem d_Mo_takes_88 : decode m_Mo_takes.2.1 88 = .ok (.iconst 2, 1) := by decide +kernel
theorem d_Mo_takes_89 : decode m_Mo_takes.2.1 89 = .ok (.if_icmp .ge 23, 3) := by decide +kernel
theorem d_Mo_takes_92 : decode m_Mo_takes.2.1 92 = .ok (.aload_n 0, 1) := by decide +kernel
theorem d_Mo_takes_93 : decode m_Mo_takes.2.1 93 = .ok (.getfield 88, 3) := by decide +kernel
theorem d_Mo_takes_96 : decode m_Mo_takes.2.1 96 = .ok (.aload_n 0, 1) := by decide +kernel
theorem d_Mo_takes_97 : decode m_Mo_takes.2.1 97 = .ok (.getfield 217, 3) := by decide +kernel
theorem d_Mo_takes_100 : decode m_Mo_takes.2.1 100 = .ok (.iload_n 2, 1) := by decide +kernel
theorem d_Mo_takes_101 : decode m_Mo_takes.2.1 101 = .ok (.iastore, 1) := by decide +kernel
theorem d_Mo_takes_102 : decode m_Mo_takes.2.1 102 = .ok (.aload_n 0, 1) := by decide +kernel
theorem d_Mo_takes_103 : decode m_Mo_takes.2.1 103 = .ok (.dup, 1) := by decide +kernel
theorem d_Mo_takes_104 : decode m_Mo_takes.2.1 104 = .ok (.getfield 217, 3) := by decide +kernel
theorem d_Mo_takes_107 : decode m_Mo_takes.2.1 107 = .ok (.iconst 1, 1) := by decide +kernel
theorem d_Mo_takes_108 : decode m_Mo_takes.2.1 108 = .ok (.iadd, 1) := by decide +kernel
theorem d_Mo_takes_109 : decode m_Mo_takes.2.1 109 = .ok (.putfield 217, 3) := by decide +kernel
theorem d_Mo_takes_112 : decode m_Mo_takes.2.1 112 = .ok (.aload_n 0, 1) := by decide +kernel
theorem d_Mo_takes_113 : decode m_Mo_takes.2.1 113 = .ok (.getfield 55, 3) := by decide +kernel
theorem d_Mo_takes_116 : decode m_Mo_takes.2.1 116 = .ok (.iload_n 1, 1) := by decide +kernel
theorem d_Mo_takes_117 : decode m_Mo_takes.2.1 117 = .ok (.aload_n 0, 1) := by decide +kernel
theorem d_Mo_takes_118 : decode m_Mo_takes.2.1 118 = .ok (.getfield 55, 3) := by decide +kernel
theorem d_Mo_takes_121 : decode m_Mo_takes.2.1 121 = .ok (.iload_n 1, 1) := by decide +kernel
theorem d_Mo_takes_122 : decode m_Mo_takes.2.1 122 = .ok (.iaload, 1) := by decide +kernel
theorem d_Mo_takes_123 : decode m_Mo_takes.2.1 123 = .ok (.aload_n 0, 1) := by decide +kernel
theorem d_Mo_takes_124 : decode m_Mo_takes.2.1 124 = .ok (.getfield 29, 3) := by decide +kernel
theorem d_Mo_takes_127 : decode m_Mo_takes.2.1 127 = .ok (.iload_n 2, 1) := by decide +kernel
theorem d_Mo_takes_128 : decode m_Mo_takes.2.1 128 = .ok (.iaload, 1) := by decide +kernel
theorem d_Mo_takes_129 : decode m_Mo_takes.2.1 129 = .ok (.invokestatic 165, 3) := by decide +kernel
theorem d_Mo_takes_132 : decode m_Mo_takes.2.1 132 = .ok (.iastore, 1) := by decide +kernel
theorem d_Mo_takes_133 : decode m_Mo_takes.2.1 133 = .ok (.aload_n 0, 1) := by decide +kernel
theorem d_Mo_takes_134 : decode m_Mo_takes.2.1 134 = .ok (.invokevirtual 162, 3) := by decide +kernel
theorem d_Mo_takes_137 : decode m_Mo_takes.2.1 137 = .ok (.iload 4, 2) := by decide +kernel
theorem d_Mo_takes_139 : decode m_Mo_takes.2.1 139 = .ok (.ifCond .ne 7, 3) := by decide +kernel
theorem d_Mo_takes_142 : decode m_Mo_takes.2.1 142 = .ok (.iconst 2, 1) := by decide +kernel
theorem d_Mo_takes_143 : decode m_Mo_takes.2.1 143 = .ok (.goto 12, 3) := by decide +kernel
theorem d_Mo_takes_146 : decode m_Mo_takes.2.1 146 = .ok (.iload_n 3, 1) := by decide +kernel
theorem d_Mo_takes_147 : decode m_Mo_takes.2.1 147 = .ok (.ifCond .eq 7, 3) := by decide +kernel
theorem d_Mo_takes_150 : decode m_Mo_takes.2.1 150 = .ok (.iconst 1, 1) := by decide +kernel
theorem d_Mo_takes_151 : decode m_Mo_takes.2.1 151 = .ok (.goto 4, 3) := by decide +kernel
theorem d_Mo_takes_154 : decode m_Mo_takes.2.1 154 = .ok (.iconst 0, 1) := by decide +kernel
theorem d_Mo_takes_155 : decode m_Mo_takes.2.1 155 = .ok (.ireturn, 1) := by decide +kernel
theorem d_Mo_isAtBarrier_0 : decode m_Mo_isAtBarrier.2.1 0 = .ok (.aload_n 0, 1) := by decide +kernel
theorem d_Mo_isAtBarrier_1 : decode m_Mo_isAtBarrier.2.1 1 = .ok (.getfield 220, 3) := by decide +kernel
theorem d_Mo_isAtBarrier_4 : decode m_Mo_isAtBarrier.2.1 4 = .ok (.ifCond .eq 22, 3) := by decide +kernel
theorem d_Mo_isAtBarrier_7 : decode m_Mo_isAtBarrier.2.1 7 = .ok (.aload_n 0, 1) := by decide +kernel
theorem d_Mo_isAtBarrier_8 : decode m_Mo_isAtBarrier.2.1 8 = .ok (.getfield 45, 3) := by decide +kernel
theorem d_Mo_isAtBarrier_11 : decode m_Mo_isAtBarrier.2.1 11 = .ok (.iload_n 1, 1) := by decide +kernel
theorem d_Mo_isAtBarrier_12 : decode m_Mo_isAtBarrier.2.1 12 = .ok (.iaload, 1) := by decide +kernel
theorem d_Mo_isAtBarrier_13 : decode m_Mo_isAtBarrier.2.1 13 = .ok (.aload_n 0, 1) := by decide +kernel
theorem d_Mo_isAtBarrier_14 : decode m_Mo_isAtBarrier.2.1 14 = .ok (.getfield 61, 3) := by decide +kernel
theorem d_Mo_isAtBarrier_17 : decode m_Mo_isAtBarrier.2.1 17 = .ok (.iload_n 1, 1) := by decide +kernel
theorem d_Mo_isAtBarrier_18 : decode m_Mo_isAtBarrier.2.1 18 = .ok (.iaload, 1) := by decide +kernel
theorem d_Mo_isAtBarrier_19 : decode m_Mo_isAtBarrier.2.1 19 = .ok (.if_icmp .ne 7, 3) := by decide +kernel
theorem d_Mo_isAtBarrier_22 : decode m_Mo_isAtBarrier.2.1 22 = .ok (.iconst 1, 1) := by decide +kernel
theorem d_Mo_isAtBarrier_23 : decode m_Mo_isAtBarrier.2.1 23 = .ok (.goto 4, 3) := by decide +kernel
theorem d_Mo_isAtBarrier_26 : decode m_Mo_isAtBarrier.2.1 26 = .ok (.iconst 0, 1) := by decide +kernel
theorem d_Mo_isAtBarrier_27 : decode m_Mo_isAtBarrier.2.1 27 = .ok (.ireturn, 1) := by decide +kernel
theorem d_Mo_takesBarrier_0 : decode m_Mo_takesBarrier.2.1 0 = .ok (.aload_n 0, 1) := by decide +kernel
theorem d_Mo_takesBarrier_1 : decode m_Mo_takesBarrier.2.1 1 = .ok (.getfield 64, 3) := by decide +kernel
theorem d_Mo_takesBarrier_4 : decode m_Mo_takesBarrier.2.1 4 = .ok (.iload_n 1, 1) := by decide +kernel
theorem d_Mo_takesBarrier_5 : decode m_Mo_takesBarrier.2.1 5 = .ok (.iconst 1, 1) := by decide +kernel
theorem d_Mo_takesBarrier_6 : decode m_Mo_takesBarrier.2.1 6 = .ok (.bastore, 1) := by decide +kernel
theorem d_Mo_takesBarrier_7 : decode m_Mo_takesBarrier.2.1 7 = .ok (.aload_n 0, 1) := by decide +kernel
theorem d_Mo_takesBarrier_8 : decode m_Mo_takesBarrier.2.1 8 = .ok (.getfield 64, 3) := by decide +kernel
theorem d_Mo_takesBarrier_11 : decode m_Mo_takesBarrier.2.1 11 = .ok (.iconst 0, 1) := by decide +kernel
theorem d_Mo_takesBarrier_12 : decode m_Mo_takesBarrier.2.1 12 = .ok (.baload, 1) := by decide +kernel
theorem d_Mo_takesBarrier_13 : decode m_Mo_takesBarrier.2.1 13 = .ok (.ifCond .eq 21, 3) := by decide +kernel
theorem d_Mo_takesBarrier_16 : decode m_Mo_takesBarrier.2.1 16 = .ok (.aload_n 0, 1) := by decide +kernel
theorem d_Mo_takesBarrier_17 : decode m_Mo_takesBarrier.2.1 17 = .ok (.getfield 64, 3) := by decide +kernel
theorem d_Mo_takesBarrier_20 : decode m_Mo_takesBarrier.2.1 20 = .ok (.iconst 1, 1) := by decide +kernel
theorem d_Mo_takesBarrier_21 : decode m_Mo_takesBarrier.2.1 21 = .ok (.baload, 1) := by decide +kernel
theorem d_Mo_takesBarrier_22 : decode m_Mo_takesBarrier.2.1 22 = .ok (.ifCond .eq 12, 3) := by decide +kernel
theorem d_Mo_takesBarrier_25 : decode m_Mo_takesBarrier.2.1 25 = .ok (.aload_n 0, 1) := by decide +kernel
theorem d_Mo_takesBarrier_26 : decode m_Mo_takesBarrier.2.1 26 = .ok (.getfield 64, 3) := by decide +kernel
theorem d_Mo_takesBarrier_29 : decode m_Mo_takesBarrier.2.1 29 = .ok (.iconst 2, 1) := by decide +kernel
theorem d_Mo_takesBarrier_30 : decode m_Mo_takesBarrier.2.1 30 = .ok (.baload, 1) := by decide +kernel
theorem d_Mo_takesBarrier_31 : decode m_Mo_takesBarrier.2.1 31 = .ok (.ifCond .ne 5, 3) := by decide +kernel
theorem d_Mo_takesBarrier_34 : decode m_Mo_takesBarrier.2.1 34 = .ok (.iconst 3, 1) := by decide +kernel
theorem d_Mo_takesBarrier_35 : decode m_Mo_takesBarrier.2.1 35 = .ok (.ireturn, 1) := by decide +kernel
theorem d_Mo_takesBarrier_36 : decode m_Mo_takesBarrier.2.1 36 = .ok (.aload_n 0, 1) := by decide +kernel
theorem d_Mo_takesBarrier_37 : decode m_Mo_takesBarrier.2.1 37 = .ok (.iconst 0, 1) := by decide +kernel
theorem d_Mo_takesBarrier_38 : decode m_Mo_takesBarrier.2.1 38 = .ok (.putfield 220, 3) := by decide +kernel
theorem d_Mo_takesBarrier_41 : decode m_Mo_takesBarrier.2.1 41 = .ok (.aload_n 0, 1) := by decide +kernel
theorem d_Mo_takesBarrier_42 : decode m_Mo_takesBarrier.2.1 42 = .ok (.iconst 0, 1) := by decide +kernel
theorem d_Mo_takesBarrier_43 : decode m_Mo_takesBarrier.2.1 43 = .ok (.invokevirtual 223, 3) := by decide +kernel
theorem d_Mo_takesBarrier_46 : decode m_Mo_takesBarrier.2.1 46 = .ok (.iconst 4, 1) := by decide +kernel
theorem d_Mo_takesBarrier_47 : decode m_Mo_takesBarrier.2.1 47 = .ok (.ireturn, 1) := by decide +kernel
theorem d_Mo_take_0 : decode m_Mo_take.2.1 0 = .ok (.iload_n 1, 1) := by decide +kernel
theorem d_Mo_take_1 : decode m_Mo_take.2.1 1 = .ok (.invokestatic 156, 3) := by decide +kernel
theorem d_Mo_take_4 : decode m_Mo_take.2.1 4 = .ok (.istore_n 2, 1) := by decide +kernel
theorem d_Mo_take_5 : decode m_Mo_take.2.1 5 = .ok (.iload_n 2, 1) := by decide +kernel
theorem d_Mo_take_6 : decode m_Mo_take.2.1 6 = .ok (.ifCond .eq 42, 3) := by decide +kernel
theorem d_Mo_take_9 : decode m_Mo_take.2.1 9 = .ok (.aload_n 0, 1) := by decide +kernel
theorem d_Mo_take_10 : decode m_Mo_take.2.1 10 = .ok (.iload_n 1, 1) := by decide +kernel
theorem d_Mo_take_11 : decode m_Mo_take.2.1 11 = .ok (.invokevirtual 227, 3) := by decide +kernel
theorem d_Mo_take_14 : decode m_Mo_take.2.1 14 = .ok (.ifCond .eq 15, 3) := by decide +kernel
theorem d_Mo_take_17 : decode m_Mo_take.2.1 17 = .ok (.aload_n 0, 1) := by decide +kernel
theorem d_Mo_take_18 : decode m_Mo_take.2.1 18 = .ok (.getfield 64, 3) := by decide +kernel
theorem d_Mo_take_21 : decode m_Mo_take.2.1 21 = .ok (.iload_n 1, 1) := by decide +kernel
theorem d_Mo_take_22 : decode m_Mo_take.2.1 22 = .ok (.baload, 1) := by decide +kernel
theorem d_Mo_take_23 : decode m_Mo_take.2.1 23 = .ok (.ifCond .ne 25, 3) := by decide +kernel
theorem d_Mo_take_26 : decode m_Mo_take.2.1 26 = .ok (.goto 18, 3) := by decide +kernel
theorem d_Mo_take_29 : decode m_Mo_take.2.1 29 = .ok (.aload_n 0, 1) := by decide +kernel
theorem d_Mo_take_30 : decode m_Mo_take.2.1 30 = .ok (.getfield 45, 3) := by decide +kernel
theorem d_Mo_take_33 : decode m_Mo_take.2.1 33 = .ok (.iload_n 1, 1) := by decide +kernel
theorem d_Mo_take_34 : decode m_Mo_take.2.1 34 = .ok (.iaload, 1) := by decide +kernel
theorem d_Mo_take_35 : decode m_Mo_take.2.1 35 = .ok (.aload_n 0, 1) := by decide +kernel
theorem d_Mo_take_36 : decode m_Mo_take.2.1 36 = .ok (.getfield 42, 3) := by decide +kernel
theorem d_Mo_take_39 : decode m_Mo_take.2.1 39 = .ok (.iload_n 1, 1) := by decide +kernel
theorem d_Mo_take_40 : decode m_Mo_take.2.1 40 = .ok (.iaload, 1) := by decide +kernel
theorem d_Mo_take_41 : decode m_Mo_take.2.1 41 = .ok (.if_icmp .ge 7, 3) := by decide +kernel
theorem d_Mo_take_44 : decode m_Mo_take.2.1 44 = .ok (.iconst 1, 1) := by decide +kernel
theorem d_Mo_take_45 : decode m_Mo_take.2.1 45 = .ok (.goto 4, 3) := by decide +kernel
theorem d_Mo_take_48 : decode m_Mo_take.2.1 48 = .ok (.iconst 0, 1) := by decide +kernel
theorem d_Mo_take_49 : decode m_Mo_take.2.1 49 = .ok (.istore_n 3, 1) := by decide +kernel
theorem d_Mo_take_50 : decode m_Mo_take.2.1 50 = .ok (.aload_n 0, 1) := by decide +kernel
theorem d_Mo_take_51 : decode m_Mo_take.2.1 51 = .ok (.iload_n 2, 1) := by decide +kernel
theorem d_Mo_take_52 : decode m_Mo_take.2.1 52 = .ok (.ifCond .ne 7, 3) := by decide +kernel
theorem d_Mo_take_55 : decode m_Mo_take.2.1 55 = .ok (.iconst 1, 1) := by decide +kernel
theorem d_Mo_take_56 : decode m_Mo_take.2.1 56 = .ok (.goto 12, 3) := by decide +kernel
theorem d_Mo_take_59 : decode m_Mo_take.2.1 59 = .ok (.iload_n 3, 1) := by decide +kernel
theorem d_Mo_take_60 : decode m_Mo_take.2.1 60 = .ok (.ifCond .ne 7, 3) := by decide +kernel
theorem d_Mo_take_63 : decode m_Mo_take.2.1 63 = .ok (.iconst 2, 1) := by decide +kernel
theorem d_Mo_take_64 : decode m_Mo_take.2.1 64 = .ok (.goto 4, 3) := by decide +kernel
theorem d_Mo_take_67 : decode m_Mo_take.2.1 67 = .ok (.iconst 0, 1) := by decide +kernel
theorem d_Mo_take_68 : decode m_Mo_take.2.1 68 = .ok (.invokevirtual 149, 3) := by decide +kernel
theorem d_Mo_take_71 : decode m_Mo_take.2.1 71 = .ok (.ifCond .ne 5, 3) := by decide +kernel
theorem d_Mo_take_74 : decode m_Mo_take.2.1 74 = .ok (.iconst 0, 1) := by decide +kernel
theorem d_Mo_take_75 : decode m_Mo_take.2.1 75 = .ok (.ireturn, 1) := by decide +kernel
theorem d_Mo_take_76 : decode m_Mo_take.2.1 76 = .ok (.aload_n 0, 1) := by decide +kernel
theorem d_Mo_take_77 : decode m_Mo_take.2.1 77 = .ok (.iload_n 1, 1) := by decide +kernel
theorem d_Mo_take_78 : decode m_Mo_take.2.1 78 = .ok (.invokevirtual 227, 3) := by decide +kernel
theorem d_Mo_take_81 : decode m_Mo_take.2.1 81 = .ok (.ifCond .eq 11, 3) := by decide +kernel
theorem d_Mo_take_84 : decode m_Mo_take.2.1 84 = .ok (.aload_n 0, 1) := by decide +kernel
theorem d_Mo_take_85 : decode m_Mo_take.2.1 85 = .ok (.iload_n 1, 1) := by decide +kernel
theorem d_Mo_take_86 : decode m_Mo_take.2.1 86 = .ok (.invokevirtual 230, 3) := by decide +kernel
theorem d_Mo_take_89 : decode m_Mo_take.2.1 89 = .ok (.goto 8, 3) := by decide +kernel
theorem d_Mo_take_92 : decode m_Mo_take.2.1 92 = .ok (.aload_n 0, 1) := by decide +kernel
theorem d_Mo_take_93 : decode m_Mo_take.2.1 93 = .ok (.iload_n 1, 1) := by decide +kernel
theorem d_Mo_take_94 : decode m_Mo_take.2.1 94 = .ok (.invokevirtual 233, 3) := by decide +kernel
theorem d_Mo_take_97 : decode m_Mo_take.2.1 97 = .ok (.ireturn, 1) := by decide +kernel
theorem d_Mo_copies_0 : decode m_Mo_copies.2.1 0 = .ok (.iconst 0, 1) := by decide +kernel
theorem d_Mo_copies_1 : decode m_Mo_copies.2.1 1 = .ok (.istore_n 1, 1) := by decide +kernel
theorem d_Mo_copies_2 : decode m_Mo_copies.2.1 2 = .ok (.iload_n 1, 1) := by decide +kernel
theorem d_Mo_copies_3 : decode m_Mo_copies.2.1 3 = .ok (.aload_n 0, 1) := by decide +kernel
theorem d_Mo_copies_4 : decode m_Mo_copies.2.1 4 = .ok (.getfield 184, 3) := by decide +kernel
theorem d_Mo_copies_7 : decode m_Mo_copies.2.1 7 = .ok (.if_icmp .ge 81, 3) := by decide +kernel
theorem d_Mo_copies_10 : decode m_Mo_copies.2.1 10 = .ok (.aload_n 0, 1) := by decide +kernel
theorem d_Mo_copies_11 : decode m_Mo_copies.2.1 11 = .ok (.getfield 109, 3) := by decide +kernel
theorem d_Mo_copies_14 : decode m_Mo_copies.2.1 14 = .ok (.iload_n 1, 1) := by decide +kernel
theorem d_Mo_copies_15 : decode m_Mo_copies.2.1 15 = .ok (.aload_n 0, 1) := by decide +kernel
theorem d_Mo_copies_16 : decode m_Mo_copies.2.1 16 = .ok (.getfield 67, 3) := by decide +kernel
theorem d_Mo_copies_19 : decode m_Mo_copies.2.1 19 = .ok (.iload_n 1, 1) := by decide +kernel
theorem d_Mo_copies_20 : decode m_Mo_copies.2.1 20 = .ok (.iaload, 1) := by decide +kernel
theorem d_Mo_copies_21 : decode m_Mo_copies.2.1 21 = .ok (.iastore, 1) := by decide +kernel
theorem d_Mo_copies_22 : decode m_Mo_copies.2.1 22 = .ok (.aload_n 0, 1) := by decide +kernel
theorem d_Mo_copies_23 : decode m_Mo_copies.2.1 23 = .ok (.getfield 112, 3) := by decide +kernel
theorem d_Mo_copies_26 : decode m_Mo_copies.2.1 26 = .ok (.iload_n 1, 1) := by decide +kernel
theorem d_Mo_copies_27 : decode m_Mo_copies.2.1 27 = .ok (.aload_n 0, 1) := by decide +kernel
theorem d_Mo_copies_28 : decode m_Mo_copies.2.1 28 = .ok (.getfield 70, 3) := by decide +kernel
theorem d_Mo_copies_31 : decode m_Mo_copies.2.1 31 = .ok (.iload_n 1, 1) := by decide +kernel
theorem d_Mo_copies_32 : decode m_Mo_copies.2.1 32 = .ok (.iaload, 1) := by decide +kernel
theorem d_Mo_copies_33 : decode m_Mo_copies.2.1 33 = .ok (.iastore, 1) := by decide +kernel
theorem d_Mo_copies_34 : decode m_Mo_copies.2.1 34 = .ok (.aload_n 0, 1) := by decide +kernel
theorem d_Mo_copies_35 : decode m_Mo_copies.2.1 35 = .ok (.getfield 115, 3) := by decide +kernel
theorem d_Mo_copies_38 : decode m_Mo_copies.2.1 38 = .ok (.iload_n 1, 1) := by decide +kernel
theorem d_Mo_copies_39 : decode m_Mo_copies.2.1 39 = .ok (.aload_n 0, 1) := by decide +kernel
theorem d_Mo_copies_40 : decode m_Mo_copies.2.1 40 = .ok (.getfield 73, 3) := by decide +kernel
theorem d_Mo_copies_43 : decode m_Mo_copies.2.1 43 = .ok (.iload_n 1, 1) := by decide +kernel
theorem d_Mo_copies_44 : decode m_Mo_copies.2.1 44 = .ok (.iaload, 1) := by decide +kernel
theorem d_Mo_copies_45 : decode m_Mo_copies.2.1 45 = .ok (.iastore, 1) := by decide +kernel
theorem d_Mo_copies_46 : decode m_Mo_copies.2.1 46 = .ok (.aload_n 0, 1) := by decide +kernel
theorem d_Mo_copies_47 : decode m_Mo_copies.2.1 47 = .ok (.getfield 118, 3) := by decide +kernel
theorem d_Mo_copies_50 : decode m_Mo_copies.2.1 50 = .ok (.iload_n 1, 1) := by decide +kernel
theorem d_Mo_copies_51 : decode m_Mo_copies.2.1 51 = .ok (.aload_n 0, 1) := by decide +kernel
theorem d_Mo_copies_52 : decode m_Mo_copies.2.1 52 = .ok (.getfield 76, 3) := by decide +kernel
theorem d_Mo_copies_55 : decode m_Mo_copies.2.1 55 = .ok (.iload_n 1, 1) := by decide +kernel
theorem d_Mo_copies_56 : decode m_Mo_copies.2.1 56 = .ok (.iaload, 1) := by decide +kernel
theorem d_Mo_copies_57 : decode m_Mo_copies.2.1 57 = .ok (.iastore, 1) := by decide +kernel
theorem d_Mo_copies_58 : decode m_Mo_copies.2.1 58 = .ok (.aload_n 0, 1) := by decide +kernel
theorem d_Mo_copies_59 : decode m_Mo_copies.2.1 59 = .ok (.getfield 121, 3) := by decide +kernel
theorem d_Mo_copies_62 : decode m_Mo_copies.2.1 62 = .ok (.iload_n 1, 1) := by decide +kernel
theorem d_Mo_copies_63 : decode m_Mo_copies.2.1 63 = .ok (.aload_n 0, 1) := by decide +kernel
theorem d_Mo_copies_64 : decode m_Mo_copies.2.1 64 = .ok (.getfield 79, 3) := by decide +kernel
theorem d_Mo_copies_67 : decode m_Mo_copies.2.1 67 = .ok (.iload_n 1, 1) := by decide +kernel
theorem d_Mo_copies_68 : decode m_Mo_copies.2.1 68 = .ok (.iaload, 1) := by decide +kernel
theorem d_Mo_copies_69 : decode m_Mo_copies.2.1 69 = .ok (.iastore, 1) := by decide +kernel
theorem d_Mo_copies_70 : decode m_Mo_copies.2.1 70 = .ok (.aload_n 0, 1) := by decide +kernel
theorem d_Mo_copies_71 : decode m_Mo_copies.2.1 71 = .ok (.getfield 124, 3) := by decide +kernel
theorem d_Mo_copies_74 : decode m_Mo_copies.2.1 74 = .ok (.iload_n 1, 1) := by decide +kernel
theorem d_Mo_copies_75 : decode m_Mo_copies.2.1 75 = .ok (.aload_n 0, 1) := by decide +kernel
theorem d_Mo_copies_76 : decode m_Mo_copies.2.1 76 = .ok (.getfield 82, 3) := by decide +kernel
theorem d_Mo_copies_79 : decode m_Mo_copies.2.1 79 = .ok (.iload_n 1, 1) := by decide +kernel
theorem d_Mo_copies_80 : decode m_Mo_copies.2.1 80 = .ok (.baload, 1) := by decide +kernel
theorem d_Mo_copies_81 : decode m_Mo_copies.2.1 81 = .ok (.bastore, 1) := by decide +kernel
theorem d_Mo_copies_82 : decode m_Mo_copies.2.1 82 = .ok (.iinc 1 1, 3) := by decide +kernel
theorem d_Mo_copies_85 : decode m_Mo_copies.2.1 85 = .ok (.goto (-83), 3) := by decide +kernel
theorem d_Mo_copies_88 : decode m_Mo_copies.2.1 88 = .ok (.aload_n 0, 1) := by decide +kernel
theorem d_Mo_copies_89 : decode m_Mo_copies.2.1 89 = .ok (.aload_n 0, 1) := by decide +kernel
theorem d_Mo_copies_90 : decode m_Mo_copies.2.1 90 = .ok (.getfield 184, 3) := by decide +kernel
theorem d_Mo_copies_93 : decode m_Mo_copies.2.1 93 = .ok (.putfield 236, 3) := by decide +kernel
theorem d_Mo_copies_96 : decode m_Mo_copies.2.1 96 = .ok (.return_, 1) := by decide +kernel
theorem d_Mo_snapshot_0 : decode m_Mo_snapshot.2.1 0 = .ok (.aload_n 0, 1) := by decide +kernel
theorem d_Mo_snapshot_1 : decode m_Mo_snapshot.2.1 1 = .ok (.invokevirtual 239, 3) := by decide +kernel
theorem d_Mo_snapshot_4 : decode m_Mo_snapshot.2.1 4 = .ok (.iconst 0, 1) := by decide +kernel
theorem d_Mo_snapshot_5 : decode m_Mo_snapshot.2.1 5 = .ok (.istore_n 2, 1) := by decide +kernel
theorem d_Mo_snapshot_6 : decode m_Mo_snapshot.2.1 6 = .ok (.iload_n 2, 1) := by decide +kernel
theorem d_Mo_snapshot_7 : decode m_Mo_snapshot.2.1 7 = .ok (.iconst 3, 1) := by decide +kernel
theorem d_Mo_snapshot_8 : decode m_Mo_snapshot.2.1 8 = .ok (.if_icmp .ge 58, 3) := by decide +kernel
theorem d_Mo_snapshot_11 : decode m_Mo_snapshot.2.1 11 = .ok (.aload_n 0, 1) := by decide +kernel
theorem d_Mo_snapshot_12 : decode m_Mo_snapshot.2.1 12 = .ok (.getfield 127, 3) := by decide +kernel
theorem d_Mo_snapshot_15 : decode m_Mo_snapshot.2.1 15 = .ok (.iload_n 2, 1) := by decide +kernel
theorem d_Mo_snapshot_16 : decode m_Mo_snapshot.2.1 16 = .ok (.iload_n 1, 1) := by decide +kernel
theorem d_Mo_snapshot_17 : decode m_Mo_snapshot.2.1 17 = .ok (.ifCond .eq 12, 3) := by decide +kernel
theorem d_Mo_snapshot_20 : decode m_Mo_snapshot.2.1 20 = .ok (.aload_n 0, 1) := by decide +kernel
theorem d_Mo_snapshot_21 : decode m_Mo_snapshot.2.1 21 = .ok (.getfield 42, 3) := by decide +kernel
theorem d_Mo_snapshot_24 : decode m_Mo_snapshot.2.1 24 = .ok (.iload_n 2, 1) := by decide +kernel
theorem d_Mo_snapshot_25 : decode m_Mo_snapshot.2.1 25 = .ok (.iaload, 1) := by decide +kernel
theorem d_Mo_snapshot_26 : decode m_Mo_snapshot.2.1 26 = .ok (.goto 9, 3) := by decide +kernel
theorem d_Mo_snapshot_29 : decode m_Mo_snapshot.2.1 29 = .ok (.aload_n 0, 1) := by decide +kernel
theorem d_Mo_snapshot_30 : decode m_Mo_snapshot.2.1 30 = .ok (.getfield 61, 3) := by decide +kernel
theorem d_Mo_snapshot_33 : decode m_Mo_snapshot.2.1 33 = .ok (.iload_n 2, 1) := by decide +kernel
theorem d_Mo_snapshot_34 : decode m_Mo_snapshot.2.1 34 = .ok (.iaload, 1) := by decide +kernel
theorem d_Mo_snapshot_35 : decode m_Mo_snapshot.2.1 35 = .ok (.iastore, 1) := by decide +kernel
theorem d_Mo_snapshot_36 : decode m_Mo_snapshot.2.1 36 = .ok (.aload_n 0, 1) := by decide +kernel
theorem d_Mo_snapshot_37 : decode m_Mo_snapshot.2.1 37 = .ok (.getfield 130, 3) := by decide +kernel
theorem d_Mo_snapshot_40 : decode m_Mo_snapshot.2.1 40 = .ok (.iload_n 2, 1) := by decide +kernel
theorem d_Mo_snapshot_41 : decode m_Mo_snapshot.2.1 41 = .ok (.aload_n 0, 1) := by decide +kernel
theorem d_Mo_snapshot_42 : decode m_Mo_snapshot.2.1 42 = .ok (.getfield 45, 3) := by decide +kernel
theorem d_Mo_snapshot_45 : decode m_Mo_snapshot.2.1 45 = .ok (.iload_n 2, 1) := by decide +kernel
theorem d_Mo_snapshot_46 : decode m_Mo_snapshot.2.1 46 = .ok (.iaload, 1) := by decide +kernel
theorem d_Mo_snapshot_47 : decode m_Mo_snapshot.2.1 47 = .ok (.iastore, 1) := by decide +kernel
theorem d_Mo_snapshot_48 : decode m_Mo_snapshot.2.1 48 = .ok (.aload_n 0, 1) := by decide +kernel
theorem d_Mo_snapshot_49 : decode m_Mo_snapshot.2.1 49 = .ok (.getfield 133, 3) := by decide +kernel
theorem d_Mo_snapshot_52 : decode m_Mo_snapshot.2.1 52 = .ok (.iload_n 2, 1) := by decide +kernel
theorem d_Mo_snapshot_53 : decode m_Mo_snapshot.2.1 53 = .ok (.aload_n 0, 1) := by decide +kernel
theorem d_Mo_snapshot_54 : decode m_Mo_snapshot.2.1 54 = .ok (.getfield 55, 3) := by decide +kernel
theorem d_Mo_snapshot_57 : decode m_Mo_snapshot.2.1 57 = .ok (.iload_n 2, 1) := by decide +kernel
theorem d_Mo_snapshot_58 : decode m_Mo_snapshot.2.1 58 = .ok (.iaload, 1) := by decide +kernel
theorem d_Mo_snapshot_59 : decode m_Mo_snapshot.2.1 59 = .ok (.iastore, 1) := by decide +kernel
theorem d_Mo_snapshot_60 : decode m_Mo_snapshot.2.1 60 = .ok (.iinc 2 1, 3) := by decide +kernel
theorem d_Mo_snapshot_63 : decode m_Mo_snapshot.2.1 63 = .ok (.goto (-57), 3) := by decide +kernel
theorem d_Mo_snapshot_66 : decode m_Mo_snapshot.2.1 66 = .ok (.aload_n 0, 1) := by decide +kernel
theorem d_Mo_snapshot_67 : decode m_Mo_snapshot.2.1 67 = .ok (.aload_n 0, 1) := by decide +kernel
theorem d_Mo_snapshot_68 : decode m_Mo_snapshot.2.1 68 = .ok (.getfield 58, 3) := by decide +kernel
theorem d_Mo_snapshot_71 : decode m_Mo_snapshot.2.1 71 = .ok (.putfield 136, 3) := by decide +kernel
theorem d_Mo_snapshot_74 : decode m_Mo_snapshot.2.1 74 = .ok (.aload_n 0, 1) := by decide +kernel
theorem d_Mo_snapshot_75 : decode m_Mo_snapshot.2.1 75 = .ok (.aload_n 0, 1) := by decide +kernel
theorem d_Mo_snapshot_76 : decode m_Mo_snapshot.2.1 76 = .ok (.getfield 214, 3) := by decide +kernel
theorem d_Mo_snapshot_79 : decode m_Mo_snapshot.2.1 79 = .ok (.putfield 242, 3) := by decide +kernel
theorem d_Mo_snapshot_82 : decode m_Mo_snapshot.2.1 82 = .ok (.aload_n 0, 1) := by decide +kernel
theorem d_Mo_snapshot_83 : decode m_Mo_snapshot.2.1 83 = .ok (.aload_n 0, 1) := by decide +kernel
theorem d_Mo_snapshot_84 : decode m_Mo_snapshot.2.1 84 = .ok (.getfield 217, 3) := by decide +kernel
theorem d_Mo_snapshot_87 : decode m_Mo_snapshot.2.1 87 = .ok (.putfield 245, 3) := by decide +kernel
theorem d_Mo_snapshot_90 : decode m_Mo_snapshot.2.1 90 = .ok (.aload_n 0, 1) := by decide +kernel
theorem d_Mo_snapshot_91 : decode m_Mo_snapshot.2.1 91 = .ok (.aload_n 0, 1) := by decide +kernel
theorem d_Mo_snapshot_92 : decode m_Mo_snapshot.2.1 92 = .ok (.getfield 169, 3) := by decide +kernel
theorem d_Mo_snapshot_95 : decode m_Mo_snapshot.2.1 95 = .ok (.putfield 248, 3) := by decide +kernel
theorem d_Mo_snapshot_98 : decode m_Mo_snapshot.2.1 98 = .ok (.aload_n 0, 1) := by decide +kernel
theorem d_Mo_snapshot_99 : decode m_Mo_snapshot.2.1 99 = .ok (.iconst 1, 1) := by decide +kernel
theorem d_Mo_snapshot_100 : decode m_Mo_snapshot.2.1 100 = .ok (.putfield 251, 3) := by decide +kernel
theorem d_Mo_snapshot_103 : decode m_Mo_snapshot.2.1 103 = .ok (.aload_n 0, 1) := by decide +kernel
theorem d_Mo_snapshot_104 : decode m_Mo_snapshot.2.1 104 = .ok (.dup, 1) := by decide +kernel
theorem d_Mo_snapshot_105 : decode m_Mo_snapshot.2.1 105 = .ok (.getfield 254, 3) := by decide +kernel
theorem d_Mo_snapshot_108 : decode m_Mo_snapshot.2.1 108 = .ok (.iconst 1, 1) := by decide +kernel
theorem d_Mo_snapshot_109 : decode m_Mo_snapshot.2.1 109 = .ok (.iadd, 1) := by decide +kernel
theorem d_Mo_snapshot_110 : decode m_Mo_snapshot.2.1 110 = .ok (.putfield 254, 3) := by decide +kernel
theorem d_Mo_snapshot_113 : decode m_Mo_snapshot.2.1 113 = .ok (.return_, 1) := by decide +kernel
theorem d_Mo_barrier_0 : decode m_Mo_barrier.2.1 0 = .ok (.aload_n 0, 1) := by decide +kernel
theorem d_Mo_barrier_1 : decode m_Mo_barrier.2.1 1 = .ok (.aload_n 0, 1) := by decide +kernel
theorem d_Mo_barrier_2 : decode m_Mo_barrier.2.1 2 = .ok (.getfield 220, 3) := by decide +kernel
theorem d_Mo_barrier_5 : decode m_Mo_barrier.2.1 5 = .ok (.ifCond .eq 7, 3) := by decide +kernel
theorem d_Mo_barrier_8 : decode m_Mo_barrier.2.1 8 = .ok (.iconst 1, 1) := by decide +kernel
theorem d_Mo_barrier_9 : decode m_Mo_barrier.2.1 9 = .ok (.goto 4, 3) := by decide +kernel
theorem d_Mo_barrier_12 : decode m_Mo_barrier.2.1 12 = .ok (.iconst 0, 1) := by decide +kernel
theorem d_Mo_barrier_13 : decode m_Mo_barrier.2.1 13 = .ok (.invokevirtual 149, 3) := by decide +kernel
theorem d_Mo_barrier_16 : decode m_Mo_barrier.2.1 16 = .ok (.ifCond .ne 5, 3) := by decide +kernel
theorem d_Mo_barrier_19 : decode m_Mo_barrier.2.1 19 = .ok (.iconst 0, 1) := by decide +kernel
theorem d_Mo_barrier_20 : decode m_Mo_barrier.2.1 20 = .ok (.ireturn, 1) := by decide +kernel
theorem d_Mo_barrier_21 : decode m_Mo_barrier.2.1 21 = .ok (.aload_n 0, 1) := by decide +kernel
theorem d_Mo_barrier_22 : decode m_Mo_barrier.2.1 22 = .ok (.iconst 1, 1) := by decide +kernel
theorem d_Mo_barrier_23 : decode m_Mo_barrier.2.1 23 = .ok (.putfield 146, 3) := by decide +kernel
theorem d_Mo_barrier_26 : decode m_Mo_barrier.2.1 26 = .ok (.aload_n 0, 1) := by decide +kernel
theorem d_Mo_barrier_27 : decode m_Mo_barrier.2.1 27 = .ok (.getfield 22, 3) := by decide +kernel
theorem d_Mo_barrier_30 : decode m_Mo_barrier.2.1 30 = .ok (.ifCond .eq 43, 3) := by decide +kernel
theorem d_Mo_barrier_33 : decode m_Mo_barrier.2.1 33 = .ok (.aload_n 0, 1) := by decide +kernel
theorem d_Mo_barrier_34 : decode m_Mo_barrier.2.1 34 = .ok (.iconst 1, 1) := by decide +kernel
theorem d_Mo_barrier_35 : decode m_Mo_barrier.2.1 35 = .ok (.putfield 220, 3) := by decide +kernel
theorem d_Mo_barrier_38 : decode m_Mo_barrier.2.1 38 = .ok (.iconst 0, 1) := by decide +kernel
theorem d_Mo_barrier_39 : decode m_Mo_barrier.2.1 39 = .ok (.istore_n 1, 1) := by decide +kernel
theorem d_Mo_barrier_40 : decode m_Mo_barrier.2.1 40 = .ok (.iload_n 1, 1) := by decide +kernel
theorem d_Mo_barrier_41 : decode m_Mo_barrier.2.1 41 = .ok (.iconst 3, 1) := by decide +kernel
theorem d_Mo_barrier_42 : decode m_Mo_barrier.2.1 42 = .ok (.if_icmp .ge 28, 3) := by decide +kernel
theorem d_Mo_barrier_45 : decode m_Mo_barrier.2.1 45 = .ok (.aload_n 0, 1) := by decide +kernel
theorem d_Mo_barrier_46 : decode m_Mo_barrier.2.1 46 = .ok (.getfield 61, 3) := by decide +kernel
theorem d_Mo_barrier_49 : decode m_Mo_barrier.2.1 49 = .ok (.iload_n 1, 1) := by decide +kernel
theorem d_Mo_barrier_50 : decode m_Mo_barrier.2.1 50 = .ok (.aload_n 0, 1) := by decide +kernel
theorem d_Mo_barrier_51 : decode m_Mo_barrier.2.1 51 = .ok (.getfield 42, 3) := by decide +kernel
theorem d_Mo_barrier_54 : decode m_Mo_barrier.2.1 54 = .ok (.iload_n 1, 1) := by decide +kernel
theorem d_Mo_barrier_55 : decode m_Mo_barrier.2.1 55 = .ok (.iaload, 1) := by decide +kernel
theorem d_Mo_barrier_56 : decode m_Mo_barrier.2.1 56 = .ok (.iastore, 1) := by decide +kernel
theorem d_Mo_barrier_57 : decode m_Mo_barrier.2.1 57 = .ok (.aload_n 0, 1) := by decide +kernel
theorem d_Mo_barrier_58 : decode m_Mo_barrier.2.1 58 = .ok (.getfield 64, 3) := by decide +kernel
theorem d_Mo_barrier_61 : decode m_Mo_barrier.2.1 61 = .ok (.iload_n 1, 1) := by decide +kernel
theorem d_Mo_barrier_62 : decode m_Mo_barrier.2.1 62 = .ok (.iconst 0, 1) := by decide +kernel
theorem d_Mo_barrier_63 : decode m_Mo_barrier.2.1 63 = .ok (.bastore, 1) := by decide +kernel
theorem d_Mo_barrier_64 : decode m_Mo_barrier.2.1 64 = .ok (.iinc 1 1, 3) := by decide +kernel
theorem d_Mo_barrier_67 : decode m_Mo_barrier.2.1 67 = .ok (.goto (-27), 3) := by decide +kernel
theorem d_Mo_barrier_70 : decode m_Mo_barrier.2.1 70 = .ok (.goto 8, 3) := by decide +kernel
theorem d_Mo_barrier_73 : decode m_Mo_barrier.2.1 73 = .ok (.aload_n 0, 1) := by decide +kernel
theorem d_Mo_barrier_74 : decode m_Mo_barrier.2.1 74 = .ok (.iconst 1, 1) := by decide +kernel
theorem d_Mo_barrier_75 : decode m_Mo_barrier.2.1 75 = .ok (.invokevirtual 223, 3) := by decide +kernel
theorem d_Mo_barrier_78 : decode m_Mo_barrier.2.1 78 = .ok (.aload_n 0, 1) := by decide +kernel
theorem d_Mo_barrier_79 : decode m_Mo_barrier.2.1 79 = .ok (.getfield 254, 3) := by decide +kernel
theorem d_Mo_barrier_82 : decode m_Mo_barrier.2.1 82 = .ok (.ireturn, 1) := by decide +kernel
theorem d_Mo_confirm_0 : decode m_Mo_confirm.2.1 0 = .ok (.aload_n 0, 1) := by decide +kernel
theorem d_Mo_confirm_1 : decode m_Mo_confirm.2.1 1 = .ok (.aload_n 0, 1) := by decide +kernel
theorem d_Mo_confirm_2 : decode m_Mo_confirm.2.1 2 = .ok (.getfield 251, 3) := by decide +kernel
theorem d_Mo_confirm_5 : decode m_Mo_confirm.2.1 5 = .ok (.ifCond .eq 7, 3) := by decide +kernel
theorem d_Mo_confirm_8 : decode m_Mo_confirm.2.1 8 = .ok (.iconst 0, 1) := by decide +kernel
theorem d_Mo_confirm_9 : decode m_Mo_confirm.2.1 9 = .ok (.goto 4, 3) := by decide +kernel
theorem d_Mo_confirm_12 : decode m_Mo_confirm.2.1 12 = .ok (.iconst 1, 1) := by decide +kernel
theorem d_Mo_confirm_13 : decode m_Mo_confirm.2.1 13 = .ok (.invokevirtual 149, 3) := by decide +kernel
theorem d_Mo_confirm_16 : decode m_Mo_confirm.2.1 16 = .ok (.ifCond .ne 5, 3) := by decide +kernel
theorem d_Mo_confirm_19 : decode m_Mo_confirm.2.1 19 = .ok (.iconst 0, 1) := by decide +kernel
theorem d_Mo_confirm_20 : decode m_Mo_confirm.2.1 20 = .ok (.ireturn, 1) := by decide +kernel
theorem d_Mo_confirm_21 : decode m_Mo_confirm.2.1 21 = .ok (.aload_n 0, 1) := by decide +kernel
theorem d_Mo_confirm_22 : decode m_Mo_confirm.2.1 22 = .ok (.iconst 0, 1) := by decide +kernel
theorem d_Mo_confirm_23 : decode m_Mo_confirm.2.1 23 = .ok (.putfield 251, 3) := by decide +kernel
theorem d_Mo_confirm_26 : decode m_Mo_confirm.2.1 26 = .ok (.aload_n 0, 1) := by decide +kernel
theorem d_Mo_confirm_27 : decode m_Mo_confirm.2.1 27 = .ok (.aload_n 0, 1) := by decide +kernel
theorem d_Mo_confirm_28 : decode m_Mo_confirm.2.1 28 = .ok (.getfield 248, 3) := by decide +kernel
theorem d_Mo_confirm_31 : decode m_Mo_confirm.2.1 31 = .ok (.putfield 257, 3) := by decide +kernel
theorem d_Mo_confirm_34 : decode m_Mo_confirm.2.1 34 = .ok (.aload_n 0, 1) := by decide +kernel
theorem d_Mo_confirm_35 : decode m_Mo_confirm.2.1 35 = .ok (.getfield 257, 3) := by decide +kernel
theorem d_Mo_confirm_38 : decode m_Mo_confirm.2.1 38 = .ok (.ireturn, 1) := by decide +kernel
theorem d_Mo_restores_0 : decode m_Mo_restores.2.1 0 = .ok (.iconst 0, 1) := by decide +kernel
theorem d_Mo_restores_1 : decode m_Mo_restores.2.1 1 = .ok (.istore_n 1, 1) := by decide +kernel
theorem d_Mo_restores_2 : decode m_Mo_restores.2.1 2 = .ok (.iload_n 1, 1) := by decide +kernel
theorem d_Mo_restores_3 : decode m_Mo_restores.2.1 3 = .ok (.aload_n 0, 1) := by decide +kernel
theorem d_Mo_restores_4 : decode m_Mo_restores.2.1 4 = .ok (.getfield 236, 3) := by decide +kernel
theorem d_Mo_restores_7 : decode m_Mo_restores.2.1 7 = .ok (.if_icmp .ge 81, 3) := by decide +kernel
theorem d_Mo_restores_10 : decode m_Mo_restores.2.1 10 = .ok (.aload_n 0, 1) := by decide +kernel
theorem d_Mo_restores_11 : decode m_Mo_restores.2.1 11 = .ok (.getfield 67, 3) := by decide +kernel
theorem d_Mo_restores_14 : decode m_Mo_restores.2.1 14 = .ok (.iload_n 1, 1) := by decide +kernel
theorem d_Mo_restores_15 : decode m_Mo_restores.2.1 15 = .ok (.aload_n 0, 1) := by decide +kernel
theorem d_Mo_restores_16 : decode m_Mo_restores.2.1 16 = .ok (.getfield 109, 3) := by decide +kernel
theorem d_Mo_restores_19 : decode m_Mo_restores.2.1 19 = .ok (.iload_n 1, 1) := by decide +kernel
theorem d_Mo_restores_20 : decode m_Mo_restores.2.1 20 = .ok (.iaload, 1) := by decide +kernel
theorem d_Mo_restores_21 : decode m_Mo_restores.2.1 21 = .ok (.iastore, 1) := by decide +kernel
theorem d_Mo_restores_22 : decode m_Mo_restores.2.1 22 = .ok (.aload_n 0, 1) := by decide +kernel
theorem d_Mo_restores_23 : decode m_Mo_restores.2.1 23 = .ok (.getfield 70, 3) := by decide +kernel
theorem d_Mo_restores_26 : decode m_Mo_restores.2.1 26 = .ok (.iload_n 1, 1) := by decide +kernel
theorem d_Mo_restores_27 : decode m_Mo_restores.2.1 27 = .ok (.aload_n 0, 1) := by decide +kernel
theorem d_Mo_restores_28 : decode m_Mo_restores.2.1 28 = .ok (.getfield 112, 3) := by decide +kernel
theorem d_Mo_restores_31 : decode m_Mo_restores.2.1 31 = .ok (.iload_n 1, 1) := by decide +kernel
theorem d_Mo_restores_32 : decode m_Mo_restores.2.1 32 = .ok (.iaload, 1) := by decide +kernel
theorem d_Mo_restores_33 : decode m_Mo_restores.2.1 33 = .ok (.iastore, 1) := by decide +kernel
theorem d_Mo_restores_34 : decode m_Mo_restores.2.1 34 = .ok (.aload_n 0, 1) := by decide +kernel
theorem d_Mo_restores_35 : decode m_Mo_restores.2.1 35 = .ok (.getfield 73, 3) := by decide +kernel
theorem d_Mo_restores_38 : decode m_Mo_restores.2.1 38 = .ok (.iload_n 1, 1) := by decide +kernel
theorem d_Mo_restores_39 : decode m_Mo_restores.2.1 39 = .ok (.aload_n 0, 1) := by decide +kernel
theorem d_Mo_restores_40 : decode m_Mo_restores.2.1 40 = .ok (.getfield 115, 3) := by decide +kernel
theorem d_Mo_restores_43 : decode m_Mo_restores.2.1 43 = .ok (.iload_n 1, 1) := by decide +kernel
theorem d_Mo_restores_44 : decode m_Mo_restores.2.1 44 = .ok (.iaload, 1) := by decide +kernel
theorem d_Mo_restores_45 : decode m_Mo_restores.2.1 45 = .ok (.iastore, 1) := by decide +kernel
theorem d_Mo_restores_46 : decode m_Mo_restores.2.1 46 = .ok (.aload_n 0, 1) := by decide +kernel
theorem d_Mo_restores_47 : decode m_Mo_restores.2.1 47 = .ok (.getfield 76, 3) := by decide +kernel
theorem d_Mo_restores_50 : decode m_Mo_restores.2.1 50 = .ok (.iload_n 1, 1) := by decide +kernel
theorem d_Mo_restores_51 : decode m_Mo_restores.2.1 51 = .ok (.aload_n 0, 1) := by decide +kernel
theorem d_Mo_restores_52 : decode m_Mo_restores.2.1 52 = .ok (.getfield 118, 3) := by decide +kernel
theorem d_Mo_restores_55 : decode m_Mo_restores.2.1 55 = .ok (.iload_n 1, 1) := by decide +kernel
theorem d_Mo_restores_56 : decode m_Mo_restores.2.1 56 = .ok (.iaload, 1) := by decide +kernel
theorem d_Mo_restores_57 : decode m_Mo_restores.2.1 57 = .ok (.iastore, 1) := by decide +kernel
theorem d_Mo_restores_58 : decode m_Mo_restores.2.1 58 = .ok (.aload_n 0, 1) := by decide +kernel
theorem d_Mo_restores_59 : decode m_Mo_restores.2.1 59 = .ok (.getfield 79, 3) := by decide +kernel
theorem d_Mo_restores_62 : decode m_Mo_restores.2.1 62 = .ok (.iload_n 1, 1) := by decide +kernel
theorem d_Mo_restores_63 : decode m_Mo_restores.2.1 63 = .ok (.aload_n 0, 1) := by decide +kernel
theorem d_Mo_restores_64 : decode m_Mo_restores.2.1 64 = .ok (.getfield 121, 3) := by decide +kernel
theorem d_Mo_restores_67 : decode m_Mo_restores.2.1 67 = .ok (.iload_n 1, 1) := by decide +kernel
theorem d_Mo_restores_68 : decode m_Mo_restores.2.1 68 = .ok (.iaload, 1) := by decide +kernel
theorem d_Mo_restores_69 : decode m_Mo_restores.2.1 69 = .ok (.iastore, 1) := by decide +kernel
theorem d_Mo_restores_70 : decode m_Mo_restores.2.1 70 = .ok (.aload_n 0, 1) := by decide +kernel
theorem d_Mo_restores_71 : decode m_Mo_restores.2.1 71 = .ok (.getfield 82, 3) := by decide +kernel
theorem d_Mo_restores_74 : decode m_Mo_restores.2.1 74 = .ok (.iload_n 1, 1) := by decide +kernel
theorem d_Mo_restores_75 : decode m_Mo_restores.2.1 75 = .ok (.aload_n 0, 1) := by decide +kernel
theorem d_Mo_restores_76 : decode m_Mo_restores.2.1 76 = .ok (.getfield 124, 3) := by decide +kernel
theorem d_Mo_restores_79 : decode m_Mo_restores.2.1 79 = .ok (.iload_n 1, 1) := by decide +kernel
theorem d_Mo_restores_80 : decode m_Mo_restores.2.1 80 = .ok (.baload, 1) := by decide +kernel
theorem d_Mo_restores_81 : decode m_Mo_restores.2.1 81 = .ok (.bastore, 1) := by decide +kernel
theorem d_Mo_restores_82 : decode m_Mo_restores.2.1 82 = .ok (.iinc 1 1, 3) := by decide +kernel
theorem d_Mo_restores_85 : decode m_Mo_restores.2.1 85 = .ok (.goto (-83), 3) := by decide +kernel
theorem d_Mo_restores_88 : decode m_Mo_restores.2.1 88 = .ok (.aload_n 0, 1) := by decide +kernel
theorem d_Mo_restores_89 : decode m_Mo_restores.2.1 89 = .ok (.aload_n 0, 1) := by decide +kernel
theorem d_Mo_restores_90 : decode m_Mo_restores.2.1 90 = .ok (.getfield 236, 3) := by decide +kernel
theorem d_Mo_restores_93 : decode m_Mo_restores.2.1 93 = .ok (.putfield 184, 3) := by decide +kernel
theorem d_Mo_restores_96 : decode m_Mo_restores.2.1 96 = .ok (.iconst 0, 1) := by decide +kernel
theorem d_Mo_restores_97 : decode m_Mo_restores.2.1 97 = .ok (.istore_n 1, 1) := by decide +kernel
theorem d_Mo_restores_98 : decode m_Mo_restores.2.1 98 = .ok (.iload_n 1, 1) := by decide +kernel
theorem d_Mo_restores_99 : decode m_Mo_restores.2.1 99 = .ok (.iconst 3, 1) := by decide +kernel
theorem d_Mo_restores_100 : decode m_Mo_restores.2.1 100 = .ok (.if_icmp .ge 45, 3) := by decide +kernel
theorem d_Mo_restores_103 : decode m_Mo_restores.2.1 103 = .ok (.aload_n 0, 1) := by decide +kernel
theorem d_Mo_restores_104 : decode m_Mo_restores.2.1 104 = .ok (.getfield 42, 3) := by decide +kernel
theorem d_Mo_restores_107 : decode m_Mo_restores.2.1 107 = .ok (.iload_n 1, 1) := by decide +kernel
theorem d_Mo_restores_108 : decode m_Mo_restores.2.1 108 = .ok (.aload_n 0, 1) := by decide +kernel
theorem d_Mo_restores_109 : decode m_Mo_restores.2.1 109 = .ok (.getfield 127, 3) := by decide +kernel
theorem d_Mo_restores_112 : decode m_Mo_restores.2.1 112 = .ok (.iload_n 1, 1) := by decide +kernel
theorem d_Mo_restores_113 : decode m_Mo_restores.2.1 113 = .ok (.iaload, 1) := by decide +kernel
theorem d_Mo_restores_114 : decode m_Mo_restores.2.1 114 = .ok (.iastore, 1) := by decide +kernel
theorem d_Mo_restores_115 : decode m_Mo_restores.2.1 115 = .ok (.aload_n 0, 1) := by decide +kernel
theorem d_Mo_restores_116 : decode m_Mo_restores.2.1 116 = .ok (.getfield 45, 3) := by decide +kernel
theorem d_Mo_restores_119 : decode m_Mo_restores.2.1 119 = .ok (.iload_n 1, 1) := by decide +kernel
theorem d_Mo_restores_120 : decode m_Mo_restores.2.1 120 = .ok (.aload_n 0, 1) := by decide +kernel
theorem d_Mo_restores_121 : decode m_Mo_restores.2.1 121 = .ok (.getfield 130, 3) := by decide +kernel
theorem d_Mo_restores_124 : decode m_Mo_restores.2.1 124 = .ok (.iload_n 1, 1) := by decide +kernel
theorem d_Mo_restores_125 : decode m_Mo_restores.2.1 125 = .ok (.iaload, 1) := by decide +kernel
theorem d_Mo_restores_126 : decode m_Mo_restores.2.1 126 = .ok (.iastore, 1) := by decide +kernel
theorem d_Mo_restores_127 : decode m_Mo_restores.2.1 127 = .ok (.aload_n 0, 1) := by decide +kernel
theorem d_Mo_restores_128 : decode m_Mo_restores.2.1 128 = .ok (.getfield 55, 3) := by decide +kernel
theorem d_Mo_restores_131 : decode m_Mo_restores.2.1 131 = .ok (.iload_n 1, 1) := by decide +kernel
theorem d_Mo_restores_132 : decode m_Mo_restores.2.1 132 = .ok (.aload_n 0, 1) := by decide +kernel
theorem d_Mo_restores_133 : decode m_Mo_restores.2.1 133 = .ok (.getfield 133, 3) := by decide +kernel
theorem d_Mo_restores_136 : decode m_Mo_restores.2.1 136 = .ok (.iload_n 1, 1) := by decide +kernel
theorem d_Mo_restores_137 : decode m_Mo_restores.2.1 137 = .ok (.iaload, 1) := by decide +kernel
theorem d_Mo_restores_138 : decode m_Mo_restores.2.1 138 = .ok (.iastore, 1) := by decide +kernel
theorem d_Mo_restores_139 : decode m_Mo_restores.2.1 139 = .ok (.iinc 1 1, 3) := by decide +kernel
theorem d_Mo_restores_142 : decode m_Mo_restores.2.1 142 = .ok (.goto (-44), 3) := by decide +kernel
theorem d_Mo_restores_145 : decode m_Mo_restores.2.1 145 = .ok (.aload_n 0, 1) := by decide +kernel
theorem d_Mo_restores_146 : decode m_Mo_restores.2.1 146 = .ok (.aload_n 0, 1) := by decide +kernel
theorem d_Mo_restores_147 : decode m_Mo_restores.2.1 147 = .ok (.getfield 136, 3) := by decide +kernel
theorem d_Mo_restores_150 : decode m_Mo_restores.2.1 150 = .ok (.putfield 58, 3) := by decide +kernel
theorem d_Mo_restores_153 : decode m_Mo_restores.2.1 153 = .ok (.aload_n 0, 1) := by decide +kernel
theorem d_Mo_restores_154 : decode m_Mo_restores.2.1 154 = .ok (.aload_n 0, 1) := by decide +kernel
theorem d_Mo_restores_155 : decode m_Mo_restores.2.1 155 = .ok (.getfield 242, 3) := by decide +kernel
theorem d_Mo_restores_158 : decode m_Mo_restores.2.1 158 = .ok (.putfield 214, 3) := by decide +kernel
theorem d_Mo_restores_161 : decode m_Mo_restores.2.1 161 = .ok (.aload_n 0, 1) := by decide +kernel
theorem d_Mo_restores_162 : decode m_Mo_restores.2.1 162 = .ok (.aload_n 0, 1) := by decide +kernel
theorem d_Mo_restores_163 : decode m_Mo_restores.2.1 163 = .ok (.getfield 245, 3) := by decide +kernel
theorem d_Mo_restores_166 : decode m_Mo_restores.2.1 166 = .ok (.putfield 217, 3) := by decide +kernel
theorem d_Mo_restores_169 : decode m_Mo_restores.2.1 169 = .ok (.aload_n 0, 1) := by decide +kernel
theorem d_Mo_restores_170 : decode m_Mo_restores.2.1 170 = .ok (.iconst 0, 1) := by decide +kernel
theorem d_Mo_restores_171 : decode m_Mo_restores.2.1 171 = .ok (.putfield 220, 3) := by decide +kernel
theorem d_Mo_restores_174 : decode m_Mo_restores.2.1 174 = .ok (.aload_n 0, 1) := by decide +kernel
theorem d_Mo_restores_175 : decode m_Mo_restores.2.1 175 = .ok (.aload_n 0, 1) := by decide +kernel
theorem d_Mo_restores_176 : decode m_Mo_restores.2.1 176 = .ok (.getfield 248, 3) := by decide +kernel
theorem d_Mo_restores_179 : decode m_Mo_restores.2.1 179 = .ok (.putfield 169, 3) := by decide +kernel
theorem d_Mo_restores_182 : decode m_Mo_restores.2.1 182 = .ok (.aload_n 0, 1) := by decide +kernel
theorem d_Mo_restores_183 : decode m_Mo_restores.2.1 183 = .ok (.aload_n 0, 1) := by decide +kernel
theorem d_Mo_restores_184 : decode m_Mo_restores.2.1 184 = .ok (.getfield 248, 3) := by decide +kernel
theorem d_Mo_restores_187 : decode m_Mo_restores.2.1 187 = .ok (.putfield 257, 3) := by decide +kernel
theorem d_Mo_restores_190 : decode m_Mo_restores.2.1 190 = .ok (.aload_n 0, 1) := by decide +kernel
theorem d_Mo_restores_191 : decode m_Mo_restores.2.1 191 = .ok (.iconst 0, 1) := by decide +kernel
theorem d_Mo_restores_192 : decode m_Mo_restores.2.1 192 = .ok (.putfield 251, 3) := by decide +kernel
theorem d_Mo_restores_195 : decode m_Mo_restores.2.1 195 = .ok (.aload_n 0, 1) := by decide +kernel
theorem d_Mo_restores_196 : decode m_Mo_restores.2.1 196 = .ok (.invokevirtual 162, 3) := by decide +kernel
theorem d_Mo_restores_199 : decode m_Mo_restores.2.1 199 = .ok (.return_, 1) := by decide +kernel
theorem d_Mo_fail_0 : decode m_Mo_fail.2.1 0 = .ok (.aload_n 0, 1) := by decide +kernel
theorem d_Mo_fail_1 : decode m_Mo_fail.2.1 1 = .ok (.iconst 0, 1) := by decide +kernel
theorem d_Mo_fail_2 : decode m_Mo_fail.2.1 2 = .ok (.putfield 139, 3) := by decide +kernel
theorem d_Mo_fail_5 : decode m_Mo_fail.2.1 5 = .ok (.aload_n 0, 1) := by decide +kernel
theorem d_Mo_fail_6 : decode m_Mo_fail.2.1 6 = .ok (.invokevirtual 260, 3) := by decide +kernel
theorem d_Mo_fail_9 : decode m_Mo_fail.2.1 9 = .ok (.aload_n 0, 1) := by decide +kernel
theorem d_Mo_fail_10 : decode m_Mo_fail.2.1 10 = .ok (.getfield 257, 3) := by decide +kernel
theorem d_Mo_fail_13 : decode m_Mo_fail.2.1 13 = .ok (.ireturn, 1) := by decide +kernel
theorem d_Mo_workers_0 : decode m_Mo_workers.2.1 0 = .ok (.aload_n 0, 1) := by decide +kernel
theorem d_Mo_workers_1 : decode m_Mo_workers.2.1 1 = .ok (.iload_n 1, 1) := by decide +kernel
theorem d_Mo_workers_2 : decode m_Mo_workers.2.1 2 = .ok (.iconst 1, 1) := by decide +kernel
theorem d_Mo_workers_3 : decode m_Mo_workers.2.1 3 = .ok (.iconst 3, 1) := by decide +kernel
theorem d_Mo_workers_4 : decode m_Mo_workers.2.1 4 = .ok (.invokestatic 142, 3) := by decide +kernel
theorem d_Mo_workers_7 : decode m_Mo_workers.2.1 7 = .ok (.ifCond .ne 7, 3) := by decide +kernel
theorem d_Mo_workers_10 : decode m_Mo_workers.2.1 10 = .ok (.iconst 1, 1) := by decide +kernel
theorem d_Mo_workers_11 : decode m_Mo_workers.2.1 11 = .ok (.goto 15, 3) := by decide +kernel
theorem d_Mo_workers_14 : decode m_Mo_workers.2.1 14 = .ok (.aload_n 0, 1) := by decide +kernel
theorem d_Mo_workers_15 : decode m_Mo_workers.2.1 15 = .ok (.getfield 254, 3) := by decide +kernel
theorem d_Mo_workers_18 : decode m_Mo_workers.2.1 18 = .ok (.ifCond .ne 7, 3) := by decide +kernel
theorem d_Mo_workers_21 : decode m_Mo_workers.2.1 21 = .ok (.iconst 2, 1) := by decide +kernel
theorem d_Mo_workers_22 : decode m_Mo_workers.2.1 22 = .ok (.goto 4, 3) := by decide +kernel
theorem d_Mo_workers_25 : decode m_Mo_workers.2.1 25 = .ok (.iconst 0, 1) := by decide +kernel
theorem d_Mo_workers_26 : decode m_Mo_workers.2.1 26 = .ok (.invokevirtual 149, 3) := by decide +kernel
theorem d_Mo_workers_29 : decode m_Mo_workers.2.1 29 = .ok (.ifCond .ne 5, 3) := by decide +kernel
theorem d_Mo_workers_32 : decode m_Mo_workers.2.1 32 = .ok (.iconst 0, 1) := by decide +kernel
theorem d_Mo_workers_33 : decode m_Mo_workers.2.1 33 = .ok (.ireturn, 1) := by decide +kernel
theorem d_Mo_workers_34 : decode m_Mo_workers.2.1 34 = .ok (.iconst 0, 1) := by decide +kernel
theorem d_Mo_workers_35 : decode m_Mo_workers.2.1 35 = .ok (.istore_n 2, 1) := by decide +kernel
theorem d_Mo_workers_36 : decode m_Mo_workers.2.1 36 = .ok (.iconst 0, 1) := by decide +kernel
theorem d_Mo_workers_37 : decode m_Mo_workers.2.1 37 = .ok (.istore_n 3, 1) := by decide +kernel
theorem d_Mo_workers_38 : decode m_Mo_workers.2.1 38 = .ok (.iload_n 3, 1) := by decide +kernel
theorem d_Mo_workers_39 : decode m_Mo_workers.2.1 39 = .ok (.bipush 6, 2) := by decide +kernel
theorem d_Mo_workers_41 : decode m_Mo_workers.2.1 41 = .ok (.if_icmp .ge 35, 3) := by decide +kernel
theorem d_Mo_workers_44 : decode m_Mo_workers.2.1 44 = .ok (.iload_n 2, 1) := by decide +kernel
theorem d_Mo_workers_45 : decode m_Mo_workers.2.1 45 = .ok (.iload_n 3, 1) := by decide +kernel
theorem d_Mo_workers_46 : decode m_Mo_workers.2.1 46 = .ok (.iload_n 1, 1) := by decide +kernel
theorem d_Mo_workers_47 : decode m_Mo_workers.2.1 47 = .ok (.imul, 1) := by decide +kernel
theorem d_Mo_workers_48 : decode m_Mo_workers.2.1 48 = .ok (.bipush 6, 2) := by decide +kernel
theorem d_Mo_workers_50 : decode m_Mo_workers.2.1 50 = .ok (.idiv, 1) := by decide +kernel
theorem d_Mo_workers_51 : decode m_Mo_workers.2.1 51 = .ok (.iload_n 3, 1) := by decide +kernel
theorem d_Mo_workers_52 : decode m_Mo_workers.2.1 52 = .ok (.aload_n 0, 1) := by decide +kernel
theorem d_Mo_workers_53 : decode m_Mo_workers.2.1 53 = .ok (.getfield 26, 3) := by decide +kernel
theorem d_Mo_workers_56 : decode m_Mo_workers.2.1 56 = .ok (.imul, 1) := by decide +kernel
theorem d_Mo_workers_57 : decode m_Mo_workers.2.1 57 = .ok (.bipush 6, 2) := by decide +kernel
theorem d_Mo_workers_59 : decode m_Mo_workers.2.1 59 = .ok (.idiv, 1) := by decide +kernel
theorem d_Mo_workers_60 : decode m_Mo_workers.2.1 60 = .ok (.if_icmp .ne 7, 3) := by decide +kernel
theorem d_Mo_workers_63 : decode m_Mo_workers.2.1 63 = .ok (.iconst 0, 1) := by decide +kernel
theorem d_Mo_workers_64 : decode m_Mo_workers.2.1 64 = .ok (.goto 4, 3) := by decide +kernel
theorem d_Mo_workers_67 : decode m_Mo_workers.2.1 67 = .ok (.iconst 1, 1) := by decide +kernel
theorem d_Mo_workers_68 : decode m_Mo_workers.2.1 68 = .ok (.iadd, 1) := by decide +kernel
theorem d_Mo_workers_69 : decode m_Mo_workers.2.1 69 = .ok (.istore_n 2, 1) := by decide +kernel
theorem d_Mo_workers_70 : decode m_Mo_workers.2.1 70 = .ok (.iinc 3 1, 3) := by decide +kernel
theorem d_Mo_workers_73 : decode m_Mo_workers.2.1 73 = .ok (.goto (-35), 3) := by decide +kernel
theorem d_Mo_workers_76 : decode m_Mo_workers.2.1 76 = .ok (.aload_n 0, 1) := by decide +kernel
theorem d_Mo_workers_77 : decode m_Mo_workers.2.1 77 = .ok (.iload_n 1, 1) := by decide +kernel
theorem d_Mo_workers_78 : decode m_Mo_workers.2.1 78 = .ok (.putfield 26, 3) := by decide +kernel
theorem d_Mo_workers_81 : decode m_Mo_workers.2.1 81 = .ok (.aload_n 0, 1) := by decide +kernel
theorem d_Mo_workers_82 : decode m_Mo_workers.2.1 82 = .ok (.invokevirtual 260, 3) := by decide +kernel
theorem d_Mo_workers_85 : decode m_Mo_workers.2.1 85 = .ok (.iload_n 2, 1) := by decide +kernel
theorem d_Mo_workers_86 : decode m_Mo_workers.2.1 86 = .ok (.ireturn, 1) := by decide +kernel
theorem d_Mo_watermark_0 : decode m_Mo_watermark.2.1 0 = .ok (.aload_n 0, 1) := by decide +kernel
theorem d_Mo_watermark_1 : decode m_Mo_watermark.2.1 1 = .ok (.iconst 0, 1) := by decide +kernel
theorem d_Mo_watermark_2 : decode m_Mo_watermark.2.1 2 = .ok (.putfield 139, 3) := by decide +kernel
theorem d_Mo_watermark_5 : decode m_Mo_watermark.2.1 5 = .ok (.aload_n 0, 1) := by decide +kernel
theorem d_Mo_watermark_6 : decode m_Mo_watermark.2.1 6 = .ok (.getfield 58, 3) := by decide +kernel
theorem d_Mo_watermark_9 : decode m_Mo_watermark.2.1 9 = .ok (.ireturn, 1) := by decide +kernel
theorem d_Mo_sourceWatermark_0 : decode m_Mo_sourceWatermark.2.1 0 = .ok (.aload_n 0, 1) := by decide +kernel
theorem d_Mo_sourceWatermark_1 : decode m_Mo_sourceWatermark.2.1 1 = .ok (.iload_n 1, 1) := by decide +kernel
theorem d_Mo_sourceWatermark_2 : decode m_Mo_sourceWatermark.2.1 2 = .ok (.invokestatic 156, 3) := by decide +kernel
theorem d_Mo_sourceWatermark_5 : decode m_Mo_sourceWatermark.2.1 5 = .ok (.ifCond .eq 7, 3) := by decide +kernel
theorem d_Mo_sourceWatermark_8 : decode m_Mo_sourceWatermark.2.1 8 = .ok (.iconst 0, 1) := by decide +kernel
theorem d_Mo_sourceWatermark_9 : decode m_Mo_sourceWatermark.2.1 9 = .ok (.goto 4, 3) := by decide +kernel
theorem d_Mo_sourceWatermark_12 : decode m_Mo_sourceWatermark.2.1 12 = .ok (.iconst 1, 1) := by decide +kernel
theorem d_Mo_sourceWatermark_13 : decode m_Mo_sourceWatermark.2.1 13 = .ok (.invokevirtual 149, 3) := by decide +kernel
theorem d_Mo_sourceWatermark_16 : decode m_Mo_sourceWatermark.2.1 16 = .ok (.ifCond .eq 11, 3) := by decide +kernel
theorem d_Mo_sourceWatermark_19 : decode m_Mo_sourceWatermark.2.1 19 = .ok (.aload_n 0, 1) := by decide +kernel
theorem d_Mo_sourceWatermark_20 : decode m_Mo_sourceWatermark.2.1 20 = .ok (.iload_n 1, 1) := by decide +kernel
theorem d_Mo_sourceWatermark_21 : decode m_Mo_sourceWatermark.2.1 21 = .ok (.invokevirtual 172, 3) := by decide +kernel
theorem d_Mo_sourceWatermark_24 : decode m_Mo_sourceWatermark.2.1 24 = .ok (.goto 4, 3) := by decide +kernel
theorem d_Mo_sourceWatermark_27 : decode m_Mo_sourceWatermark.2.1 27 = .ok (.iconst 0, 1) := by decide +kernel
theorem d_Mo_sourceWatermark_28 : decode m_Mo_sourceWatermark.2.1 28 = .ok (.ireturn, 1) := by decide +kernel
theorem d_Mo_offset_0 : decode m_Mo_offset.2.1 0 = .ok (.aload_n 0, 1) := by decide +kernel
theorem d_Mo_offset_1 : decode m_Mo_offset.2.1 1 = .ok (.iload_n 1, 1) := by decide +kernel
theorem d_Mo_offset_2 : decode m_Mo_offset.2.1 2 = .ok (.invokestatic 156, 3) := by decide +kernel
theorem d_Mo_offset_5 : decode m_Mo_offset.2.1 5 = .ok (.ifCond .eq 7, 3) := by decide +kernel
theorem d_Mo_offset_8 : decode m_Mo_offset.2.1 8 = .ok (.iconst 0, 1) := by decide +kernel
theorem d_Mo_offset_9 : decode m_Mo_offset.2.1 9 = .ok (.goto 4, 3) := by decide +kernel
theorem d_Mo_offset_12 : decode m_Mo_offset.2.1 12 = .ok (.iconst 1, 1) := by decide +kernel
theorem d_Mo_offset_13 : decode m_Mo_offset.2.1 13 = .ok (.invokevirtual 149, 3) := by decide +kernel
theorem d_Mo_offset_16 : decode m_Mo_offset.2.1 16 = .ok (.ifCond .eq 12, 3) := by decide +kernel
theorem d_Mo_offset_19 : decode m_Mo_offset.2.1 19 = .ok (.aload_n 0, 1) := by decide +kernel
theorem d_Mo_offset_20 : decode m_Mo_offset.2.1 20 = .ok (.getfield 42, 3) := by decide +kernel
theorem d_Mo_offset_23 : decode m_Mo_offset.2.1 23 = .ok (.iload_n 1, 1) := by decide +kernel
theorem d_Mo_offset_24 : decode m_Mo_offset.2.1 24 = .ok (.iaload, 1) := by decide +kernel
theorem d_Mo_offset_25 : decode m_Mo_offset.2.1 25 = .ok (.goto 4, 3) := by decide +kernel
theorem d_Mo_offset_28 : decode m_Mo_offset.2.1 28 = .ok (.iconst 0, 1) := by decide +kernel
theorem d_Mo_offset_29 : decode m_Mo_offset.2.1 29 = .ok (.ireturn, 1) := by decide +kernel
theorem d_Mo_inChannel_0 : decode m_Mo_inChannel.2.1 0 = .ok (.aload_n 0, 1) := by decide +kernel
theorem d_Mo_inChannel_1 : decode m_Mo_inChannel.2.1 1 = .ok (.iload_n 1, 1) := by decide +kernel
theorem d_Mo_inChannel_2 : decode m_Mo_inChannel.2.1 2 = .ok (.invokestatic 156, 3) := by decide +kernel
theorem d_Mo_inChannel_5 : decode m_Mo_inChannel.2.1 5 = .ok (.ifCond .eq 7, 3) := by decide +kernel
theorem d_Mo_inChannel_8 : decode m_Mo_inChannel.2.1 8 = .ok (.iconst 0, 1) := by decide +kernel
theorem d_Mo_inChannel_9 : decode m_Mo_inChannel.2.1 9 = .ok (.goto 4, 3) := by decide +kernel
theorem d_Mo_inChannel_12 : decode m_Mo_inChannel.2.1 12 = .ok (.iconst 1, 1) := by decide +kernel
theorem d_Mo_inChannel_13 : decode m_Mo_inChannel.2.1 13 = .ok (.invokevirtual 149, 3) := by decide +kernel
theorem d_Mo_inChannel_16 : decode m_Mo_inChannel.2.1 16 = .ok (.ifCond .eq 19, 3) := by decide +kernel
theorem d_Mo_inChannel_19 : decode m_Mo_inChannel.2.1 19 = .ok (.aload_n 0, 1) := by decide +kernel
theorem d_Mo_inChannel_20 : decode m_Mo_inChannel.2.1 20 = .ok (.getfield 42, 3) := by decide +kernel
theorem d_Mo_inChannel_23 : decode m_Mo_inChannel.2.1 23 = .ok (.iload_n 1, 1) := by decide +kernel
theorem d_Mo_inChannel_24 : decode m_Mo_inChannel.2.1 24 = .ok (.iaload, 1) := by decide +kernel
theorem d_Mo_inChannel_25 : decode m_Mo_inChannel.2.1 25 = .ok (.aload_n 0, 1) := by decide +kernel
theorem d_Mo_inChannel_26 : decode m_Mo_inChannel.2.1 26 = .ok (.getfield 45, 3) := by decide +kernel
theorem d_Mo_inChannel_29 : decode m_Mo_inChannel.2.1 29 = .ok (.iload_n 1, 1) := by decide +kernel
theorem d_Mo_inChannel_30 : decode m_Mo_inChannel.2.1 30 = .ok (.iaload, 1) := by decide +kernel
theorem d_Mo_inChannel_31 : decode m_Mo_inChannel.2.1 31 = .ok (.isub, 1) := by decide +kernel
theorem d_Mo_inChannel_32 : decode m_Mo_inChannel.2.1 32 = .ok (.goto 4, 3) := by decide +kernel
theorem d_Mo_inChannel_35 : decode m_Mo_inChannel.2.1 35 = .ok (.iconst 0, 1) := by decide +kernel
theorem d_Mo_inChannel_36 : decode m_Mo_inChannel.2.1 36 = .ok (.ireturn, 1) := by decide +kernel
theorem d_Mo_open_0 : decode m_Mo_open.2.1 0 = .ok (.aload_n 0, 1) := by decide +kernel
theorem d_Mo_open_1 : decode m_Mo_open.2.1 1 = .ok (.iload_n 1, 1) := by decide +kernel
theorem d_Mo_open_2 : decode m_Mo_open.2.1 2 = .ok (.iconst 0, 1) := by decide +kernel
theorem d_Mo_open_3 : decode m_Mo_open.2.1 3 = .ok (.aload_n 0, 1) := by decide +kernel
theorem d_Mo_open_4 : decode m_Mo_open.2.1 4 = .ok (.getfield 26, 3) := by decide +kernel
theorem d_Mo_open_7 : decode m_Mo_open.2.1 7 = .ok (.iconst 1, 1) := by decide +kernel
theorem d_Mo_open_8 : decode m_Mo_open.2.1 8 = .ok (.isub, 1) := by decide +kernel
theorem d_Mo_open_9 : decode m_Mo_open.2.1 9 = .ok (.invokestatic 142, 3) := by decide +kernel
theorem d_Mo_open_12 : decode m_Mo_open.2.1 12 = .ok (.ifCond .eq 7, 3) := by decide +kernel
theorem d_Mo_open_15 : decode m_Mo_open.2.1 15 = .ok (.iconst 0, 1) := by decide +kernel
theorem d_Mo_open_16 : decode m_Mo_open.2.1 16 = .ok (.goto 4, 3) := by decide +kernel
theorem d_Mo_open_19 : decode m_Mo_open.2.1 19 = .ok (.iconst 1, 1) := by decide +kernel
theorem d_Mo_open_20 : decode m_Mo_open.2.1 20 = .ok (.invokevirtual 149, 3) := by decide +kernel
theorem d_Mo_open_23 : decode m_Mo_open.2.1 23 = .ok (.ifCond .ne 5, 3) := by decide +kernel
theorem d_Mo_open_26 : decode m_Mo_open.2.1 26 = .ok (.iconst 0, 1) := by decide +kernel
theorem d_Mo_open_27 : decode m_Mo_open.2.1 27 = .ok (.ireturn, 1) := by decide +kernel
theorem d_Mo_open_28 : decode m_Mo_open.2.1 28 = .ok (.iconst 0, 1) := by decide +kernel
theorem d_Mo_open_29 : decode m_Mo_open.2.1 29 = .ok (.istore_n 2, 1) := by decide +kernel
theorem d_Mo_open_30 : decode m_Mo_open.2.1 30 = .ok (.iconst 0, 1) := by decide +kernel
theorem d_Mo_open_31 : decode m_Mo_open.2.1 31 = .ok (.istore_n 3, 1) := by decide +kernel
theorem d_Mo_open_32 : decode m_Mo_open.2.1 32 = .ok (.iload_n 3, 1) := by decide +kernel
theorem d_Mo_open_33 : decode m_Mo_open.2.1 33 = .ok (.aload_n 0, 1) := by decide +kernel
theorem d_Mo_open_34 : decode m_Mo_open.2.1 34 = .ok (.getfield 184, 3) := by decide +kernel
theorem d_Mo_open_37 : decode m_Mo_open.2.1 37 = .ok (.if_icmp .ge 43, 3) := by decide +kernel
theorem d_Mo_open_40 : decode m_Mo_open.2.1 40 = .ok (.iload_n 2, 1) := by decide +kernel
theorem d_Mo_open_41 : decode m_Mo_open.2.1 41 = .ok (.aload_n 0, 1) := by decide +kernel
theorem d_Mo_open_42 : decode m_Mo_open.2.1 42 = .ok (.iload_n 3, 1) := by decide +kernel
theorem d_Mo_open_43 : decode m_Mo_open.2.1 43 = .ok (.invokevirtual 263, 3) := by decide +kernel
theorem d_Mo_open_46 : decode m_Mo_open.2.1 46 = .ok (.ifCond .eq 25, 3) := by decide +kernel
theorem d_Mo_open_49 : decode m_Mo_open.2.1 49 = .ok (.aload_n 0, 1) := by decide +kernel
theorem d_Mo_open_50 : decode m_Mo_open.2.1 50 = .ok (.getfield 67, 3) := by decide +kernel
theorem d_Mo_open_53 : decode m_Mo_open.2.1 53 = .ok (.iload_n 3, 1) := by decide +kernel
theorem d_Mo_open_54 : decode m_Mo_open.2.1 54 = .ok (.iaload, 1) := by decide +kernel
theorem d_Mo_open_55 : decode m_Mo_open.2.1 55 = .ok (.aload_n 0, 1) := by decide +kernel
theorem d_Mo_open_56 : decode m_Mo_open.2.1 56 = .ok (.getfield 26, 3) := by decide +kernel
theorem d_Mo_open_59 : decode m_Mo_open.2.1 59 = .ok (.imul, 1) := by decide +kernel
theorem d_Mo_open_60 : decode m_Mo_open.2.1 60 = .ok (.bipush 6, 2) := by decide +kernel
theorem d_Mo_open_62 : decode m_Mo_open.2.1 62 = .ok (.idiv, 1) := by decide +kernel
theorem d_Mo_open_63 : decode m_Mo_open.2.1 63 = .ok (.iload_n 1, 1) := by decide +kernel
theorem d_Mo_open_64 : decode m_Mo_open.2.1 64 = .ok (.if_icmp .ne 7, 3) := by decide +kernel
theorem d_Mo_open_67 : decode m_Mo_open.2.1 67 = .ok (.iconst 1, 1) := by decide +kernel
theorem d_Mo_open_68 : decode m_Mo_open.2.1 68 = .ok (.goto 4, 3) := by decide +kernel
theorem d_Mo_open_71 : decode m_Mo_open.2.1 71 = .ok (.iconst 0, 1) := by decide +kernel
theorem d_Mo_open_72 : decode m_Mo_open.2.1 72 = .ok (.iadd, 1) := by decide +kernel
theorem d_Mo_open_73 : decode m_Mo_open.2.1 73 = .ok (.istore_n 2, 1) := by decide +kernel
theorem d_Mo_open_74 : decode m_Mo_open.2.1 74 = .ok (.iinc 3 1, 3) := by decide +kernel
theorem d_Mo_open_77 : decode m_Mo_open.2.1 77 = .ok (.goto (-45), 3) := by decide +kernel
theorem d_Mo_open_80 : decode m_Mo_open.2.1 80 = .ok (.iload_n 2, 1) := by decide +kernel
theorem d_Mo_open_81 : decode m_Mo_open.2.1 81 = .ok (.ireturn, 1) := by decide +kernel
theorem d_Mo_sumAt_0 : decode m_Mo_sumAt.2.1 0 = .ok (.aload_n 0, 1) := by decide +kernel
theorem d_Mo_sumAt_1 : decode m_Mo_sumAt.2.1 1 = .ok (.iload_n 1, 1) := by decide +kernel
theorem d_Mo_sumAt_2 : decode m_Mo_sumAt.2.1 2 = .ok (.invokestatic 159, 3) := by decide +kernel
theorem d_Mo_sumAt_5 : decode m_Mo_sumAt.2.1 5 = .ok (.ifCond .ne 7, 3) := by decide +kernel
theorem d_Mo_sumAt_8 : decode m_Mo_sumAt.2.1 8 = .ok (.iconst 1, 1) := by decide +kernel
theorem d_Mo_sumAt_9 : decode m_Mo_sumAt.2.1 9 = .ok (.goto 19, 3) := by decide +kernel
theorem d_Mo_sumAt_12 : decode m_Mo_sumAt.2.1 12 = .ok (.iload_n 2, 1) := by decide +kernel
theorem d_Mo_sumAt_13 : decode m_Mo_sumAt.2.1 13 = .ok (.iconst 0, 1) := by decide +kernel
theorem d_Mo_sumAt_14 : decode m_Mo_sumAt.2.1 14 = .ok (.sipush 1200, 3) := by decide +kernel
theorem d_Mo_sumAt_17 : decode m_Mo_sumAt.2.1 17 = .ok (.invokestatic 142, 3) := by decide +kernel
theorem d_Mo_sumAt_20 : decode m_Mo_sumAt.2.1 20 = .ok (.ifCond .ne 7, 3) := by decide +kernel
theorem d_Mo_sumAt_23 : decode m_Mo_sumAt.2.1 23 = .ok (.iconst 2, 1) := by decide +kernel
theorem d_Mo_sumAt_24 : decode m_Mo_sumAt.2.1 24 = .ok (.goto 4, 3) := by decide +kernel
theorem d_Mo_sumAt_27 : decode m_Mo_sumAt.2.1 27 = .ok (.iconst 0, 1) := by decide +kernel
theorem d_Mo_sumAt_28 : decode m_Mo_sumAt.2.1 28 = .ok (.invokevirtual 149, 3) := by decide +kernel
theorem d_Mo_sumAt_31 : decode m_Mo_sumAt.2.1 31 = .ok (.ifCond .ne 5, 3) := by decide +kernel
theorem d_Mo_sumAt_34 : decode m_Mo_sumAt.2.1 34 = .ok (.iconst 0, 1) := by decide +kernel
theorem d_Mo_sumAt_35 : decode m_Mo_sumAt.2.1 35 = .ok (.ireturn, 1) := by decide +kernel
theorem d_Mo_sumAt_36 : decode m_Mo_sumAt.2.1 36 = .ok (.iconst (-1), 1) := by decide +kernel
theorem d_Mo_sumAt_37 : decode m_Mo_sumAt.2.1 37 = .ok (.istore_n 3, 1) := by decide +kernel
theorem d_Mo_sumAt_38 : decode m_Mo_sumAt.2.1 38 = .ok (.iconst 0, 1) := by decide +kernel
theorem d_Mo_sumAt_39 : decode m_Mo_sumAt.2.1 39 = .ok (.istore 4, 2) := by decide +kernel
theorem d_Mo_sumAt_41 : decode m_Mo_sumAt.2.1 41 = .ok (.iload 4, 2) := by decide +kernel
theorem d_Mo_sumAt_43 : decode m_Mo_sumAt.2.1 43 = .ok (.aload_n 0, 1) := by decide +kernel
theorem d_Mo_sumAt_44 : decode m_Mo_sumAt.2.1 44 = .ok (.getfield 184, 3) := by decide +kernel
theorem d_Mo_sumAt_47 : decode m_Mo_sumAt.2.1 47 = .ok (.if_icmp .ge 91, 3) := by decide +kernel
theorem d_Mo_sumAt_50 : decode m_Mo_sumAt.2.1 50 = .ok (.aload_n 0, 1) := by decide +kernel
theorem d_Mo_sumAt_51 : decode m_Mo_sumAt.2.1 51 = .ok (.iload 4, 2) := by decide +kernel
theorem d_Mo_sumAt_53 : decode m_Mo_sumAt.2.1 53 = .ok (.invokevirtual 263, 3) := by decide +kernel
theorem d_Mo_sumAt_56 : decode m_Mo_sumAt.2.1 56 = .ok (.ifCond .eq 40, 3) := by decide +kernel
theorem d_Mo_sumAt_59 : decode m_Mo_sumAt.2.1 59 = .ok (.aload_n 0, 1) := by decide +kernel
theorem d_Mo_sumAt_60 : decode m_Mo_sumAt.2.1 60 = .ok (.getfield 67, 3) := by decide +kernel
theorem d_Mo_sumAt_63 : decode m_Mo_sumAt.2.1 63 = .ok (.iload 4, 2) := by decide +kernel
theorem d_Mo_sumAt_65 : decode m_Mo_sumAt.2.1 65 = .ok (.iaload, 1) := by decide +kernel
theorem d_Mo_sumAt_66 : decode m_Mo_sumAt.2.1 66 = .ok (.iload_n 1, 1) := by decide +kernel
theorem d_Mo_sumAt_67 : decode m_Mo_sumAt.2.1 67 = .ok (.if_icmp .ne 29, 3) := by decide +kernel
theorem d_Mo_sumAt_70 : decode m_Mo_sumAt.2.1 70 = .ok (.aload_n 0, 1) := by decide +kernel
theorem d_Mo_sumAt_71 : decode m_Mo_sumAt.2.1 71 = .ok (.getfield 70, 3) := by decide +kernel
theorem d_Mo_sumAt_74 : decode m_Mo_sumAt.2.1 74 = .ok (.iload 4, 2) := by decide +kernel
theorem d_Mo_sumAt_76 : decode m_Mo_sumAt.2.1 76 = .ok (.iaload, 1) := by decide +kernel
theorem d_Mo_sumAt_77 : decode m_Mo_sumAt.2.1 77 = .ok (.iload_n 2, 1) := by decide +kernel
theorem d_Mo_sumAt_78 : decode m_Mo_sumAt.2.1 78 = .ok (.if_icmp .gt 18, 3) := by decide +kernel
theorem d_Mo_sumAt_81 : decode m_Mo_sumAt.2.1 81 = .ok (.iload_n 2, 1) := by decide +kernel
theorem d_Mo_sumAt_82 : decode m_Mo_sumAt.2.1 82 = .ok (.aload_n 0, 1) := by decide +kernel
theorem d_Mo_sumAt_83 : decode m_Mo_sumAt.2.1 83 = .ok (.getfield 73, 3) := by decide +kernel
theorem d_Mo_sumAt_86 : decode m_Mo_sumAt.2.1 86 = .ok (.iload 4, 2) := by decide +kernel
theorem d_Mo_sumAt_88 : decode m_Mo_sumAt.2.1 88 = .ok (.iaload, 1) := by decide +kernel
theorem d_Mo_sumAt_89 : decode m_Mo_sumAt.2.1 89 = .ok (.if_icmp .ge 7, 3) := by decide +kernel
theorem d_Mo_sumAt_92 : decode m_Mo_sumAt.2.1 92 = .ok (.iconst 1, 1) := by decide +kernel
theorem d_Mo_sumAt_93 : decode m_Mo_sumAt.2.1 93 = .ok (.goto 4, 3) := by decide +kernel
theorem d_Mo_sumAt_96 : decode m_Mo_sumAt.2.1 96 = .ok (.iconst 0, 1) := by decide +kernel
theorem d_Mo_sumAt_97 : decode m_Mo_sumAt.2.1 97 = .ok (.istore 5, 2) := by decide +kernel
theorem d_Mo_sumAt_99 : decode m_Mo_sumAt.2.1 99 = .ok (.iload 5, 2) := by decide +kernel
theorem d_Mo_sumAt_101 : decode m_Mo_sumAt.2.1 101 = .ok (.ifCond .eq 29, 3) := by decide +kernel
theorem d_Mo_sumAt_104 : decode m_Mo_sumAt.2.1 104 = .ok (.iload_n 3, 1) := by decide +kernel
theorem d_Mo_sumAt_105 : decode m_Mo_sumAt.2.1 105 = .ok (.iconst (-1), 1) := by decide +kernel
theorem d_Mo_sumAt_106 : decode m_Mo_sumAt.2.1 106 = .ok (.if_icmp .eq 19, 3) := by decide +kernel
theorem d_Mo_sumAt_109 : decode m_Mo_sumAt.2.1 109 = .ok (.aload_n 0, 1) := by decide +kernel
theorem d_Mo_sumAt_110 : decode m_Mo_sumAt.2.1 110 = .ok (.getfield 70, 3) := by decide +kernel
theorem d_Mo_sumAt_113 : decode m_Mo_sumAt.2.1 113 = .ok (.iload 4, 2) := by decide +kernel
theorem d_Mo_sumAt_115 : decode m_Mo_sumAt.2.1 115 = .ok (.iaload, 1) := by decide +kernel
theorem d_Mo_sumAt_116 : decode m_Mo_sumAt.2.1 116 = .ok (.aload_n 0, 1) := by decide +kernel
theorem d_Mo_sumAt_117 : decode m_Mo_sumAt.2.1 117 = .ok (.getfield 70, 3) := by decide +kernel
theorem d_Mo_sumAt_120 : decode m_Mo_sumAt.2.1 120 = .ok (.iload_n 3, 1) := by decide +kernel
theorem d_Mo_sumAt_121 : decode m_Mo_sumAt.2.1 121 = .ok (.iaload, 1) := by decide +kernel
theorem d_Mo_sumAt_122 : decode m_Mo_sumAt.2.1 122 = .ok (.if_icmp .ge 8, 3) := by decide +kernel
theorem d_Mo_sumAt_125 : decode m_Mo_sumAt.2.1 125 = .ok (.iload 4, 2) := by decide +kernel
theorem d_Mo_sumAt_127 : decode m_Mo_sumAt.2.1 127 = .ok (.goto 4, 3) := by decide +kernel
theorem d_Mo_sumAt_130 : decode m_Mo_sumAt.2.1 130 = .ok (.iload_n 3, 1) := by decide +kernel
theorem d_Mo_sumAt_131 : decode m_Mo_sumAt.2.1 131 = .ok (.istore_n 3, 1) := by decide +kernel
theorem d_Mo_sumAt_132 : decode m_Mo_sumAt.2.1 132 = .ok (.iinc 4 1, 3) := by decide +kernel
theorem d_Mo_sumAt_135 : decode m_Mo_sumAt.2.1 135 = .ok (.goto (-94), 3) := by decide +kernel
theorem d_Mo_sumAt_138 : decode m_Mo_sumAt.2.1 138 = .ok (.iload_n 3, 1) := by decide +kernel
theorem d_Mo_sumAt_139 : decode m_Mo_sumAt.2.1 139 = .ok (.iconst (-1), 1) := by decide +kernel
theorem d_Mo_sumAt_140 : decode m_Mo_sumAt.2.1 140 = .ok (.if_icmp .ne 9, 3) := by decide +kernel
theorem d_Mo_sumAt_143 : decode m_Mo_sumAt.2.1 143 = .ok (.ldc_w 266, 3) := by decide +kernel
theorem d_Mo_sumAt_146 : decode m_Mo_sumAt.2.1 146 = .ok (.goto 9, 3) := by decide +kernel
theorem d_Mo_sumAt_149 : decode m_Mo_sumAt.2.1 149 = .ok (.aload_n 0, 1) := by decide +kernel
theorem d_Mo_sumAt_150 : decode m_Mo_sumAt.2.1 150 = .ok (.getfield 79, 3) := by decide +kernel
theorem d_Mo_sumAt_153 : decode m_Mo_sumAt.2.1 153 = .ok (.iload_n 3, 1) := by decide +kernel
theorem d_Mo_sumAt_154 : decode m_Mo_sumAt.2.1 154 = .ok (.iaload, 1) := by decide +kernel
theorem d_Mo_sumAt_155 : decode m_Mo_sumAt.2.1 155 = .ok (.ireturn, 1) := by decide +kernel
theorem d_Mo_dropped_0 : decode m_Mo_dropped.2.1 0 = .ok (.aload_n 0, 1) := by decide +kernel
theorem d_Mo_dropped_1 : decode m_Mo_dropped.2.1 1 = .ok (.iconst 0, 1) := by decide +kernel
theorem d_Mo_dropped_2 : decode m_Mo_dropped.2.1 2 = .ok (.putfield 139, 3) := by decide +kernel
theorem d_Mo_dropped_5 : decode m_Mo_dropped.2.1 5 = .ok (.aload_n 0, 1) := by decide +kernel
theorem d_Mo_dropped_6 : decode m_Mo_dropped.2.1 6 = .ok (.getfield 214, 3) := by decide +kernel
theorem d_Mo_dropped_9 : decode m_Mo_dropped.2.1 9 = .ok (.ireturn, 1) := by decide +kernel
theorem d_Mo_pairsOf_0 : decode m_Mo_pairsOf.2.1 0 = .ok (.iconst 0, 1) := by decide +kernel
theorem d_Mo_pairsOf_1 : decode m_Mo_pairsOf.2.1 1 = .ok (.istore_n 1, 1) := by decide +kernel
theorem d_Mo_pairsOf_2 : decode m_Mo_pairsOf.2.1 2 = .ok (.iconst 0, 1) := by decide +kernel
theorem d_Mo_pairsOf_3 : decode m_Mo_pairsOf.2.1 3 = .ok (.istore_n 2, 1) := by decide +kernel
theorem d_Mo_pairsOf_4 : decode m_Mo_pairsOf.2.1 4 = .ok (.iload_n 2, 1) := by decide +kernel
theorem d_Mo_pairsOf_5 : decode m_Mo_pairsOf.2.1 5 = .ok (.aload_n 0, 1) := by decide +kernel
theorem d_Mo_pairsOf_6 : decode m_Mo_pairsOf.2.1 6 = .ok (.getfield 217, 3) := by decide +kernel
theorem d_Mo_pairsOf_9 : decode m_Mo_pairsOf.2.1 9 = .ok (.if_icmp .ge 136, 3) := by decide +kernel
theorem d_Mo_pairsOf_12 : decode m_Mo_pairsOf.2.1 12 = .ok (.iconst 0, 1) := by decide +kernel
theorem d_Mo_pairsOf_13 : decode m_Mo_pairsOf.2.1 13 = .ok (.istore_n 3, 1) := by decide +kernel
theorem d_Mo_pairsOf_14 : decode m_Mo_pairsOf.2.1 14 = .ok (.iload_n 3, 1) := by decide +kernel
theorem d_Mo_pairsOf_15 : decode m_Mo_pairsOf.2.1 15 = .ok (.aload_n 0, 1) := by decide +kernel
theorem d_Mo_pairsOf_16 : decode m_Mo_pairsOf.2.1 16 = .ok (.getfield 217, 3) := by decide +kernel
theorem d_Mo_pairsOf_19 : decode m_Mo_pairsOf.2.1 19 = .ok (.if_icmp .ge 120, 3) := by decide +kernel
theorem d_Mo_pairsOf_22 : decode m_Mo_pairsOf.2.1 22 = .ok (.aload_n 0, 1) := by decide +kernel
theorem d_Mo_pairsOf_23 : decode m_Mo_pairsOf.2.1 23 = .ok (.getfield 29, 3) := by decide +kernel
theorem d_Mo_pairsOf_26 : decode m_Mo_pairsOf.2.1 26 = .ok (.aload_n 0, 1) := by decide +kernel
theorem d_Mo_pairsOf_27 : decode m_Mo_pairsOf.2.1 27 = .ok (.getfield 88, 3) := by decide +kernel
theorem d_Mo_pairsOf_30 : decode m_Mo_pairsOf.2.1 30 = .ok (.iload_n 2, 1) := by decide +kernel
theorem d_Mo_pairsOf_31 : decode m_Mo_pairsOf.2.1 31 = .ok (.iaload, 1) := by decide +kernel
theorem d_Mo_pairsOf_32 : decode m_Mo_pairsOf.2.1 32 = .ok (.iaload, 1) := by decide +kernel
theorem d_Mo_pairsOf_33 : decode m_Mo_pairsOf.2.1 33 = .ok (.aload_n 0, 1) := by decide +kernel
theorem d_Mo_pairsOf_34 : decode m_Mo_pairsOf.2.1 34 = .ok (.getfield 29, 3) := by decide +kernel
theorem d_Mo_pairsOf_37 : decode m_Mo_pairsOf.2.1 37 = .ok (.aload_n 0, 1) := by decide +kernel
theorem d_Mo_pairsOf_38 : decode m_Mo_pairsOf.2.1 38 = .ok (.getfield 88, 3) := by decide +kernel
theorem d_Mo_pairsOf_41 : decode m_Mo_pairsOf.2.1 41 = .ok (.iload_n 3, 1) := by decide +kernel
theorem d_Mo_pairsOf_42 : decode m_Mo_pairsOf.2.1 42 = .ok (.iaload, 1) := by decide +kernel
theorem d_Mo_pairsOf_43 : decode m_Mo_pairsOf.2.1 43 = .ok (.iaload, 1) := by decide +kernel
theorem d_Mo_pairsOf_44 : decode m_Mo_pairsOf.2.1 44 = .ok (.isub, 1) := by decide +kernel
theorem d_Mo_pairsOf_45 : decode m_Mo_pairsOf.2.1 45 = .ok (.istore 4, 2) := by decide +kernel
theorem d_Mo_pairsOf_47 : decode m_Mo_pairsOf.2.1 47 = .ok (.aload_n 0, 1) := by decide +kernel
theorem d_Mo_pairsOf_48 : decode m_Mo_pairsOf.2.1 48 = .ok (.getfield 88, 3) := by decide +kernel
theorem d_Mo_pairsOf_51 : decode m_Mo_pairsOf.2.1 51 = .ok (.iload_n 2, 1) := by decide +kernel
theorem d_Mo_pairsOf_52 : decode m_Mo_pairsOf.2.1 52 = .ok (.iaload, 1) := by decide +kernel
theorem d_Mo_pairsOf_53 : decode m_Mo_pairsOf.2.1 53 = .ok (.bipush 40, 2) := by decide +kernel
theorem d_Mo_pairsOf_55 : decode m_Mo_pairsOf.2.1 55 = .ok (.if_icmp .ge 43, 3) := by decide +kernel
theorem d_Mo_pairsOf_58 : decode m_Mo_pairsOf.2.1 58 = .ok (.aload_n 0, 1) := by decide +kernel
theorem d_Mo_pairsOf_59 : decode m_Mo_pairsOf.2.1 59 = .ok (.getfield 88, 3) := by decide +kernel
theorem d_Mo_pairsOf_62 : decode m_Mo_pairsOf.2.1 62 = .ok (.iload_n 3, 1) := by decide +kernel
theorem d_Mo_pairsOf_63 : decode m_Mo_pairsOf.2.1 63 = .ok (.iaload, 1) := by decide +kernel
theorem d_Mo_pairsOf_64 : decode m_Mo_pairsOf.2.1 64 = .ok (.bipush 40, 2) := by decide +kernel
theorem d_Mo_pairsOf_66 : decode m_Mo_pairsOf.2.1 66 = .ok (.if_icmp .lt 32, 3) := by decide +kernel
theorem d_Mo_pairsOf_69 : decode m_Mo_pairsOf.2.1 69 = .ok (.aload_n 0, 1) := by decide +kernel
theorem d_Mo_pairsOf_70 : decode m_Mo_pairsOf.2.1 70 = .ok (.getfield 33, 3) := by decide +kernel
theorem d_Mo_pairsOf_73 : decode m_Mo_pairsOf.2.1 73 = .ok (.aload_n 0, 1) := by decide +kernel
theorem d_Mo_pairsOf_74 : decode m_Mo_pairsOf.2.1 74 = .ok (.getfield 88, 3) := by decide +kernel
theorem d_Mo_pairsOf_77 : decode m_Mo_pairsOf.2.1 77 = .ok (.iload_n 2, 1) := by decide +kernel
theorem d_Mo_pairsOf_78 : decode m_Mo_pairsOf.2.1 78 = .ok (.iaload, 1) := by decide +kernel
theorem d_Mo_pairsOf_79 : decode m_Mo_pairsOf.2.1 79 = .ok (.iaload, 1) := by decide +kernel
theorem d_Mo_pairsOf_80 : decode m_Mo_pairsOf.2.1 80 = .ok (.aload_n 0, 1) := by decide +kernel
theorem d_Mo_pairsOf_81 : decode m_Mo_pairsOf.2.1 81 = .ok (.getfield 33, 3) := by decide +kernel
theorem d_Mo_pairsOf_84 : decode m_Mo_pairsOf.2.1 84 = .ok (.aload_n 0, 1) := by decide +kernel
theorem d_Mo_pairsOf_85 : decode m_Mo_pairsOf.2.1 85 = .ok (.getfield 88, 3) := by decide +kernel
theorem d_Mo_pairsOf_88 : decode m_Mo_pairsOf.2.1 88 = .ok (.iload_n 3, 1) := by decide +kernel
theorem d_Mo_pairsOf_89 : decode m_Mo_pairsOf.2.1 89 = .ok (.iaload, 1) := by decide +kernel
theorem d_Mo_pairsOf_90 : decode m_Mo_pairsOf.2.1 90 = .ok (.iaload, 1) := by decide +kernel
theorem d_Mo_pairsOf_91 : decode m_Mo_pairsOf.2.1 91 = .ok (.if_icmp .ne 7, 3) := by decide +kernel
theorem d_Mo_pairsOf_94 : decode m_Mo_pairsOf.2.1 94 = .ok (.iconst 1, 1) := by decide +kernel
theorem d_Mo_pairsOf_95 : decode m_Mo_pairsOf.2.1 95 = .ok (.goto 4, 3) := by decide +kernel
theorem d_Mo_pairsOf_98 : decode m_Mo_pairsOf.2.1 98 = .ok (.iconst 0, 1) := by decide +kernel
theorem d_Mo_pairsOf_99 : decode m_Mo_pairsOf.2.1 99 = .ok (.istore 5, 2) := by decide +kernel
theorem d_Mo_pairsOf_101 : decode m_Mo_pairsOf.2.1 101 = .ok (.iload_n 1, 1) := by decide +kernel
theorem d_Mo_pairsOf_102 : decode m_Mo_pairsOf.2.1 102 = .ok (.iload 5, 2) := by decide +kernel
theorem d_Mo_pairsOf_104 : decode m_Mo_pairsOf.2.1 104 = .ok (.ifCond .eq 26, 3) := by decide +kernel
theorem d_Mo_pairsOf_107 : decode m_Mo_pairsOf.2.1 107 = .ok (.iload 4, 2) := by decide +kernel
theorem d_Mo_pairsOf_109 : decode m_Mo_pairsOf.2.1 109 = .ok (.aload_n 0, 1) := by decide +kernel
theorem d_Mo_pairsOf_110 : decode m_Mo_pairsOf.2.1 110 = .ok (.getfield 19, 3) := by decide +kernel
theorem d_Mo_pairsOf_113 : decode m_Mo_pairsOf.2.1 113 = .ok (.if_icmp .gt 17, 3) := by decide +kernel
theorem d_Mo_pairsOf_116 : decode m_Mo_pairsOf.2.1 116 = .ok (.iload 4, 2) := by decide +kernel
theorem d_Mo_pairsOf_118 : decode m_Mo_pairsOf.2.1 118 = .ok (.ineg, 1) := by decide +kernel
theorem d_Mo_pairsOf_119 : decode m_Mo_pairsOf.2.1 119 = .ok (.aload_n 0, 1) := by decide +kernel
theorem d_Mo_pairsOf_120 : decode m_Mo_pairsOf.2.1 120 = .ok (.getfield 19, 3) := by decide +kernel
theorem d_Mo_pairsOf_123 : decode m_Mo_pairsOf.2.1 123 = .ok (.if_icmp .gt 7, 3) := by decide +kernel
theorem d_Mo_pairsOf_126 : decode m_Mo_pairsOf.2.1 126 = .ok (.iconst 1, 1) := by decide +kernel
theorem d_Mo_pairsOf_127 : decode m_Mo_pairsOf.2.1 127 = .ok (.goto 4, 3) := by decide +kernel
theorem d_Mo_pairsOf_130 : decode m_Mo_pairsOf.2.1 130 = .ok (.iconst 0, 1) := by decide +kernel
theorem d_Mo_pairsOf_131 : decode m_Mo_pairsOf.2.1 131 = .ok (.iadd, 1) := by decide +kernel
theorem d_Mo_pairsOf_132 : decode m_Mo_pairsOf.2.1 132 = .ok (.istore_n 1, 1) := by decide +kernel
theorem d_Mo_pairsOf_133 : decode m_Mo_pairsOf.2.1 133 = .ok (.iinc 3 1, 3) := by decide +kernel
theorem d_Mo_pairsOf_136 : decode m_Mo_pairsOf.2.1 136 = .ok (.goto (-122), 3) := by decide +kernel
theorem d_Mo_pairsOf_139 : decode m_Mo_pairsOf.2.1 139 = .ok (.iinc 2 1, 3) := by decide +kernel
theorem d_Mo_pairsOf_142 : decode m_Mo_pairsOf.2.1 142 = .ok (.goto (-138), 3) := by decide +kernel
theorem d_Mo_pairsOf_145 : decode m_Mo_pairsOf.2.1 145 = .ok (.iload_n 1, 1) := by decide +kernel
theorem d_Mo_pairsOf_146 : decode m_Mo_pairsOf.2.1 146 = .ok (.ireturn, 1) := by decide +kernel
theorem d_Mo_pairs_0 : decode m_Mo_pairs.2.1 0 = .ok (.aload_n 0, 1) := by decide +kernel
theorem d_Mo_pairs_1 : decode m_Mo_pairs.2.1 1 = .ok (.iconst 0, 1) := by decide +kernel
theorem d_Mo_pairs_2 : decode m_Mo_pairs.2.1 2 = .ok (.putfield 139, 3) := by decide +kernel
theorem d_Mo_pairs_5 : decode m_Mo_pairs.2.1 5 = .ok (.aload_n 0, 1) := by decide +kernel
theorem d_Mo_pairs_6 : decode m_Mo_pairs.2.1 6 = .ok (.invokevirtual 267, 3) := by decide +kernel
theorem d_Mo_pairs_9 : decode m_Mo_pairs.2.1 9 = .ok (.ireturn, 1) := by decide +kernel
theorem d_Mo_pairsAnew_0 : decode m_Mo_pairsAnew.2.1 0 = .ok (.aload_n 0, 1) := by decide +kernel
theorem d_Mo_pairsAnew_1 : decode m_Mo_pairsAnew.2.1 1 = .ok (.iconst 0, 1) := by decide +kernel
theorem d_Mo_pairsAnew_2 : decode m_Mo_pairsAnew.2.1 2 = .ok (.putfield 139, 3) := by decide +kernel
theorem d_Mo_pairsAnew_5 : decode m_Mo_pairsAnew.2.1 5 = .ok (.aload_n 0, 1) := by decide +kernel
theorem d_Mo_pairsAnew_6 : decode m_Mo_pairsAnew.2.1 6 = .ok (.invokevirtual 267, 3) := by decide +kernel
theorem d_Mo_pairsAnew_9 : decode m_Mo_pairsAnew.2.1 9 = .ok (.ireturn, 1) := by decide +kernel
theorem d_Mo_uncommitted_0 : decode m_Mo_uncommitted.2.1 0 = .ok (.aload_n 0, 1) := by decide +kernel
theorem d_Mo_uncommitted_1 : decode m_Mo_uncommitted.2.1 1 = .ok (.iconst 0, 1) := by decide +kernel
theorem d_Mo_uncommitted_2 : decode m_Mo_uncommitted.2.1 2 = .ok (.putfield 139, 3) := by decide +kernel
theorem d_Mo_uncommitted_5 : decode m_Mo_uncommitted.2.1 5 = .ok (.aload_n 0, 1) := by decide +kernel
theorem d_Mo_uncommitted_6 : decode m_Mo_uncommitted.2.1 6 = .ok (.getfield 169, 3) := by decide +kernel
theorem d_Mo_uncommitted_9 : decode m_Mo_uncommitted.2.1 9 = .ok (.aload_n 0, 1) := by decide +kernel
theorem d_Mo_uncommitted_10 : decode m_Mo_uncommitted.2.1 10 = .ok (.getfield 257, 3) := by decide +kernel
theorem d_Mo_uncommitted_13 : decode m_Mo_uncommitted.2.1 13 = .ok (.isub, 1) := by decide +kernel
theorem d_Mo_uncommitted_14 : decode m_Mo_uncommitted.2.1 14 = .ok (.ireturn, 1) := by decide +kernel
theorem d_Mo_told_0 : decode m_Mo_told.2.1 0 = .ok (.iconst (-1), 1) := by decide +kernel
theorem d_Mo_told_1 : decode m_Mo_told.2.1 1 = .ok (.istore 4, 2) := by decide +kernel
theorem d_Mo_told_3 : decode m_Mo_told.2.1 3 = .ok (.iconst 0, 1) := by decide +kernel
theorem d_Mo_told_4 : decode m_Mo_told.2.1 4 = .ok (.istore 5, 2) := by decide +kernel
theorem d_Mo_told_6 : decode m_Mo_told.2.1 6 = .ok (.iload 5, 2) := by decide +kernel
theorem d_Mo_told_8 : decode m_Mo_told.2.1 8 = .ok (.aload_n 0, 1) := by decide +kernel
theorem d_Mo_told_9 : decode m_Mo_told.2.1 9 = .ok (.getfield 257, 3) := by decide +kernel
theorem d_Mo_told_12 : decode m_Mo_told.2.1 12 = .ok (.if_icmp .ge 66, 3) := by decide +kernel
theorem d_Mo_told_15 : decode m_Mo_told.2.1 15 = .ok (.aload_n 0, 1) := by decide +kernel
theorem d_Mo_told_16 : decode m_Mo_told.2.1 16 = .ok (.getfield 91, 3) := by decide +kernel
theorem d_Mo_told_19 : decode m_Mo_told.2.1 19 = .ok (.iload 5, 2) := by decide +kernel
theorem d_Mo_told_21 : decode m_Mo_told.2.1 21 = .ok (.iaload, 1) := by decide +kernel
theorem d_Mo_told_22 : decode m_Mo_told.2.1 22 = .ok (.iload_n 1, 1) := by decide +kernel
theorem d_Mo_told_23 : decode m_Mo_told.2.1 23 = .ok (.if_icmp .ne 18, 3) := by decide +kernel
theorem d_Mo_told_26 : decode m_Mo_told.2.1 26 = .ok (.aload_n 0, 1) := by decide +kernel
theorem d_Mo_told_27 : decode m_Mo_told.2.1 27 = .ok (.getfield 94, 3) := by decide +kernel
theorem d_Mo_told_30 : decode m_Mo_told.2.1 30 = .ok (.iload 5, 2) := by decide +kernel
theorem d_Mo_told_32 : decode m_Mo_told.2.1 32 = .ok (.iaload, 1) := by decide +kernel
theorem d_Mo_told_33 : decode m_Mo_told.2.1 33 = .ok (.iload_n 2, 1) := by decide +kernel
theorem d_Mo_told_34 : decode m_Mo_told.2.1 34 = .ok (.if_icmp .ne 7, 3) := by decide +kernel
theorem d_Mo_told_37 : decode m_Mo_told.2.1 37 = .ok (.iconst 1, 1) := by decide +kernel
theorem d_Mo_told_38 : decode m_Mo_told.2.1 38 = .ok (.goto 4, 3) := by decide +kernel
theorem d_Mo_told_41 : decode m_Mo_told.2.1 41 = .ok (.iconst 0, 1) := by decide +kernel
theorem d_Mo_told_42 : decode m_Mo_told.2.1 42 = .ok (.istore 6, 2) := by decide +kernel
theorem d_Mo_told_44 : decode m_Mo_told.2.1 44 = .ok (.iload 6, 2) := by decide +kernel
theorem d_Mo_told_46 : decode m_Mo_told.2.1 46 = .ok (.ifCond .ne 8, 3) := by decide +kernel
theorem d_Mo_told_49 : decode m_Mo_told.2.1 49 = .ok (.iload 4, 2) := by decide +kernel
theorem d_Mo_told_51 : decode m_Mo_told.2.1 51 = .ok (.goto 19, 3) := by decide +kernel
theorem d_Mo_told_54 : decode m_Mo_told.2.1 54 = .ok (.aload_n 0, 1) := by decide +kernel
theorem d_Mo_told_55 : decode m_Mo_told.2.1 55 = .ok (.getfield 106, 3) := by decide +kernel
theorem d_Mo_told_58 : decode m_Mo_told.2.1 58 = .ok (.iload 5, 2) := by decide +kernel
theorem d_Mo_told_60 : decode m_Mo_told.2.1 60 = .ok (.baload, 1) := by decide +kernel
theorem d_Mo_told_61 : decode m_Mo_told.2.1 61 = .ok (.ifCond .eq 7, 3) := by decide +kernel
theorem d_Mo_told_64 : decode m_Mo_told.2.1 64 = .ok (.iconst (-1), 1) := by decide +kernel
theorem d_Mo_told_65 : decode m_Mo_told.2.1 65 = .ok (.goto 5, 3) := by decide +kernel
theorem d_Mo_told_68 : decode m_Mo_told.2.1 68 = .ok (.iload 5, 2) := by decide +kernel
theorem d_Mo_told_70 : decode m_Mo_told.2.1 70 = .ok (.istore 4, 2) := by decide +kernel
theorem d_Mo_told_72 : decode m_Mo_told.2.1 72 = .ok (.iinc 5 1, 3) := by decide +kernel
theorem d_Mo_told_75 : decode m_Mo_told.2.1 75 = .ok (.goto (-69), 3) := by decide +kernel
theorem d_Mo_told_78 : decode m_Mo_told.2.1 78 = .ok (.iload 4, 2) := by decide +kernel
theorem d_Mo_told_80 : decode m_Mo_told.2.1 80 = .ok (.iconst (-1), 1) := by decide +kernel
theorem d_Mo_told_81 : decode m_Mo_told.2.1 81 = .ok (.if_icmp .ne 9, 3) := by decide +kernel
theorem d_Mo_told_84 : decode m_Mo_told.2.1 84 = .ok (.ldc_w 266, 3) := by decide +kernel
theorem d_Mo_told_87 : decode m_Mo_told.2.1 87 = .ok (.goto 39, 3) := by decide +kernel
theorem d_Mo_told_90 : decode m_Mo_told.2.1 90 = .ok (.iload_n 3, 1) := by decide +kernel
theorem d_Mo_told_91 : decode m_Mo_told.2.1 91 = .ok (.ifCond .ne 13, 3) := by decide +kernel
theorem d_Mo_told_94 : decode m_Mo_told.2.1 94 = .ok (.aload_n 0, 1) := by decide +kernel
theorem d_Mo_told_95 : decode m_Mo_told.2.1 95 = .ok (.getfield 100, 3) := by decide +kernel
theorem d_Mo_told_98 : decode m_Mo_told.2.1 98 = .ok (.iload 4, 2) := by decide +kernel
theorem d_Mo_told_100 : decode m_Mo_told.2.1 100 = .ok (.iaload, 1) := by decide +kernel
theorem d_Mo_told_101 : decode m_Mo_told.2.1 101 = .ok (.goto 25, 3) := by decide +kernel
theorem d_Mo_told_104 : decode m_Mo_told.2.1 104 = .ok (.iload_n 3, 1) := by decide +kernel
theorem d_Mo_told_105 : decode m_Mo_told.2.1 105 = .ok (.iconst 1, 1) := by decide +kernel
theorem d_Mo_told_106 : decode m_Mo_told.2.1 106 = .ok (.if_icmp .ne 13, 3) := by decide +kernel
theorem d_Mo_told_109 : decode m_Mo_told.2.1 109 = .ok (.aload_n 0, 1) := by decide +kernel
theorem d_Mo_told_110 : decode m_Mo_told.2.1 110 = .ok (.getfield 103, 3) := by decide +kernel
theorem d_Mo_told_113 : decode m_Mo_told.2.1 113 = .ok (.iload 4, 2) := by decide +kernel
theorem d_Mo_told_115 : decode m_Mo_told.2.1 115 = .ok (.iaload, 1) := by decide +kernel
theorem d_Mo_told_116 : decode m_Mo_told.2.1 116 = .ok (.goto 10, 3) := by decide +kernel
theorem d_Mo_told_119 : decode m_Mo_told.2.1 119 = .ok (.aload_n 0, 1) := by decide +kernel
theorem d_Mo_told_120 : decode m_Mo_told.2.1 120 = .ok (.getfield 97, 3) := by decide +kernel
theorem d_Mo_told_123 : decode m_Mo_told.2.1 123 = .ok (.iload 4, 2) := by decide +kernel
theorem d_Mo_told_125 : decode m_Mo_told.2.1 125 = .ok (.iaload, 1) := by decide +kernel
theorem d_Mo_told_126 : decode m_Mo_told.2.1 126 = .ok (.ireturn, 1) := by decide +kernel
theorem d_Mo_isAsked_0 : decode m_Mo_isAsked.2.1 0 = .ok (.iload_n 1, 1) := by decide +kernel
theorem d_Mo_isAsked_1 : decode m_Mo_isAsked.2.1 1 = .ok (.iconst 0, 1) := by decide +kernel
theorem d_Mo_isAsked_2 : decode m_Mo_isAsked.2.1 2 = .ok (.sipush 999, 3) := by decide +kernel
theorem d_Mo_isAsked_5 : decode m_Mo_isAsked.2.1 5 = .ok (.invokestatic 142, 3) := by decide +kernel
theorem d_Mo_isAsked_8 : decode m_Mo_isAsked.2.1 8 = .ok (.ifCond .eq 16, 3) := by decide +kernel
theorem d_Mo_isAsked_11 : decode m_Mo_isAsked.2.1 11 = .ok (.iload_n 2, 1) := by decide +kernel
theorem d_Mo_isAsked_12 : decode m_Mo_isAsked.2.1 12 = .ok (.iconst 0, 1) := by decide +kernel
theorem d_Mo_isAsked_13 : decode m_Mo_isAsked.2.1 13 = .ok (.iconst 2, 1) := by decide +kernel
theorem d_Mo_isAsked_14 : decode m_Mo_isAsked.2.1 14 = .ok (.invokestatic 142, 3) := by decide +kernel
theorem d_Mo_isAsked_17 : decode m_Mo_isAsked.2.1 17 = .ok (.ifCond .eq 7, 3) := by decide +kernel
theorem d_Mo_isAsked_20 : decode m_Mo_isAsked.2.1 20 = .ok (.iconst 1, 1) := by decide +kernel
theorem d_Mo_isAsked_21 : decode m_Mo_isAsked.2.1 21 = .ok (.goto 4, 3) := by decide +kernel
theorem d_Mo_isAsked_24 : decode m_Mo_isAsked.2.1 24 = .ok (.iconst 0, 1) := by decide +kernel
theorem d_Mo_isAsked_25 : decode m_Mo_isAsked.2.1 25 = .ok (.ireturn, 1) := by decide +kernel
theorem d_Mo_result_0 : decode m_Mo_result.2.1 0 = .ok (.aload_n 0, 1) := by decide +kernel
theorem d_Mo_result_1 : decode m_Mo_result.2.1 1 = .ok (.iload_n 1, 1) := by decide +kernel
theorem d_Mo_result_2 : decode m_Mo_result.2.1 2 = .ok (.invokestatic 159, 3) := by decide +kernel
theorem d_Mo_result_5 : decode m_Mo_result.2.1 5 = .ok (.ifCond .ne 7, 3) := by decide +kernel
theorem d_Mo_result_8 : decode m_Mo_result.2.1 8 = .ok (.iconst 1, 1) := by decide +kernel
theorem d_Mo_result_9 : decode m_Mo_result.2.1 9 = .ok (.goto 17, 3) := by decide +kernel
theorem d_Mo_result_12 : decode m_Mo_result.2.1 12 = .ok (.aload_n 0, 1) := by decide +kernel
theorem d_Mo_result_13 : decode m_Mo_result.2.1 13 = .ok (.iload_n 2, 1) := by decide +kernel
theorem d_Mo_result_14 : decode m_Mo_result.2.1 14 = .ok (.iload_n 3, 1) := by decide +kernel
theorem d_Mo_result_15 : decode m_Mo_result.2.1 15 = .ok (.invokevirtual 270, 3) := by decide +kernel
theorem d_Mo_result_18 : decode m_Mo_result.2.1 18 = .ok (.ifCond .ne 7, 3) := by decide +kernel
theorem d_Mo_result_21 : decode m_Mo_result.2.1 21 = .ok (.iconst 2, 1) := by decide +kernel
theorem d_Mo_result_22 : decode m_Mo_result.2.1 22 = .ok (.goto 4, 3) := by decide +kernel
theorem d_Mo_result_25 : decode m_Mo_result.2.1 25 = .ok (.iconst 0, 1) := by decide +kernel
theorem d_Mo_result_26 : decode m_Mo_result.2.1 26 = .ok (.invokevirtual 149, 3) := by decide +kernel
theorem d_Mo_result_29 : decode m_Mo_result.2.1 29 = .ok (.ifCond .eq 13, 3) := by decide +kernel
theorem d_Mo_result_32 : decode m_Mo_result.2.1 32 = .ok (.aload_n 0, 1) := by decide +kernel
theorem d_Mo_result_33 : decode m_Mo_result.2.1 33 = .ok (.iload_n 1, 1) := by decide +kernel
theorem d_Mo_result_34 : decode m_Mo_result.2.1 34 = .ok (.iload_n 2, 1) := by decide +kernel
theorem d_Mo_result_35 : decode m_Mo_result.2.1 35 = .ok (.iload_n 3, 1) := by decide +kernel
theorem d_Mo_result_36 : decode m_Mo_result.2.1 36 = .ok (.invokevirtual 273, 3) := by decide +kernel
theorem d_Mo_result_39 : decode m_Mo_result.2.1 39 = .ok (.goto 4, 3) := by decide +kernel
theorem d_Mo_result_42 : decode m_Mo_result.2.1 42 = .ok (.iconst 0, 1) := by decide +kernel
theorem d_Mo_result_43 : decode m_Mo_result.2.1 43 = .ok (.ireturn, 1) := by decide +kernel
theorem d_Mo_resultAnew_0 : decode m_Mo_resultAnew.2.1 0 = .ok (.aload_n 0, 1) := by decide +kernel
theorem d_Mo_resultAnew_1 : decode m_Mo_resultAnew.2.1 1 = .ok (.iload_n 1, 1) := by decide +kernel
theorem d_Mo_resultAnew_2 : decode m_Mo_resultAnew.2.1 2 = .ok (.invokestatic 159, 3) := by decide +kernel
theorem d_Mo_resultAnew_5 : decode m_Mo_resultAnew.2.1 5 = .ok (.ifCond .ne 7, 3) := by decide +kernel
theorem d_Mo_resultAnew_8 : decode m_Mo_resultAnew.2.1 8 = .ok (.iconst 1, 1) := by decide +kernel
theorem d_Mo_resultAnew_9 : decode m_Mo_resultAnew.2.1 9 = .ok (.goto 17, 3) := by decide +kernel
theorem d_Mo_resultAnew_12 : decode m_Mo_resultAnew.2.1 12 = .ok (.aload_n 0, 1) := by decide +kernel
theorem d_Mo_resultAnew_13 : decode m_Mo_resultAnew.2.1 13 = .ok (.iload_n 2, 1) := by decide +kernel
theorem d_Mo_resultAnew_14 : decode m_Mo_resultAnew.2.1 14 = .ok (.iload_n 3, 1) := by decide +kernel
theorem d_Mo_resultAnew_15 : decode m_Mo_resultAnew.2.1 15 = .ok (.invokevirtual 270, 3) := by decide +kernel
theorem d_Mo_resultAnew_18 : decode m_Mo_resultAnew.2.1 18 = .ok (.ifCond .ne 7, 3) := by decide +kernel
theorem d_Mo_resultAnew_21 : decode m_Mo_resultAnew.2.1 21 = .ok (.iconst 2, 1) := by decide +kernel
theorem d_Mo_resultAnew_22 : decode m_Mo_resultAnew.2.1 22 = .ok (.goto 4, 3) := by decide +kernel
theorem d_Mo_resultAnew_25 : decode m_Mo_resultAnew.2.1 25 = .ok (.iconst 0, 1) := by decide +kernel
theorem d_Mo_resultAnew_26 : decode m_Mo_resultAnew.2.1 26 = .ok (.invokevirtual 149, 3) := by decide +kernel
theorem d_Mo_resultAnew_29 : decode m_Mo_resultAnew.2.1 29 = .ok (.ifCond .eq 13, 3) := by decide +kernel
theorem d_Mo_resultAnew_32 : decode m_Mo_resultAnew.2.1 32 = .ok (.aload_n 0, 1) := by decide +kernel
theorem d_Mo_resultAnew_33 : decode m_Mo_resultAnew.2.1 33 = .ok (.iload_n 1, 1) := by decide +kernel
theorem d_Mo_resultAnew_34 : decode m_Mo_resultAnew.2.1 34 = .ok (.iload_n 2, 1) := by decide +kernel
theorem d_Mo_resultAnew_35 : decode m_Mo_resultAnew.2.1 35 = .ok (.iload_n 3, 1) := by decide +kernel
theorem d_Mo_resultAnew_36 : decode m_Mo_resultAnew.2.1 36 = .ok (.invokevirtual 273, 3) := by decide +kernel
theorem d_Mo_resultAnew_39 : decode m_Mo_resultAnew.2.1 39 = .ok (.goto 4, 3) := by decide +kernel
theorem d_Mo_resultAnew_42 : decode m_Mo_resultAnew.2.1 42 = .ok (.iconst 0, 1) := by decide +kernel
theorem d_Mo_resultAnew_43 : decode m_Mo_resultAnew.2.1 43 = .ok (.ireturn, 1) := by decide +kernel
theorem d_AbC_init_0 : decode m_AbC_init.2.1 0 = .ok (.aload_n 0, 1) := by decide +kernel
theorem d_AbC_init_1 : decode m_AbC_init.2.1 1 = .ok (.invokespecial 1, 3) := by decide +kernel
theorem d_AbC_init_4 : decode m_AbC_init.2.1 4 = .ok (.return_, 1) := by decide +kernel
theorem d_AbL_init_0 : decode m_AbL_init.2.1 0 = .ok (.aload_n 0, 1) := by decide +kernel
theorem d_AbL_init_1 : decode m_AbL_init.2.1 1 = .ok (.invokespecial 1, 3) := by decide +kernel
theorem d_AbL_init_4 : decode m_AbL_init.2.1 4 = .ok (.aload_n 0, 1) := by decide +kernel
theorem d_AbL_init_5 : decode m_AbL_init.2.1 5 = .ok (.iconst 0, 1) := by decide +kernel
theorem d_AbL_init_6 : decode m_AbL_init.2.1 6 = .ok (.putfield 7, 3) := by decide +kernel
theorem d_AbL_init_9 : decode m_AbL_init.2.1 9 = .ok (.return_, 1) := by decide +kernel
theorem d_AL_init_0 : decode m_AL_init.2.1 0 = .ok (.aload_n 0, 1) := by decide +kernel
theorem d_AL_init_1 : decode m_AL_init.2.1 1 = .ok (.invokespecial 1, 3) := by decide +kernel
theorem d_AL_init_4 : decode m_AL_init.2.1 4 = .ok (.aload_n 0, 1) := by decide +kernel
theorem d_AL_init_5 : decode m_AL_init.2.1 5 = .ok (.getstatic 39, 3) := by decide +kernel
theorem d_AL_init_8 : decode m_AL_init.2.1 8 = .ok (.putfield 9, 3) := by decide +kernel
theorem d_AL_init_11 : decode m_AL_init.2.1 11 = .ok (.return_, 1) := by decide +kernel
theorem d_AL_grow1_0 : decode m_AL_grow1.2.1 0 = .ok (.aload_n 0, 1) := by decide +kernel
theorem d_AL_grow1_1 : decode m_AL_grow1.2.1 1 = .ok (.getfield 9, 3) := by decide +kernel
theorem d_AL_grow1_4 : decode m_AL_grow1.2.1 4 = .ok (.arraylength, 1) := by decide +kernel
theorem d_AL_grow1_5 : decode m_AL_grow1.2.1 5 = .ok (.istore_n 2, 1) := by decide +kernel
theorem d_AL_grow1_6 : decode m_AL_grow1.2.1 6 = .ok (.iload_n 2, 1) := by decide +kernel
theorem d_AL_grow1_7 : decode m_AL_grow1.2.1 7 = .ok (.ifCond .gt 13, 3) := by decide +kernel
theorem d_AL_grow1_10 : decode m_AL_grow1.2.1 10 = .ok (.aload_n 0, 1) := by decide +kernel
theorem d_AL_grow1_11 : decode m_AL_grow1.2.1 11 = .ok (.getfield 9, 3) := by decide +kernel
theorem d_AL_grow1_14 : decode m_AL_grow1.2.1 14 = .ok (.getstatic 39, 3) := by decide +kernel
theorem d_AL_grow1_17 : decode m_AL_grow1.2.1 17 = .ok (.if_acmp .eq 28, 3) := by decide +kernel
theorem d_AL_grow1_20 : decode m_AL_grow1.2.1 20 = .ok (.iload_n 2, 1) := by decide +kernel
theorem d_AL_grow1_21 : decode m_AL_grow1.2.1 21 = .ok (.iload_n 1, 1) := by decide +kernel
theorem d_AL_grow1_22 : decode m_AL_grow1.2.1 22 = .ok (.iload_n 2, 1) := by decide +kernel
theorem d_AL_grow1_23 : decode m_AL_grow1.2.1 23 = .ok (.isub, 1) := by decide +kernel
theorem d_AL_grow1_24 : decode m_AL_grow1.2.1 24 = .ok (.iload_n 2, 1) := by decide +kernel
theorem d_AL_grow1_25 : decode m_AL_grow1.2.1 25 = .ok (.iconst 1, 1) := by decide +kernel
theorem d_AL_grow1_26 : decode m_AL_grow1.2.1 26 = .ok (.ishr, 1) := by decide +kernel
theorem d_AL_grow1_27 : decode m_AL_grow1.2.1 27 = .ok (.invokestatic 73, 3) := by decide +kernel
theorem d_AL_grow1_30 : decode m_AL_grow1.2.1 30 = .ok (.istore_n 3, 1) := by decide +kernel
theorem d_AL_grow1_31 : decode m_AL_grow1.2.1 31 = .ok (.aload_n 0, 1) := by decide +kernel
theorem d_AL_grow1_32 : decode m_AL_grow1.2.1 32 = .ok (.aload_n 0, 1) := by decide +kernel
theorem d_AL_grow1_33 : decode m_AL_grow1.2.1 33 = .ok (.getfield 9, 3) := by decide +kernel
theorem d_AL_grow1_36 : decode m_AL_grow1.2.1 36 = .ok (.iload_n 3, 1) := by decide +kernel
theorem d_AL_grow1_37 : decode m_AL_grow1.2.1 37 = .ok (.invokestatic 66, 3) := by decide +kernel
theorem d_AL_grow1_40 : decode m_AL_grow1.2.1 40 = .ok (.dup_x1, 1) := by decide +kernel
theorem d_AL_grow1_41 : decode m_AL_grow1.2.1 41 = .ok (.putfield 9, 3) := by decide +kernel
theorem d_AL_grow1_44 : decode m_AL_grow1.2.1 44 = .ok (.areturn, 1) := by decide +kernel
theorem d_AL_grow1_45 : decode m_AL_grow1.2.1 45 = .ok (.aload_n 0, 1) := by decide +kernel
theorem d_AL_grow1_46 : decode m_AL_grow1.2.1 46 = .ok (.bipush 10, 2) := by decide +kernel
theorem d_AL_grow1_48 : decode m_AL_grow1.2.1 48 = .ok (.iload_n 1, 1) := by decide +kernel
theorem d_AL_grow1_49 : decode m_AL_grow1.2.1 49 = .ok (.invokestatic 79, 3) := by decide +kernel
theorem d_AL_grow1_52 : decode m_AL_grow1.2.1 52 = .ok (.anewarray 7, 3) := by decide +kernel
theorem d_AL_grow1_55 : decode m_AL_grow1.2.1 55 = .ok (.dup_x1, 1) := by decide +kernel
theorem d_AL_grow1_56 : decode m_AL_grow1.2.1 56 = .ok (.putfield 9, 3) := by decide +kernel
theorem d_AL_grow1_59 : decode m_AL_grow1.2.1 59 = .ok (.areturn, 1) := by decide +kernel
theorem d_AL_grow_0 : decode m_AL_grow.2.1 0 = .ok (.aload_n 0, 1) := by decide +kernel
theorem d_AL_grow_1 : decode m_AL_grow.2.1 1 = .ok (.aload_n 0, 1) := by decide +kernel
theorem d_AL_grow_2 : decode m_AL_grow.2.1 2 = .ok (.getfield 48, 3) := by decide +kernel
theorem d_AL_grow_5 : decode m_AL_grow.2.1 5 = .ok (.iconst 1, 1) := by decide +kernel
theorem d_AL_grow_6 : decode m_AL_grow.2.1 6 = .ok (.iadd, 1) := by decide +kernel
theorem d_AL_grow_7 : decode m_AL_grow.2.1 7 = .ok (.invokevirtual 69, 3) := by decide +kernel
theorem d_AL_grow_10 : decode m_AL_grow.2.1 10 = .ok (.areturn, 1) := by decide +kernel
theorem d_AL_size_0 : decode m_AL_size.2.1 0 = .ok (.aload_n 0, 1) := by decide +kernel
theorem d_AL_size_1 : decode m_AL_size.2.1 1 = .ok (.getfield 48, 3) := by decide +kernel
theorem d_AL_size_4 : decode m_AL_size.2.1 4 = .ok (.ireturn, 1) := by decide +kernel
theorem d_AL_elementData_0 : decode m_AL_elementData.2.1 0 = .ok (.aload_n 0, 1) := by decide +kernel
theorem d_AL_elementData_1 : decode m_AL_elementData.2.1 1 = .ok (.getfield 9, 3) := by decide +kernel
theorem d_AL_elementData_4 : decode m_AL_elementData.2.1 4 = .ok (.iload_n 1, 1) := by decide +kernel
theorem d_AL_elementData_5 : decode m_AL_elementData.2.1 5 = .ok (.aaload, 1) := by decide +kernel
theorem d_AL_elementData_6 : decode m_AL_elementData.2.1 6 = .ok (.areturn, 1) := by decide +kernel
theorem d_AL_get_0 : decode m_AL_get.2.1 0 = .ok (.iload_n 1, 1) := by decide +kernel
theorem d_AL_get_1 : decode m_AL_get.2.1 1 = .ok (.aload_n 0, 1) := by decide +kernel
theorem d_AL_get_2 : decode m_AL_get.2.1 2 = .ok (.getfield 48, 3) := by decide +kernel
theorem d_AL_get_5 : decode m_AL_get.2.1 5 = .ok (.invokestatic 118, 3) := by decide +kernel
theorem d_AL_get_8 : decode m_AL_get.2.1 8 = .ok (.pop, 1) := by decide +kernel
theorem d_AL_get_9 : decode m_AL_get.2.1 9 = .ok (.aload_n 0, 1) := by decide +kernel
theorem d_AL_get_10 : decode m_AL_get.2.1 10 = .ok (.iload_n 1, 1) := by decide +kernel
theorem d_AL_get_11 : decode m_AL_get.2.1 11 = .ok (.invokevirtual 123, 3) := by decide +kernel
theorem d_AL_get_14 : decode m_AL_get.2.1 14 = .ok (.areturn, 1) := by decide +kernel
theorem d_AL_add3_0 : decode m_AL_add3.2.1 0 = .ok (.iload_n 3, 1) := by decide +kernel
theorem d_AL_add3_1 : decode m_AL_add3.2.1 1 = .ok (.aload_n 2, 1) := by decide +kernel
theorem d_AL_add3_2 : decode m_AL_add3.2.1 2 = .ok (.arraylength, 1) := by decide +kernel
theorem d_AL_add3_3 : decode m_AL_add3.2.1 3 = .ok (.if_icmp .ne 8, 3) := by decide +kernel
theorem d_AL_add3_6 : decode m_AL_add3.2.1 6 = .ok (.aload_n 0, 1) := by decide +kernel
theorem d_AL_add3_7 : decode m_AL_add3.2.1 7 = .ok (.invokevirtual 129, 3) := by decide +kernel
theorem d_AL_add3_10 : decode m_AL_add3.2.1 10 = .ok (.astore_n 2, 1) := by decide +kernel
theorem d_AL_add3_11 : decode m_AL_add3.2.1 11 = .ok (.aload_n 2, 1) := by decide +kernel
theorem d_AL_add3_12 : decode m_AL_add3.2.1 12 = .ok (.iload_n 3, 1) := by decide +kernel
theorem d_AL_add3_13 : decode m_AL_add3.2.1 13 = .ok (.aload_n 1, 1) := by decide +kernel
theorem d_AL_add3_14 : decode m_AL_add3.2.1 14 = .ok (.aastore, 1) := by decide +kernel
theorem d_AL_add3_15 : decode m_AL_add3.2.1 15 = .ok (.aload_n 0, 1) := by decide +kernel
theorem d_AL_add3_16 : decode m_AL_add3.2.1 16 = .ok (.iload_n 3, 1) := by decide +kernel
theorem d_AL_add3_17 : decode m_AL_add3.2.1 17 = .ok (.iconst 1, 1) := by decide +kernel
theorem d_AL_add3_18 : decode m_AL_add3.2.1 18 = .ok (.iadd, 1) := by decide +kernel
theorem d_AL_add3_19 : decode m_AL_add3.2.1 19 = .ok (.putfield 48, 3) := by decide +kernel
theorem d_AL_add3_22 : decode m_AL_add3.2.1 22 = .ok (.return_, 1) := by decide +kernel
theorem d_AL_add_0 : decode m_AL_add.2.1 0 = .ok (.aload_n 0, 1) := by decide +kernel
theorem d_AL_add_1 : decode m_AL_add.2.1 1 = .ok (.dup, 1) := by decide +kernel
theorem d_AL_add_2 : decode m_AL_add.2.1 2 = .ok (.getfield 63, 3) := by decide +kernel
theorem d_AL_add_5 : decode m_AL_add.2.1 5 = .ok (.iconst 1, 1) := by decide +kernel
theorem d_AL_add_6 : decode m_AL_add.2.1 6 = .ok (.iadd, 1) := by decide +kernel
theorem d_AL_add_7 : decode m_AL_add.2.1 7 = .ok (.putfield 63, 3) := by decide +kernel
theorem d_AL_add_10 : decode m_AL_add.2.1 10 = .ok (.aload_n 0, 1) := by decide +kernel
theorem d_AL_add_11 : decode m_AL_add.2.1 11 = .ok (.aload_n 1, 1) := by decide +kernel
theorem d_AL_add_12 : decode m_AL_add.2.1 12 = .ok (.aload_n 0, 1) := by decide +kernel
theorem d_AL_add_13 : decode m_AL_add.2.1 13 = .ok (.getfield 9, 3) := by decide +kernel
theorem d_AL_add_16 : decode m_AL_add.2.1 16 = .ok (.aload_n 0, 1) := by decide +kernel
theorem d_AL_add_17 : decode m_AL_add.2.1 17 = .ok (.getfield 48, 3) := by decide +kernel
theorem d_AL_add_20 : decode m_AL_add.2.1 20 = .ok (.invokevirtual 131, 3) := by decide +kernel
theorem d_AL_add_23 : decode m_AL_add.2.1 23 = .ok (.iconst 1, 1) := by decide +kernel
theorem d_AL_add_24 : decode m_AL_add.2.1 24 = .ok (.ireturn, 1) := by decide +kernel
theorem d_AL_addAt_0 : decode m_AL_addAt.2.1 0 = .ok (.aload_n 0, 1) := by decide +kernel
theorem d_AL_addAt_1 : decode m_AL_addAt.2.1 1 = .ok (.iload_n 1, 1) := by decide +kernel
theorem d_AL_addAt_2 : decode m_AL_addAt.2.1 2 = .ok (.invokevirtual 135, 3) := by decide +kernel
theorem d_AL_addAt_5 : decode m_AL_addAt.2.1 5 = .ok (.aload_n 0, 1) := by decide +kernel
theorem d_AL_addAt_6 : decode m_AL_addAt.2.1 6 = .ok (.dup, 1) := by decide +kernel
theorem d_AL_addAt_7 : decode m_AL_addAt.2.1 7 = .ok (.getfield 63, 3) := by decide +kernel
theorem d_AL_addAt_10 : decode m_AL_addAt.2.1 10 = .ok (.iconst 1, 1) := by decide +kernel
theorem d_AL_addAt_11 : decode m_AL_addAt.2.1 11 = .ok (.iadd, 1) := by decide +kernel
theorem d_AL_addAt_12 : decode m_AL_addAt.2.1 12 = .ok (.putfield 63, 3) := by decide +kernel
theorem d_AL_addAt_15 : decode m_AL_addAt.2.1 15 = .ok (.aload_n 0, 1) := by decide +kernel
theorem d_AL_addAt_16 : decode m_AL_addAt.2.1 16 = .ok (.getfield 48, 3) := by decide +kernel
theorem d_AL_addAt_19 : decode m_AL_addAt.2.1 19 = .ok (.dup, 1) := by decide +kernel
theorem d_AL_addAt_20 : decode m_AL_addAt.2.1 20 = .ok (.istore_n 3, 1) := by decide +kernel
theorem d_AL_addAt_21 : decode m_AL_addAt.2.1 21 = .ok (.aload_n 0, 1) := by decide +kernel
theorem d_AL_addAt_22 : decode m_AL_addAt.2.1 22 = .ok (.getfield 9, 3) := by decide +kernel
theorem d_AL_addAt_25 : decode m_AL_addAt.2.1 25 = .ok (.dup, 1) := by decide +kernel
theorem d_AL_addAt_26 : decode m_AL_addAt.2.1 26 = .ok (.astore 4, 2) := by decide +kernel
theorem d_AL_addAt_28 : decode m_AL_addAt.2.1 28 = .ok (.arraylength, 1) := by decide +kernel
theorem d_AL_addAt_29 : decode m_AL_addAt.2.1 29 = .ok (.if_icmp .ne 9, 3) := by decide +kernel
theorem d_AL_addAt_32 : decode m_AL_addAt.2.1 32 = .ok (.aload_n 0, 1) := by decide +kernel
theorem d_AL_addAt_33 : decode m_AL_addAt.2.1 33 = .ok (.invokevirtual 129, 3) := by decide +kernel
theorem d_AL_addAt_36 : decode m_AL_addAt.2.1 36 = .ok (.astore 4, 2) := by decide +kernel
theorem d_AL_addAt_38 : decode m_AL_addAt.2.1 38 = .ok (.aload 4, 2) := by decide +kernel
theorem d_AL_addAt_40 : decode m_AL_addAt.2.1 40 = .ok (.iload_n 1, 1) := by decide +kernel
theorem d_AL_addAt_41 : decode m_AL_addAt.2.1 41 = .ok (.aload 4, 2) := by decide +kernel
theorem d_AL_addAt_43 : decode m_AL_addAt.2.1 43 = .ok (.iload_n 1, 1) := by decide +kernel
theorem d_AL_addAt_44 : decode m_AL_addAt.2.1 44 = .ok (.iconst 1, 1) := by decide +kernel
theorem d_AL_addAt_45 : decode m_AL_addAt.2.1 45 = .ok (.iadd, 1) := by decide +kernel
theorem d_AL_addAt_46 : decode m_AL_addAt.2.1 46 = .ok (.iload_n 3, 1) := by decide +kernel
theorem d_AL_addAt_47 : decode m_AL_addAt.2.1 47 = .ok (.iload_n 1, 1) := by decide +kernel
theorem d_AL_addAt_48 : decode m_AL_addAt.2.1 48 = .ok (.isub, 1) := by decide +kernel
theorem d_AL_addAt_49 : decode m_AL_addAt.2.1 49 = .ok (.invokestatic 112, 3) := by decide +kernel
theorem d_AL_addAt_52 : decode m_AL_addAt.2.1 52 = .ok (.aload 4, 2) := by decide +kernel
theorem d_AL_addAt_54 : decode m_AL_addAt.2.1 54 = .ok (.iload_n 1, 1) := by decide +kernel
theorem d_AL_addAt_55 : decode m_AL_addAt.2.1 55 = .ok (.aload_n 2, 1) := by decide +kernel
theorem d_AL_addAt_56 : decode m_AL_addAt.2.1 56 = .ok (.aastore, 1) := by decide +kernel
theorem d_AL_addAt_57 : decode m_AL_addAt.2.1 57 = .ok (.aload_n 0, 1) := by decide +kernel
theorem d_AL_addAt_58 : decode m_AL_addAt.2.1 58 = .ok (.iload_n 3, 1) := by decide +kernel
theorem d_AL_addAt_59 : decode m_AL_addAt.2.1 59 = .ok (.iconst 1, 1) := by decide +kernel
theorem d_AL_addAt_60 : decode m_AL_addAt.2.1 60 = .ok (.iadd, 1) := by decide +kernel
theorem d_AL_addAt_61 : decode m_AL_addAt.2.1 61 = .ok (.putfield 48, 3) := by decide +kernel
theorem d_AL_addAt_64 : decode m_AL_addAt.2.1 64 = .ok (.return_, 1) := by decide +kernel
theorem d_AL_remove_0 : decode m_AL_remove.2.1 0 = .ok (.iload_n 1, 1) := by decide +kernel
theorem d_AL_remove_1 : decode m_AL_remove.2.1 1 = .ok (.aload_n 0, 1) := by decide +kernel
theorem d_AL_remove_2 : decode m_AL_remove.2.1 2 = .ok (.getfield 48, 3) := by decide +kernel
theorem d_AL_remove_5 : decode m_AL_remove.2.1 5 = .ok (.invokestatic 118, 3) := by decide +kernel
theorem d_AL_remove_8 : decode m_AL_remove.2.1 8 = .ok (.pop, 1) := by decide +kernel
theorem d_AL_remove_9 : decode m_AL_remove.2.1 9 = .ok (.aload_n 0, 1) := by decide +kernel
theorem d_AL_remove_10 : decode m_AL_remove.2.1 10 = .ok (.getfield 9, 3) := by decide +kernel
theorem d_AL_remove_13 : decode m_AL_remove.2.1 13 = .ok (.astore_n 2, 1) := by decide +kernel
theorem d_AL_remove_14 : decode m_AL_remove.2.1 14 = .ok (.aload_n 2, 1) := by decide +kernel
theorem d_AL_remove_15 : decode m_AL_remove.2.1 15 = .ok (.iload_n 1, 1) := by decide +kernel
theorem d_AL_remove_16 : decode m_AL_remove.2.1 16 = .ok (.aaload, 1) := by decide +kernel
theorem d_AL_remove_17 : decode m_AL_remove.2.1 17 = .ok (.astore_n 3, 1) := by decide +kernel
theorem d_AL_remove_18 : decode m_AL_remove.2.1 18 = .ok (.aload_n 0, 1) := by decide +kernel
theorem d_AL_remove_19 : decode m_AL_remove.2.1 19 = .ok (.aload_n 2, 1) := by decide +kernel
theorem d_AL_remove_20 : decode m_AL_remove.2.1 20 = .ok (.iload_n 1, 1) := by decide +kernel
theorem d_AL_remove_21 : decode m_AL_remove.2.1 21 = .ok (.invokevirtual 144, 3) := by decide +kernel
theorem d_AL_remove_24 : decode m_AL_remove.2.1 24 = .ok (.aload_n 3, 1) := by decide +kernel
theorem d_AL_remove_25 : decode m_AL_remove.2.1 25 = .ok (.areturn, 1) := by decide +kernel
theorem d_AL_fastRemove_0 : decode m_AL_fastRemove.2.1 0 = .ok (.aload_n 0, 1) := by decide +kernel
theorem d_AL_fastRemove_1 : decode m_AL_fastRemove.2.1 1 = .ok (.dup, 1) := by decide +kernel
theorem d_AL_fastRemove_2 : decode m_AL_fastRemove.2.1 2 = .ok (.getfield 63, 3) := by decide +kernel
theorem d_AL_fastRemove_5 : decode m_AL_fastRemove.2.1 5 = .ok (.iconst 1, 1) := by decide +kernel
theorem d_AL_fastRemove_6 : decode m_AL_fastRemove.2.1 6 = .ok (.iadd, 1) := by decide +kernel
theorem d_AL_fastRemove_7 : decode m_AL_fastRemove.2.1 7 = .ok (.putfield 63, 3) := by decide +kernel
theorem d_AL_fastRemove_10 : decode m_AL_fastRemove.2.1 10 = .ok (.aload_n 0, 1) := by decide +kernel
theorem d_AL_fastRemove_11 : decode m_AL_fastRemove.2.1 11 = .ok (.getfield 48, 3) := by decide +kernel
theorem d_AL_fastRemove_14 : decode m_AL_fastRemove.2.1 14 = .ok (.iconst 1, 1) := by decide +kernel
theorem d_AL_fastRemove_15 : decode m_AL_fastRemove.2.1 15 = .ok (.isub, 1) := by decide +kernel
theorem d_AL_fastRemove_16 : decode m_AL_fastRemove.2.1 16 = .ok (.dup, 1) := by decide +kernel
theorem d_AL_fastRemove_17 : decode m_AL_fastRemove.2.1 17 = .ok (.istore_n 3, 1) := by decide +kernel
theorem d_AL_fastRemove_18 : decode m_AL_fastRemove.2.1 18 = .ok (.iload_n 2, 1) := by decide +kernel
theorem d_AL_fastRemove_19 : decode m_AL_fastRemove.2.1 19 = .ok (.if_icmp .le 15, 3) := by decide +kernel
theorem d_AL_fastRemove_22 : decode m_AL_fastRemove.2.1 22 = .ok (.aload_n 1, 1) := by decide +kernel
theorem d_AL_fastRemove_23 : decode m_AL_fastRemove.2.1 23 = .ok (.iload_n 2, 1) := by decide +kernel
theorem d_AL_fastRemove_24 : decode m_AL_fastRemove.2.1 24 = .ok (.iconst 1, 1) := by decide +kernel
theorem d_AL_fastRemove_25 : decode m_AL_fastRemove.2.1 25 = .ok (.iadd, 1) := by decide +kernel
theorem d_AL_fastRemove_26 : decode m_AL_fastRemove.2.1 26 = .ok (.aload_n 1, 1) := by decide +kernel
theorem d_AL_fastRemove_27 : decode m_AL_fastRemove.2.1 27 = .ok (.iload_n 2, 1) := by decide +kernel
theorem d_AL_fastRemove_28 : decode m_AL_fastRemove.2.1 28 = .ok (.iload_n 3, 1) := by decide +kernel
theorem d_AL_fastRemove_29 : decode m_AL_fastRemove.2.1 29 = .ok (.iload_n 2, 1) := by decide +kernel
theorem d_AL_fastRemove_30 : decode m_AL_fastRemove.2.1 30 = .ok (.isub, 1) := by decide +kernel
theorem d_AL_fastRemove_31 : decode m_AL_fastRemove.2.1 31 = .ok (.invokestatic 112, 3) := by decide +kernel
theorem d_AL_fastRemove_34 : decode m_AL_fastRemove.2.1 34 = .ok (.aload_n 1, 1) := by decide +kernel
theorem d_AL_fastRemove_35 : decode m_AL_fastRemove.2.1 35 = .ok (.aload_n 0, 1) := by decide +kernel
theorem d_AL_fastRemove_36 : decode m_AL_fastRemove.2.1 36 = .ok (.iload_n 3, 1) := by decide +kernel
theorem d_AL_fastRemove_37 : decode m_AL_fastRemove.2.1 37 = .ok (.dup_x1, 1) := by decide +kernel
theorem d_AL_fastRemove_38 : decode m_AL_fastRemove.2.1 38 = .ok (.putfield 48, 3) := by decide +kernel
theorem d_AL_fastRemove_41 : decode m_AL_fastRemove.2.1 41 = .ok (.aconst_null, 1) := by decide +kernel
theorem d_AL_fastRemove_42 : decode m_AL_fastRemove.2.1 42 = .ok (.aastore, 1) := by decide +kernel
theorem d_AL_fastRemove_43 : decode m_AL_fastRemove.2.1 43 = .ok (.return_, 1) := by decide +kernel
theorem d_AL_rangeCheckForAdd_0 : decode m_AL_rangeCheckForAdd.2.1 0 = .ok (.iload_n 1, 1) := by decide +kernel
theorem d_AL_rangeCheckForAdd_1 : decode m_AL_rangeCheckForAdd.2.1 1 = .ok (.aload_n 0, 1) := by decide +kernel
theorem d_AL_rangeCheckForAdd_2 : decode m_AL_rangeCheckForAdd.2.1 2 = .ok (.getfield 48, 3) := by decide +kernel
theorem d_AL_rangeCheckForAdd_5 : decode m_AL_rangeCheckForAdd.2.1 5 = .ok (.if_icmp .gt 7, 3) := by decide +kernel
theorem d_AL_rangeCheckForAdd_8 : decode m_AL_rangeCheckForAdd.2.1 8 = .ok (.iload_n 1, 1) := by decide +kernel
theorem d_AL_rangeCheckForAdd_9 : decode m_AL_rangeCheckForAdd.2.1 9 = .ok (.ifCond .ge 16, 3) := by decide +kernel
theorem d_AL_rangeCheckForAdd_12 : decode m_AL_rangeCheckForAdd.2.1 12 = .ok (.new 187, 3) := by decide +kernel
theorem d_AL_rangeCheckForAdd_15 : decode m_AL_rangeCheckForAdd.2.1 15 = .ok (.dup, 1) := by decide +kernel
theorem d_AL_rangeCheckForAdd_16 : decode m_AL_rangeCheckForAdd.2.1 16 = .ok (.aload_n 0, 1) := by decide +kernel
theorem d_AL_rangeCheckForAdd_17 : decode m_AL_rangeCheckForAdd.2.1 17 = .ok (.iload_n 1, 1) := by decide +kernel
theorem d_AL_rangeCheckForAdd_18 : decode m_AL_rangeCheckForAdd.2.1 18 = .ok (.invokevirtual 198, 3) := by decide +kernel
theorem d_AL_rangeCheckForAdd_21 : decode m_AL_rangeCheckForAdd.2.1 21 = .ok (.invokespecial 193, 3) := by decide +kernel
theorem d_AL_rangeCheckForAdd_24 : decode m_AL_rangeCheckForAdd.2.1 24 = .ok (.athrow, 1) := by decide +kernel
theorem d_AL_rangeCheckForAdd_25 : decode m_AL_rangeCheckForAdd.2.1 25 = .ok (.return_, 1) := by decide +kernel
theorem d_Ar_copyOf_0 : decode m_Ar_copyOf.2.1 0 = .ok (.aload_n 0, 1) := by decide +kernel
