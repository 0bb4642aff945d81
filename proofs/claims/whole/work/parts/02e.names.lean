theorem dX7_pass_186 : decode cX7_pass 186 = .ok (.iconst 1, 1) := by decide +kernel
theorem dX7_pass_187 : decode cX7_pass 187 = .ok (.isub, 1) := by decide +kernel
theorem dX7_pass_188 : decode cX7_pass 188 = .ok (.iaload, 1) := by decide +kernel
theorem dX7_pass_189 : decode cX7_pass 189 = .ok (.invokevirtual 127, 3) := by decide +kernel
theorem dX7_pass_192 : decode cX7_pass 192 = .ok (.iinc 2 1, 3) := by decide +kernel
theorem dX7_pass_195 : decode cX7_pass 195 = .ok (.goto (-64), 3) := by decide +kernel
theorem dX7_pass_198 : decode cX7_pass 198 = .ok (.iconst 0, 1) := by decide +kernel
theorem dX7_pass_199 : decode cX7_pass 199 = .ok (.istore_n 2, 1) := by decide +kernel
theorem dX7_pass_200 : decode cX7_pass 200 = .ok (.iload_n 2, 1) := by decide +kernel
theorem dX7_pass_201 : decode cX7_pass 201 = .ok (.aload_n 0, 1) := by decide +kernel
theorem dX7_pass_202 : decode cX7_pass 202 = .ok (.getfield 91, 3) := by decide +kernel
theorem dX7_pass_205 : decode cX7_pass 205 = .ok (.if_icmp .ge 36, 3) := by decide +kernel
theorem dX7_pass_208 : decode cX7_pass 208 = .ok (.aload_n 0, 1) := by decide +kernel
theorem dX7_pass_209 : decode cX7_pass 209 = .ok (.iload_n 2, 1) := by decide +kernel
theorem dX7_pass_210 : decode cX7_pass 210 = .ok (.invokevirtual 101, 3) := by decide +kernel
theorem dX7_pass_213 : decode cX7_pass 213 = .ok (.iconst (-1), 1) := by decide +kernel
theorem dX7_pass_214 : decode cX7_pass 214 = .ok (.if_icmp .ne 21, 3) := by decide +kernel
theorem dX7_pass_217 : decode cX7_pass 217 = .ok (.aload_n 0, 1) := by decide +kernel
theorem dX7_pass_218 : decode cX7_pass 218 = .ok (.getfield 21, 3) := by decide +kernel
theorem dX7_pass_221 : decode cX7_pass 221 = .ok (.iload_n 2, 1) := by decide +kernel
theorem dX7_pass_222 : decode cX7_pass 222 = .ok (.iconst 0, 1) := by decide +kernel
theorem dX7_pass_223 : decode cX7_pass 223 = .ok (.aload_n 0, 1) := by decide +kernel
theorem dX7_pass_224 : decode cX7_pass 224 = .ok (.getfield 21, 3) := by decide +kernel
theorem dX7_pass_227 : decode cX7_pass 227 = .ok (.iload_n 2, 1) := by decide +kernel
theorem dX7_pass_228 : decode cX7_pass 228 = .ok (.iaload, 1) := by decide +kernel
theorem dX7_pass_229 : decode cX7_pass 229 = .ok (.iconst 2, 1) := by decide +kernel
theorem dX7_pass_230 : decode cX7_pass 230 = .ok (.isub, 1) := by decide +kernel
theorem dX7_pass_231 : decode cX7_pass 231 = .ok (.invokestatic 121, 3) := by decide +kernel
theorem dX7_pass_234 : decode cX7_pass 234 = .ok (.iastore, 1) := by decide +kernel
theorem dX7_pass_235 : decode cX7_pass 235 = .ok (.iinc 2 1, 3) := by decide +kernel
theorem dX7_pass_238 : decode cX7_pass 238 = .ok (.goto (-38), 3) := by decide +kernel
theorem dX7_pass_241 : decode cX7_pass 241 = .ok (.aload_n 0, 1) := by decide +kernel
theorem dX7_pass_242 : decode cX7_pass 242 = .ok (.dup, 1) := by decide +kernel
theorem dX7_pass_243 : decode cX7_pass 243 = .ok (.getfield 81, 3) := by decide +kernel
theorem dX7_pass_246 : decode cX7_pass 246 = .ok (.iconst 1, 1) := by decide +kernel
theorem dX7_pass_247 : decode cX7_pass 247 = .ok (.iadd, 1) := by decide +kernel
theorem dX7_pass_248 : decode cX7_pass 248 = .ok (.putfield 81, 3) := by decide +kernel
theorem dX7_pass_251 : decode cX7_pass 251 = .ok (.aload_n 0, 1) := by decide +kernel
theorem dX7_pass_252 : decode cX7_pass 252 = .ok (.invokevirtual 105, 3) := by decide +kernel
theorem dX7_pass_255 : decode cX7_pass 255 = .ok (.iload_n 1, 1) := by decide +kernel
theorem dX7_pass_256 : decode cX7_pass 256 = .ok (.isub, 1) := by decide +kernel
theorem dX7_pass_257 : decode cX7_pass 257 = .ok (.ireturn, 1) := by decide +kernel
set_option maxRecDepth 20000 in
theorem ggX7_act_X7_say : GoodIn wsX7_act wsX7_say := goodIn_r _ [14, 15, 8, 16, 17, 18, 19, 20, 21, 13, 22, 23, 24, 25, 26, 27, 28, 29, 30, 31, 32, 33, 3, 34, 35, 36, 37, 38, 39, 40, 41, 42, 43, 44, 45, 46, 47, 48, 49, 50, 51, 52, 53, 54, 55, 56, 57, 58, 59] (by decide +kernel) (by decide +kernel)
set_option maxRecDepth 20000 in
theorem gX7_act_X7_say : GoodIn wsX7_act (wsV RX7 130 RX7 yX7_say wsX7_say) := goodIn_app (goodIn_of _ (by decide +kernel)) ggX7_act_X7_say
set_option maxRecDepth 20000 in
theorem ggX7_act_X7_isAble : GoodIn wsX7_act wsX7_isAble := goodIn_r _ [22, 8, 23, 24, 25, 26, 34, 35, 36, 37, 38, 39, 40, 41, 42, 43, 44, 45, 46, 47, 48, 49, 50, 51, 52, 53, 54, 55, 56, 57, 58, 59] (by decide +kernel) (by decide +kernel)
set_option maxRecDepth 20000 in
theorem gX7_act_X7_isAble : GoodIn wsX7_act (wsV RX7 133 RX7 yX7_isAble wsX7_isAble) := goodIn_app (goodIn_of _ (by decide +kernel)) ggX7_act_X7_isAble
theorem dX7_act_0 : decode cX7_act 0 = .ok (.aload_n 0, 1) := by decide +kernel
theorem dX7_act_1 : decode cX7_act 1 = .ok (.getfield 51, 3) := by decide +kernel
theorem dX7_act_4 : decode cX7_act 4 = .ok (.iload_n 1, 1) := by decide +kernel
theorem dX7_act_5 : decode cX7_act 5 = .ok (.iaload, 1) := by decide +kernel
theorem dX7_act_6 : decode cX7_act 6 = .ok (.iconst (-1), 1) := by decide +kernel
theorem dX7_act_7 : decode cX7_act 7 = .ok (.if_icmp .eq 24, 3) := by decide +kernel
theorem dX7_act_10 : decode cX7_act 10 = .ok (.aload_n 0, 1) := by decide +kernel
theorem dX7_act_11 : decode cX7_act 11 = .ok (.getfield 51, 3) := by decide +kernel
theorem dX7_act_14 : decode cX7_act 14 = .ok (.iload_n 1, 1) := by decide +kernel
theorem dX7_act_15 : decode cX7_act 15 = .ok (.iaload, 1) := by decide +kernel
theorem dX7_act_16 : decode cX7_act 16 = .ok (.istore_n 2, 1) := by decide +kernel
theorem dX7_act_17 : decode cX7_act 17 = .ok (.aload_n 0, 1) := by decide +kernel
theorem dX7_act_18 : decode cX7_act 18 = .ok (.getfield 51, 3) := by decide +kernel
theorem dX7_act_21 : decode cX7_act 21 = .ok (.iload_n 1, 1) := by decide +kernel
theorem dX7_act_22 : decode cX7_act 22 = .ok (.iconst (-1), 1) := by decide +kernel
theorem dX7_act_23 : decode cX7_act 23 = .ok (.iastore, 1) := by decide +kernel
theorem dX7_act_24 : decode cX7_act 24 = .ok (.aload_n 0, 1) := by decide +kernel
theorem dX7_act_25 : decode cX7_act 25 = .ok (.iload_n 1, 1) := by decide +kernel
theorem dX7_act_26 : decode cX7_act 26 = .ok (.iload_n 2, 1) := by decide +kernel
theorem dX7_act_27 : decode cX7_act 27 = .ok (.invokevirtual 130, 3) := by decide +kernel
theorem dX7_act_30 : decode cX7_act 30 = .ok (.return_, 1) := by decide +kernel
theorem dX7_act_31 : decode cX7_act 31 = .ok (.aload_n 0, 1) := by decide +kernel
theorem dX7_act_32 : decode cX7_act 32 = .ok (.getfield 54, 3) := by decide +kernel
theorem dX7_act_35 : decode cX7_act 35 = .ok (.iload_n 1, 1) := by decide +kernel
theorem dX7_act_36 : decode cX7_act 36 = .ok (.iaload, 1) := by decide +kernel
theorem dX7_act_37 : decode cX7_act 37 = .ok (.ifCond .eq 26, 3) := by decide +kernel
theorem dX7_act_40 : decode cX7_act 40 = .ok (.aload_n 0, 1) := by decide +kernel
theorem dX7_act_41 : decode cX7_act 41 = .ok (.getfield 81, 3) := by decide +kernel
theorem dX7_act_44 : decode cX7_act 44 = .ok (.aload_n 0, 1) := by decide +kernel
theorem dX7_act_45 : decode cX7_act 45 = .ok (.getfield 60, 3) := by decide +kernel
theorem dX7_act_48 : decode cX7_act 48 = .ok (.bipush 12, 2) := by decide +kernel
theorem dX7_act_50 : decode cX7_act 50 = .ok (.iload_n 1, 1) := by decide +kernel
theorem dX7_act_51 : decode cX7_act 51 = .ok (.imul, 1) := by decide +kernel
theorem dX7_act_52 : decode cX7_act 52 = .ok (.iaload, 1) := by decide +kernel
theorem dX7_act_53 : decode cX7_act 53 = .ok (.isub, 1) := by decide +kernel
theorem dX7_act_54 : decode cX7_act 54 = .ok (.aload_n 0, 1) := by decide +kernel
theorem dX7_act_55 : decode cX7_act 55 = .ok (.getfield 36, 3) := by decide +kernel
theorem dX7_act_58 : decode cX7_act 58 = .ok (.iload_n 1, 1) := by decide +kernel
theorem dX7_act_59 : decode cX7_act 59 = .ok (.iaload, 1) := by decide +kernel
theorem dX7_act_60 : decode cX7_act 60 = .ok (.if_icmp .ge 4, 3) := by decide +kernel
theorem dX7_act_63 : decode cX7_act 63 = .ok (.return_, 1) := by decide +kernel
theorem dX7_act_64 : decode cX7_act 64 = .ok (.aload_n 0, 1) := by decide +kernel
theorem dX7_act_65 : decode cX7_act 65 = .ok (.getfield 57, 3) := by decide +kernel
theorem dX7_act_68 : decode cX7_act 68 = .ok (.bipush 12, 2) := by decide +kernel
theorem dX7_act_70 : decode cX7_act 70 = .ok (.iload_n 1, 1) := by decide +kernel
theorem dX7_act_71 : decode cX7_act 71 = .ok (.imul, 1) := by decide +kernel
theorem dX7_act_72 : decode cX7_act 72 = .ok (.iaload, 1) := by decide +kernel
theorem dX7_act_73 : decode cX7_act 73 = .ok (.istore_n 2, 1) := by decide +kernel
theorem dX7_act_74 : decode cX7_act 74 = .ok (.aload_n 0, 1) := by decide +kernel
theorem dX7_act_75 : decode cX7_act 75 = .ok (.getfield 54, 3) := by decide +kernel
theorem dX7_act_78 : decode cX7_act 78 = .ok (.iload_n 1, 1) := by decide +kernel
theorem dX7_act_79 : decode cX7_act 79 = .ok (.dup2, 1) := by decide +kernel
theorem dX7_act_80 : decode cX7_act 80 = .ok (.iaload, 1) := by decide +kernel
theorem dX7_act_81 : decode cX7_act 81 = .ok (.iconst 1, 1) := by decide +kernel
theorem dX7_act_82 : decode cX7_act 82 = .ok (.isub, 1) := by decide +kernel
theorem dX7_act_83 : decode cX7_act 83 = .ok (.iastore, 1) := by decide +kernel
theorem dX7_act_84 : decode cX7_act 84 = .ok (.bipush 12, 2) := by decide +kernel
theorem dX7_act_86 : decode cX7_act 86 = .ok (.iload_n 1, 1) := by decide +kernel
theorem dX7_act_87 : decode cX7_act 87 = .ok (.imul, 1) := by decide +kernel
theorem dX7_act_88 : decode cX7_act 88 = .ok (.istore_n 3, 1) := by decide +kernel
theorem dX7_act_89 : decode cX7_act 89 = .ok (.iload_n 3, 1) := by decide +kernel
theorem dX7_act_90 : decode cX7_act 90 = .ok (.bipush 12, 2) := by decide +kernel
theorem dX7_act_92 : decode cX7_act 92 = .ok (.iload_n 1, 1) := by decide +kernel
theorem dX7_act_93 : decode cX7_act 93 = .ok (.imul, 1) := by decide +kernel
theorem dX7_act_94 : decode cX7_act 94 = .ok (.aload_n 0, 1) := by decide +kernel
theorem dX7_act_95 : decode cX7_act 95 = .ok (.getfield 54, 3) := by decide +kernel
theorem dX7_act_98 : decode cX7_act 98 = .ok (.iload_n 1, 1) := by decide +kernel
theorem dX7_act_99 : decode cX7_act 99 = .ok (.iaload, 1) := by decide +kernel
theorem dX7_act_100 : decode cX7_act 100 = .ok (.iadd, 1) := by decide +kernel
theorem dX7_act_101 : decode cX7_act 101 = .ok (.if_icmp .ge 37, 3) := by decide +kernel
theorem dX7_act_104 : decode cX7_act 104 = .ok (.aload_n 0, 1) := by decide +kernel
theorem dX7_act_105 : decode cX7_act 105 = .ok (.getfield 57, 3) := by decide +kernel
theorem dX7_act_108 : decode cX7_act 108 = .ok (.iload_n 3, 1) := by decide +kernel
theorem dX7_act_109 : decode cX7_act 109 = .ok (.aload_n 0, 1) := by decide +kernel
theorem dX7_act_110 : decode cX7_act 110 = .ok (.getfield 57, 3) := by decide +kernel
theorem dX7_act_113 : decode cX7_act 113 = .ok (.iload_n 3, 1) := by decide +kernel
theorem dX7_act_114 : decode cX7_act 114 = .ok (.iconst 1, 1) := by decide +kernel
theorem dX7_act_115 : decode cX7_act 115 = .ok (.iadd, 1) := by decide +kernel
theorem dX7_act_116 : decode cX7_act 116 = .ok (.iaload, 1) := by decide +kernel
theorem dX7_act_117 : decode cX7_act 117 = .ok (.iastore, 1) := by decide +kernel
theorem dX7_act_118 : decode cX7_act 118 = .ok (.aload_n 0, 1) := by decide +kernel
theorem dX7_act_119 : decode cX7_act 119 = .ok (.getfield 60, 3) := by decide +kernel
theorem dX7_act_122 : decode cX7_act 122 = .ok (.iload_n 3, 1) := by decide +kernel
theorem dX7_act_123 : decode cX7_act 123 = .ok (.aload_n 0, 1) := by decide +kernel
theorem dX7_act_124 : decode cX7_act 124 = .ok (.getfield 60, 3) := by decide +kernel
theorem dX7_act_127 : decode cX7_act 127 = .ok (.iload_n 3, 1) := by decide +kernel
theorem dX7_act_128 : decode cX7_act 128 = .ok (.iconst 1, 1) := by decide +kernel
theorem dX7_act_129 : decode cX7_act 129 = .ok (.iadd, 1) := by decide +kernel
theorem dX7_act_130 : decode cX7_act 130 = .ok (.iaload, 1) := by decide +kernel
theorem dX7_act_131 : decode cX7_act 131 = .ok (.iastore, 1) := by decide +kernel
theorem dX7_act_132 : decode cX7_act 132 = .ok (.iinc 3 1, 3) := by decide +kernel
theorem dX7_act_135 : decode cX7_act 135 = .ok (.goto (-46), 3) := by decide +kernel
theorem dX7_act_138 : decode cX7_act 138 = .ok (.aload_n 0, 1) := by decide +kernel
theorem dX7_act_139 : decode cX7_act 139 = .ok (.iload_n 1, 1) := by decide +kernel
theorem dX7_act_140 : decode cX7_act 140 = .ok (.invokevirtual 133, 3) := by decide +kernel
theorem dX7_act_143 : decode cX7_act 143 = .ok (.ifCond .eq 61, 3) := by decide +kernel
theorem dX7_act_146 : decode cX7_act 146 = .ok (.iload_n 2, 1) := by decide +kernel
theorem dX7_act_147 : decode cX7_act 147 = .ok (.bipush 80, 2) := by decide +kernel
theorem dX7_act_149 : decode cX7_act 149 = .ok (.if_icmp .lt 55, 3) := by decide +kernel
theorem dX7_act_152 : decode cX7_act 152 = .ok (.aload_n 0, 1) := by decide +kernel
theorem dX7_act_153 : decode cX7_act 153 = .ok (.getfield 18, 3) := by decide +kernel
theorem dX7_act_156 : decode cX7_act 156 = .ok (.aload_n 0, 1) := by decide +kernel
theorem dX7_act_157 : decode cX7_act 157 = .ok (.getfield 45, 3) := by decide +kernel
theorem dX7_act_160 : decode cX7_act 160 = .ok (.iload_n 1, 1) := by decide +kernel
theorem dX7_act_161 : decode cX7_act 161 = .ok (.iaload, 1) := by decide +kernel
theorem dX7_act_162 : decode cX7_act 162 = .ok (.iaload, 1) := by decide +kernel
theorem dX7_act_163 : decode cX7_act 163 = .ok (.iload_n 2, 1) := by decide +kernel
theorem dX7_act_164 : decode cX7_act 164 = .ok (.bipush 80, 2) := by decide +kernel
theorem dX7_act_166 : decode cX7_act 166 = .ok (.isub, 1) := by decide +kernel
theorem dX7_act_167 : decode cX7_act 167 = .ok (.ishr, 1) := by decide +kernel
theorem dX7_act_168 : decode cX7_act 168 = .ok (.iconst 1, 1) := by decide +kernel
theorem dX7_act_169 : decode cX7_act 169 = .ok (.iand, 1) := by decide +kernel
theorem dX7_act_170 : decode cX7_act 170 = .ok (.ifCond .ne 34, 3) := by decide +kernel
theorem dX7_act_173 : decode cX7_act 173 = .ok (.aload_n 0, 1) := by decide +kernel
theorem dX7_act_174 : decode cX7_act 174 = .ok (.getfield 30, 3) := by decide +kernel
theorem dX7_act_177 : decode cX7_act 177 = .ok (.aload_n 0, 1) := by decide +kernel
theorem dX7_act_178 : decode cX7_act 178 = .ok (.getfield 45, 3) := by decide +kernel
theorem dX7_act_181 : decode cX7_act 181 = .ok (.iload_n 1, 1) := by decide +kernel
theorem dX7_act_182 : decode cX7_act 182 = .ok (.iaload, 1) := by decide +kernel
theorem dX7_act_183 : decode cX7_act 183 = .ok (.dup2, 1) := by decide +kernel
theorem dX7_act_184 : decode cX7_act 184 = .ok (.iaload, 1) := by decide +kernel
theorem dX7_act_185 : decode cX7_act 185 = .ok (.iconst 1, 1) := by decide +kernel
theorem dX7_act_186 : decode cX7_act 186 = .ok (.iadd, 1) := by decide +kernel
theorem dX7_act_187 : decode cX7_act 187 = .ok (.iastore, 1) := by decide +kernel
theorem dX7_act_188 : decode cX7_act 188 = .ok (.iconst 4, 1) := by decide +kernel
theorem dX7_act_189 : decode cX7_act 189 = .ok (.iload_n 2, 1) := by decide +kernel
theorem dX7_act_190 : decode cX7_act 190 = .ok (.bipush 80, 2) := by decide +kernel
theorem dX7_act_192 : decode cX7_act 192 = .ok (.isub, 1) := by decide +kernel
theorem dX7_act_193 : decode cX7_act 193 = .ok (.imul, 1) := by decide +kernel
theorem dX7_act_194 : decode cX7_act 194 = .ok (.istore_n 2, 1) := by decide +kernel
theorem dX7_act_195 : decode cX7_act 195 = .ok (.aload_n 0, 1) := by decide +kernel
theorem dX7_act_196 : decode cX7_act 196 = .ok (.getfield 51, 3) := by decide +kernel
theorem dX7_act_199 : decode cX7_act 199 = .ok (.iload_n 1, 1) := by decide +kernel
theorem dX7_act_200 : decode cX7_act 200 = .ok (.iload_n 2, 1) := by decide +kernel
theorem dX7_act_201 : decode cX7_act 201 = .ok (.iconst 1, 1) := by decide +kernel
theorem dX7_act_202 : decode cX7_act 202 = .ok (.iadd, 1) := by decide +kernel
theorem dX7_act_203 : decode cX7_act 203 = .ok (.iastore, 1) := by decide +kernel
theorem dX7_act_204 : decode cX7_act 204 = .ok (.aload_n 0, 1) := by decide +kernel
theorem dX7_act_205 : decode cX7_act 205 = .ok (.iload_n 1, 1) := by decide +kernel
theorem dX7_act_206 : decode cX7_act 206 = .ok (.iload_n 2, 1) := by decide +kernel
theorem dX7_act_207 : decode cX7_act 207 = .ok (.invokevirtual 130, 3) := by decide +kernel
theorem dX7_act_210 : decode cX7_act 210 = .ok (.return_, 1) := by decide +kernel
set_option maxRecDepth 20000 in
theorem ggX7_say_X7_isAble : GoodIn wsX7_say wsX7_isAble := goodIn_r _ [10, 2, 11, 12, 13, 14, 23, 24, 25, 26, 27, 28, 29, 30, 31, 32, 33, 34, 35, 36, 37, 38, 39, 40, 41, 42, 43, 44, 45, 46, 47, 48] (by decide +kernel) (by decide +kernel)
set_option maxRecDepth 20000 in
theorem gX7_say_X7_isAble : GoodIn wsX7_say (wsV RX7 133 RX7 yX7_isAble wsX7_isAble) := goodIn_app (goodIn_of _ (by decide +kernel)) ggX7_say_X7_isAble
set_option maxRecDepth 20000 in
theorem ggX7_say_X7_keep : GoodIn wsX7_say wsX7_keep := goodIn_r _ [18, 19, 20, 21, 22, 23, 24, 25, 26, 27, 28, 29, 30, 31, 32, 33, 34, 35, 36, 37, 38, 39, 40, 41, 42, 43, 44, 45, 46, 47, 48] (by decide +kernel) (by decide +kernel)
set_option maxRecDepth 20000 in
theorem gX7_say_X7_keep : GoodIn wsX7_say (wsV RX7 109 RX7 yX7_keep wsX7_keep) := goodIn_app (goodIn_of _ (by decide +kernel)) ggX7_say_X7_keep
theorem dX7_say_0 : decode cX7_say 0 = .ok (.aload_n 0, 1) := by decide +kernel
theorem dX7_say_1 : decode cX7_say 1 = .ok (.iload_n 1, 1) := by decide +kernel
theorem dX7_say_2 : decode cX7_say 2 = .ok (.invokevirtual 133, 3) := by decide +kernel
theorem dX7_say_5 : decode cX7_say 5 = .ok (.ifCond .ne 14, 3) := by decide +kernel
theorem dX7_say_8 : decode cX7_say 8 = .ok (.aload_n 0, 1) := by decide +kernel
theorem dX7_say_9 : decode cX7_say 9 = .ok (.getfield 48, 3) := by decide +kernel
theorem dX7_say_12 : decode cX7_say 12 = .ok (.iload_n 1, 1) := by decide +kernel
theorem dX7_say_13 : decode cX7_say 13 = .ok (.dup2, 1) := by decide +kernel
theorem dX7_say_14 : decode cX7_say 14 = .ok (.iaload, 1) := by decide +kernel
theorem dX7_say_15 : decode cX7_say 15 = .ok (.iconst 1, 1) := by decide +kernel
theorem dX7_say_16 : decode cX7_say 16 = .ok (.iadd, 1) := by decide +kernel
theorem dX7_say_17 : decode cX7_say 17 = .ok (.iastore, 1) := by decide +kernel
theorem dX7_say_18 : decode cX7_say 18 = .ok (.return_, 1) := by decide +kernel
theorem dX7_say_19 : decode cX7_say 19 = .ok (.aload_n 0, 1) := by decide +kernel
theorem dX7_say_20 : decode cX7_say 20 = .ok (.getfield 45, 3) := by decide +kernel
theorem dX7_say_23 : decode cX7_say 23 = .ok (.iload_n 1, 1) := by decide +kernel
theorem dX7_say_24 : decode cX7_say 24 = .ok (.iaload, 1) := by decide +kernel
theorem dX7_say_25 : decode cX7_say 25 = .ok (.istore_n 3, 1) := by decide +kernel
theorem dX7_say_26 : decode cX7_say 26 = .ok (.aload_n 0, 1) := by decide +kernel
theorem dX7_say_27 : decode cX7_say 27 = .ok (.getfield 21, 3) := by decide +kernel
theorem dX7_say_30 : decode cX7_say 30 = .ok (.iload_n 3, 1) := by decide +kernel
theorem dX7_say_31 : decode cX7_say 31 = .ok (.iaload, 1) := by decide +kernel
theorem dX7_say_32 : decode cX7_say 32 = .ok (.bipush 20, 2) := by decide +kernel
theorem dX7_say_34 : decode cX7_say 34 = .ok (.if_icmp .lt 24, 3) := by decide +kernel
theorem dX7_say_37 : decode cX7_say 37 = .ok (.aload_n 0, 1) := by decide +kernel
theorem dX7_say_38 : decode cX7_say 38 = .ok (.getfield 24, 3) := by decide +kernel
theorem dX7_say_41 : decode cX7_say 41 = .ok (.iload_n 3, 1) := by decide +kernel
theorem dX7_say_42 : decode cX7_say 42 = .ok (.iaload, 1) := by decide +kernel
theorem dX7_say_43 : decode cX7_say 43 = .ok (.iconst 3, 1) := by decide +kernel
theorem dX7_say_44 : decode cX7_say 44 = .ok (.irem, 1) := by decide +kernel
theorem dX7_say_45 : decode cX7_say 45 = .ok (.ifCond .ne 13, 3) := by decide +kernel
theorem dX7_say_48 : decode cX7_say 48 = .ok (.iload_n 2, 1) := by decide +kernel
theorem dX7_say_49 : decode cX7_say 49 = .ok (.bipush 80, 2) := by decide +kernel
theorem dX7_say_51 : decode cX7_say 51 = .ok (.if_icmp .ge 7, 3) := by decide +kernel
theorem dX7_say_54 : decode cX7_say 54 = .ok (.iconst 1, 1) := by decide +kernel
theorem dX7_say_55 : decode cX7_say 55 = .ok (.goto 4, 3) := by decide +kernel
theorem dX7_say_58 : decode cX7_say 58 = .ok (.iconst 0, 1) := by decide +kernel
theorem dX7_say_59 : decode cX7_say 59 = .ok (.istore 4, 2) := by decide +kernel
theorem dX7_say_61 : decode cX7_say 61 = .ok (.aload_n 0, 1) := by decide +kernel
theorem dX7_say_62 : decode cX7_say 62 = .ok (.iload_n 1, 1) := by decide +kernel
theorem dX7_say_63 : decode cX7_say 63 = .ok (.iconst 1, 1) := by decide +kernel
theorem dX7_say_64 : decode cX7_say 64 = .ok (.iadd, 1) := by decide +kernel
theorem dX7_say_65 : decode cX7_say 65 = .ok (.iload 4, 2) := by decide +kernel
theorem dX7_say_67 : decode cX7_say 67 = .ok (.ifCond .eq 12, 3) := by decide +kernel
theorem dX7_say_70 : decode cX7_say 70 = .ok (.iload_n 2, 1) := by decide +kernel
theorem dX7_say_71 : decode cX7_say 71 = .ok (.iconst 1, 1) := by decide +kernel
theorem dX7_say_72 : decode cX7_say 72 = .ok (.iadd, 1) := by decide +kernel
theorem dX7_say_73 : decode cX7_say 73 = .ok (.bipush 80, 2) := by decide +kernel
theorem dX7_say_75 : decode cX7_say 75 = .ok (.irem, 1) := by decide +kernel
theorem dX7_say_76 : decode cX7_say 76 = .ok (.goto 4, 3) := by decide +kernel
theorem dX7_say_79 : decode cX7_say 79 = .ok (.iload_n 2, 1) := by decide +kernel
theorem dX7_say_80 : decode cX7_say 80 = .ok (.invokevirtual 109, 3) := by decide +kernel
theorem dX7_say_83 : decode cX7_say 83 = .ok (.aload_n 0, 1) := by decide +kernel
theorem dX7_say_84 : decode cX7_say 84 = .ok (.getfield 27, 3) := by decide +kernel
theorem dX7_say_87 : decode cX7_say 87 = .ok (.iload_n 3, 1) := by decide +kernel
theorem dX7_say_88 : decode cX7_say 88 = .ok (.dup2, 1) := by decide +kernel
theorem dX7_say_89 : decode cX7_say 89 = .ok (.iaload, 1) := by decide +kernel
theorem dX7_say_90 : decode cX7_say 90 = .ok (.iload 4, 2) := by decide +kernel
theorem dX7_say_92 : decode cX7_say 92 = .ok (.ifCond .eq 7, 3) := by decide +kernel
theorem dX7_say_95 : decode cX7_say 95 = .ok (.iconst 1, 1) := by decide +kernel
theorem dX7_say_96 : decode cX7_say 96 = .ok (.goto 4, 3) := by decide +kernel
theorem dX7_say_99 : decode cX7_say 99 = .ok (.iconst 0, 1) := by decide +kernel
theorem dX7_say_100 : decode cX7_say 100 = .ok (.iadd, 1) := by decide +kernel
theorem dX7_say_101 : decode cX7_say 101 = .ok (.iastore, 1) := by decide +kernel
theorem dX7_say_102 : decode cX7_say 102 = .ok (.aload_n 0, 1) := by decide +kernel
theorem dX7_say_103 : decode cX7_say 103 = .ok (.getfield 24, 3) := by decide +kernel
theorem dX7_say_106 : decode cX7_say 106 = .ok (.iload_n 3, 1) := by decide +kernel
theorem dX7_say_107 : decode cX7_say 107 = .ok (.dup2, 1) := by decide +kernel
theorem dX7_say_108 : decode cX7_say 108 = .ok (.iaload, 1) := by decide +kernel
theorem dX7_say_109 : decode cX7_say 109 = .ok (.iconst 1, 1) := by decide +kernel
theorem dX7_say_110 : decode cX7_say 110 = .ok (.iadd, 1) := by decide +kernel
theorem dX7_say_111 : decode cX7_say 111 = .ok (.iastore, 1) := by decide +kernel
theorem dX7_say_112 : decode cX7_say 112 = .ok (.aload_n 0, 1) := by decide +kernel
theorem dX7_say_113 : decode cX7_say 113 = .ok (.getfield 21, 3) := by decide +kernel
theorem dX7_say_116 : decode cX7_say 116 = .ok (.iload_n 3, 1) := by decide +kernel
theorem dX7_say_117 : decode cX7_say 117 = .ok (.dup2, 1) := by decide +kernel
theorem dX7_say_118 : decode cX7_say 118 = .ok (.iaload, 1) := by decide +kernel
theorem dX7_say_119 : decode cX7_say 119 = .ok (.iconst 1, 1) := by decide +kernel
theorem dX7_say_120 : decode cX7_say 120 = .ok (.iadd, 1) := by decide +kernel
theorem dX7_say_121 : decode cX7_say 121 = .ok (.iastore, 1) := by decide +kernel
theorem dX7_say_122 : decode cX7_say 122 = .ok (.return_, 1) := by decide +kernel
theorem dX7_hear_0 : decode cX7_hear 0 = .ok (.aload_n 0, 1) := by decide +kernel
theorem dX7_hear_1 : decode cX7_hear 1 = .ok (.getfield 54, 3) := by decide +kernel
theorem dX7_hear_4 : decode cX7_hear 4 = .ok (.iload_n 1, 1) := by decide +kernel
theorem dX7_hear_5 : decode cX7_hear 5 = .ok (.iaload, 1) := by decide +kernel
theorem dX7_hear_6 : decode cX7_hear 6 = .ok (.aload_n 0, 1) := by decide +kernel
theorem dX7_hear_7 : decode cX7_hear 7 = .ok (.getfield 39, 3) := by decide +kernel
theorem dX7_hear_10 : decode cX7_hear 10 = .ok (.iload_n 1, 1) := by decide +kernel
theorem dX7_hear_11 : decode cX7_hear 11 = .ok (.iaload, 1) := by decide +kernel
theorem dX7_hear_12 : decode cX7_hear 12 = .ok (.if_icmp .ne 14, 3) := by decide +kernel
theorem dX7_hear_15 : decode cX7_hear 15 = .ok (.aload_n 0, 1) := by decide +kernel
theorem dX7_hear_16 : decode cX7_hear 16 = .ok (.getfield 48, 3) := by decide +kernel
theorem dX7_hear_19 : decode cX7_hear 19 = .ok (.iload_n 1, 1) := by decide +kernel
theorem dX7_hear_20 : decode cX7_hear 20 = .ok (.dup2, 1) := by decide +kernel
theorem dX7_hear_21 : decode cX7_hear 21 = .ok (.iaload, 1) := by decide +kernel
theorem dX7_hear_22 : decode cX7_hear 22 = .ok (.iconst 1, 1) := by decide +kernel
theorem dX7_hear_23 : decode cX7_hear 23 = .ok (.iadd, 1) := by decide +kernel
theorem dX7_hear_24 : decode cX7_hear 24 = .ok (.iastore, 1) := by decide +kernel
theorem dX7_hear_25 : decode cX7_hear 25 = .ok (.return_, 1) := by decide +kernel
theorem dX7_hear_26 : decode cX7_hear 26 = .ok (.aload_n 0, 1) := by decide +kernel
theorem dX7_hear_27 : decode cX7_hear 27 = .ok (.getfield 57, 3) := by decide +kernel
theorem dX7_hear_30 : decode cX7_hear 30 = .ok (.bipush 12, 2) := by decide +kernel
theorem dX7_hear_32 : decode cX7_hear 32 = .ok (.iload_n 1, 1) := by decide +kernel
theorem dX7_hear_33 : decode cX7_hear 33 = .ok (.imul, 1) := by decide +kernel
theorem dX7_hear_34 : decode cX7_hear 34 = .ok (.aload_n 0, 1) := by decide +kernel
theorem dX7_hear_35 : decode cX7_hear 35 = .ok (.getfield 54, 3) := by decide +kernel
theorem dX7_hear_38 : decode cX7_hear 38 = .ok (.iload_n 1, 1) := by decide +kernel
theorem dX7_hear_39 : decode cX7_hear 39 = .ok (.iaload, 1) := by decide +kernel
theorem dX7_hear_40 : decode cX7_hear 40 = .ok (.iadd, 1) := by decide +kernel
theorem dX7_hear_41 : decode cX7_hear 41 = .ok (.iload_n 2, 1) := by decide +kernel
theorem dX7_hear_42 : decode cX7_hear 42 = .ok (.iastore, 1) := by decide +kernel
theorem dX7_hear_43 : decode cX7_hear 43 = .ok (.aload_n 0, 1) := by decide +kernel
theorem dX7_hear_44 : decode cX7_hear 44 = .ok (.getfield 60, 3) := by decide +kernel
theorem dX7_hear_47 : decode cX7_hear 47 = .ok (.bipush 12, 2) := by decide +kernel
theorem dX7_hear_49 : decode cX7_hear 49 = .ok (.iload_n 1, 1) := by decide +kernel
theorem dX7_hear_50 : decode cX7_hear 50 = .ok (.imul, 1) := by decide +kernel
theorem dX7_hear_51 : decode cX7_hear 51 = .ok (.aload_n 0, 1) := by decide +kernel
theorem dX7_hear_52 : decode cX7_hear 52 = .ok (.getfield 54, 3) := by decide +kernel
theorem dX7_hear_55 : decode cX7_hear 55 = .ok (.iload_n 1, 1) := by decide +kernel
theorem dX7_hear_56 : decode cX7_hear 56 = .ok (.iaload, 1) := by decide +kernel
theorem dX7_hear_57 : decode cX7_hear 57 = .ok (.iadd, 1) := by decide +kernel
theorem dX7_hear_58 : decode cX7_hear 58 = .ok (.aload_n 0, 1) := by decide +kernel
theorem dX7_hear_59 : decode cX7_hear 59 = .ok (.getfield 81, 3) := by decide +kernel
theorem dX7_hear_62 : decode cX7_hear 62 = .ok (.iastore, 1) := by decide +kernel
theorem dX7_hear_63 : decode cX7_hear 63 = .ok (.aload_n 0, 1) := by decide +kernel
theorem dX7_hear_64 : decode cX7_hear 64 = .ok (.getfield 54, 3) := by decide +kernel
theorem dX7_hear_67 : decode cX7_hear 67 = .ok (.iload_n 1, 1) := by decide +kernel
theorem dX7_hear_68 : decode cX7_hear 68 = .ok (.dup2, 1) := by decide +kernel
theorem dX7_hear_69 : decode cX7_hear 69 = .ok (.iaload, 1) := by decide +kernel
theorem dX7_hear_70 : decode cX7_hear 70 = .ok (.iconst 1, 1) := by decide +kernel
theorem dX7_hear_71 : decode cX7_hear 71 = .ok (.iadd, 1) := by decide +kernel
theorem dX7_hear_72 : decode cX7_hear 72 = .ok (.iastore, 1) := by decide +kernel
theorem dX7_hear_73 : decode cX7_hear 73 = .ok (.return_, 1) := by decide +kernel
theorem dX7_all_0 : decode cX7_all 0 = .ok (.iconst 0, 1) := by decide +kernel
theorem dX7_all_1 : decode cX7_all 1 = .ok (.istore_n 1, 1) := by decide +kernel
theorem dX7_all_2 : decode cX7_all 2 = .ok (.iconst 0, 1) := by decide +kernel
theorem dX7_all_3 : decode cX7_all 3 = .ok (.istore_n 2, 1) := by decide +kernel
theorem dX7_all_4 : decode cX7_all 4 = .ok (.iload_n 2, 1) := by decide +kernel
theorem dX7_all_5 : decode cX7_all 5 = .ok (.aload_n 0, 1) := by decide +kernel
theorem dX7_all_6 : decode cX7_all 6 = .ok (.getfield 94, 3) := by decide +kernel
theorem dX7_all_9 : decode cX7_all 9 = .ok (.if_icmp .ge 20, 3) := by decide +kernel
theorem dX7_all_12 : decode cX7_all 12 = .ok (.iload_n 1, 1) := by decide +kernel
theorem dX7_all_13 : decode cX7_all 13 = .ok (.aload_n 0, 1) := by decide +kernel
theorem dX7_all_14 : decode cX7_all 14 = .ok (.getfield 63, 3) := by decide +kernel
theorem dX7_all_17 : decode cX7_all 17 = .ok (.iload_n 2, 1) := by decide +kernel
theorem dX7_all_18 : decode cX7_all 18 = .ok (.iconst 1, 1) := by decide +kernel
theorem dX7_all_19 : decode cX7_all 19 = .ok (.iadd, 1) := by decide +kernel
theorem dX7_all_20 : decode cX7_all 20 = .ok (.iaload, 1) := by decide +kernel
theorem dX7_all_21 : decode cX7_all 21 = .ok (.iadd, 1) := by decide +kernel
theorem dX7_all_22 : decode cX7_all 22 = .ok (.istore_n 1, 1) := by decide +kernel
theorem dX7_all_23 : decode cX7_all 23 = .ok (.iinc 2 1, 3) := by decide +kernel
theorem dX7_all_26 : decode cX7_all 26 = .ok (.goto (-22), 3) := by decide +kernel
theorem dX7_all_29 : decode cX7_all 29 = .ok (.iload_n 1, 1) := by decide +kernel
theorem dX7_all_30 : decode cX7_all 30 = .ok (.ireturn, 1) := by decide +kernel
theorem dX7_through_0 : decode cX7_through 0 = .ok (.aload_n 0, 1) := by decide +kernel
theorem dX7_through_1 : decode cX7_through 1 = .ok (.getfield 63, 3) := by decide +kernel
theorem dX7_through_4 : decode cX7_through 4 = .ok (.iload_n 1, 1) := by decide +kernel
theorem dX7_through_5 : decode cX7_through 5 = .ok (.iconst 1, 1) := by decide +kernel
theorem dX7_through_6 : decode cX7_through 6 = .ok (.iadd, 1) := by decide +kernel
theorem dX7_through_7 : decode cX7_through 7 = .ok (.iaload, 1) := by decide +kernel
theorem dX7_through_8 : decode cX7_through 8 = .ok (.istore_n 2, 1) := by decide +kernel
theorem dX7_through_9 : decode cX7_through 9 = .ok (.iconst 0, 1) := by decide +kernel
theorem dX7_through_10 : decode cX7_through 10 = .ok (.istore_n 3, 1) := by decide +kernel
theorem dX7_through_11 : decode cX7_through 11 = .ok (.iload_n 3, 1) := by decide +kernel
theorem dX7_through_12 : decode cX7_through 12 = .ok (.iload_n 2, 1) := by decide +kernel
theorem dX7_through_13 : decode cX7_through 13 = .ok (.if_icmp .gt 16, 3) := by decide +kernel
theorem dX7_through_16 : decode cX7_through 16 = .ok (.aload_n 0, 1) := by decide +kernel
theorem dX7_through_17 : decode cX7_through 17 = .ok (.getfield 72, 3) := by decide +kernel
theorem dX7_through_20 : decode cX7_through 20 = .ok (.iload_n 3, 1) := by decide +kernel
theorem dX7_through_21 : decode cX7_through 21 = .ok (.iconst 0, 1) := by decide +kernel
theorem dX7_through_22 : decode cX7_through 22 = .ok (.iastore, 1) := by decide +kernel
theorem dX7_through_23 : decode cX7_through 23 = .ok (.iinc 3 1, 3) := by decide +kernel
theorem dX7_through_26 : decode cX7_through 26 = .ok (.goto (-15), 3) := by decide +kernel
theorem dX7_through_29 : decode cX7_through 29 = .ok (.iconst 0, 1) := by decide +kernel
theorem dX7_through_30 : decode cX7_through 30 = .ok (.istore_n 3, 1) := by decide +kernel
theorem dX7_through_31 : decode cX7_through 31 = .ok (.iload_n 3, 1) := by decide +kernel
theorem dX7_through_32 : decode cX7_through 32 = .ok (.aload_n 0, 1) := by decide +kernel
theorem dX7_through_33 : decode cX7_through 33 = .ok (.getfield 63, 3) := by decide +kernel
theorem dX7_through_36 : decode cX7_through 36 = .ok (.iconst 0, 1) := by decide +kernel
theorem dX7_through_37 : decode cX7_through 37 = .ok (.iaload, 1) := by decide +kernel
theorem dX7_through_38 : decode cX7_through 38 = .ok (.if_icmp .ge 94, 3) := by decide +kernel
theorem dX7_through_41 : decode cX7_through 41 = .ok (.iconst 0, 1) := by decide +kernel
theorem dX7_through_42 : decode cX7_through 42 = .ok (.istore 4, 2) := by decide +kernel
theorem dX7_through_44 : decode cX7_through 44 = .ok (.iconst 1, 1) := by decide +kernel
theorem dX7_through_45 : decode cX7_through 45 = .ok (.istore 5, 2) := by decide +kernel
theorem dX7_through_47 : decode cX7_through 47 = .ok (.iload 5, 2) := by decide +kernel
theorem dX7_through_49 : decode cX7_through 49 = .ok (.iload_n 2, 1) := by decide +kernel
theorem dX7_through_50 : decode cX7_through 50 = .ok (.if_icmp .gt 76, 3) := by decide +kernel
theorem dX7_through_53 : decode cX7_through 53 = .ok (.aload_n 0, 1) := by decide +kernel
theorem dX7_through_54 : decode cX7_through 54 = .ok (.getfield 72, 3) := by decide +kernel
theorem dX7_through_57 : decode cX7_through 57 = .ok (.iload 5, 2) := by decide +kernel
theorem dX7_through_59 : decode cX7_through 59 = .ok (.iaload, 1) := by decide +kernel
theorem dX7_through_60 : decode cX7_through 60 = .ok (.istore 6, 2) := by decide +kernel
theorem dX7_through_62 : decode cX7_through 62 = .ok (.aload_n 0, 1) := by decide +kernel
theorem dX7_through_63 : decode cX7_through 63 = .ok (.getfield 72, 3) := by decide +kernel
theorem dX7_through_66 : decode cX7_through 66 = .ok (.iload 5, 2) := by decide +kernel
theorem dX7_through_68 : decode cX7_through 68 = .ok (.aload_n 0, 1) := by decide +kernel
theorem dX7_through_69 : decode cX7_through 69 = .ok (.getfield 66, 3) := by decide +kernel
theorem dX7_through_72 : decode cX7_through 72 = .ok (.iload_n 3, 1) := by decide +kernel
theorem dX7_through_73 : decode cX7_through 73 = .ok (.iaload, 1) := by decide +kernel
theorem dX7_through_74 : decode cX7_through 74 = .ok (.aload_n 0, 1) := by decide +kernel
theorem dX7_through_75 : decode cX7_through 75 = .ok (.getfield 66, 3) := by decide +kernel
theorem dX7_through_78 : decode cX7_through 78 = .ok (.sipush 400, 3) := by decide +kernel
theorem dX7_through_81 : decode cX7_through 81 = .ok (.iload_n 1, 1) := by decide +kernel
theorem dX7_through_82 : decode cX7_through 82 = .ok (.iconst 1, 1) := by decide +kernel
theorem dX7_through_83 : decode cX7_through 83 = .ok (.iadd, 1) := by decide +kernel
theorem dX7_through_84 : decode cX7_through 84 = .ok (.imul, 1) := by decide +kernel
theorem dX7_through_85 : decode cX7_through 85 = .ok (.iload 5, 2) := by decide +kernel
theorem dX7_through_87 : decode cX7_through 87 = .ok (.iadd, 1) := by decide +kernel
theorem dX7_through_88 : decode cX7_through 88 = .ok (.iconst 1, 1) := by decide +kernel
theorem dX7_through_89 : decode cX7_through 89 = .ok (.isub, 1) := by decide +kernel
theorem dX7_through_90 : decode cX7_through 90 = .ok (.iaload, 1) := by decide +kernel
theorem dX7_through_91 : decode cX7_through 91 = .ok (.if_icmp .ne 10, 3) := by decide +kernel
theorem dX7_through_94 : decode cX7_through 94 = .ok (.iload 4, 2) := by decide +kernel
theorem dX7_through_96 : decode cX7_through 96 = .ok (.iconst 1, 1) := by decide +kernel
theorem dX7_through_97 : decode cX7_through 97 = .ok (.iadd, 1) := by decide +kernel
theorem dX7_through_98 : decode cX7_through 98 = .ok (.goto 17, 3) := by decide +kernel
theorem dX7_through_101 : decode cX7_through 101 = .ok (.iload 6, 2) := by decide +kernel
theorem dX7_through_103 : decode cX7_through 103 = .ok (.aload_n 0, 1) := by decide +kernel
theorem dX7_through_104 : decode cX7_through 104 = .ok (.getfield 72, 3) := by decide +kernel
theorem dX7_through_107 : decode cX7_through 107 = .ok (.iload 5, 2) := by decide +kernel
theorem dX7_through_109 : decode cX7_through 109 = .ok (.iconst 1, 1) := by decide +kernel
theorem dX7_through_110 : decode cX7_through 110 = .ok (.isub, 1) := by decide +kernel
theorem dX7_through_111 : decode cX7_through 111 = .ok (.iaload, 1) := by decide +kernel
theorem dX7_through_112 : decode cX7_through 112 = .ok (.invokestatic 121, 3) := by decide +kernel
theorem dX7_through_115 : decode cX7_through 115 = .ok (.iastore, 1) := by decide +kernel
theorem dX7_through_116 : decode cX7_through 116 = .ok (.iload 6, 2) := by decide +kernel
theorem dX7_through_118 : decode cX7_through 118 = .ok (.istore 4, 2) := by decide +kernel
theorem dX7_through_120 : decode cX7_through 120 = .ok (.iinc 5 1, 3) := by decide +kernel
theorem dX7_through_123 : decode cX7_through 123 = .ok (.goto (-76), 3) := by decide +kernel
theorem dX7_through_126 : decode cX7_through 126 = .ok (.iinc 3 1, 3) := by decide +kernel
theorem dX7_through_129 : decode cX7_through 129 = .ok (.goto (-98), 3) := by decide +kernel
theorem dX7_through_132 : decode cX7_through 132 = .ok (.aload_n 0, 1) := by decide +kernel
theorem dX7_through_133 : decode cX7_through 133 = .ok (.getfield 72, 3) := by decide +kernel
theorem dX7_through_136 : decode cX7_through 136 = .ok (.iload_n 2, 1) := by decide +kernel
theorem dX7_through_137 : decode cX7_through 137 = .ok (.iaload, 1) := by decide +kernel
theorem dX7_through_138 : decode cX7_through 138 = .ok (.ireturn, 1) := by decide +kernel
set_option maxRecDepth 20000 in
theorem ggX8_init_X7_init : GoodIn wsX8_init wsX7_init := goodIn_r _ [10, 11, 2, 3, 12, 13, 14, 15, 16, 17, 18, 19, 20, 21, 22, 23, 24, 25, 26, 27, 28, 29, 30, 31, 32, 33, 34, 35, 36, 37, 38, 39, 40, 41, 42, 43, 44, 45, 46, 47, 48, 49, 50, 51, 52, 53, 54, 55, 56, 57, 58, 59] (by decide +kernel) (by decide +kernel)
set_option maxRecDepth 20000 in
theorem gX8_init_X7_init_n9 : GoodIn wsX8_init (wsX7_init) := ggX8_init_X7_init
theorem dX8_init_0 : decode cX8_init 0 = .ok (.aload_n 0, 1) := by decide +kernel
theorem dX8_init_1 : decode cX8_init 1 = .ok (.invokespecial 1, 3) := by decide +kernel
theorem dX8_init_4 : decode cX8_init 4 = .ok (.aload_n 0, 1) := by decide +kernel
theorem dX8_init_5 : decode cX8_init 5 = .ok (.new 7, 3) := by decide +kernel
theorem dX8_init_8 : decode cX8_init 8 = .ok (.dup, 1) := by decide +kernel
theorem dX8_init_9 : decode cX8_init 9 = .ok (.invokespecial 9, 3) := by decide +kernel
theorem dX8_init_12 : decode cX8_init 12 = .ok (.putfield 10, 3) := by decide +kernel
theorem dX8_init_15 : decode cX8_init 15 = .ok (.aload_n 0, 1) := by decide +kernel
theorem dX8_init_16 : decode cX8_init 16 = .ok (.new 7, 3) := by decide +kernel
theorem dX8_init_19 : decode cX8_init 19 = .ok (.dup, 1) := by decide +kernel
theorem dX8_init_20 : decode cX8_init 20 = .ok (.invokespecial 9, 3) := by decide +kernel
theorem dX8_init_23 : decode cX8_init 23 = .ok (.putfield 16, 3) := by decide +kernel
theorem dX8_init_26 : decode cX8_init 26 = .ok (.return_, 1) := by decide +kernel
theorem dX8_thrown_0 : decode cX8_thrown 0 = .ok (.aload_n 0, 1) := by decide +kernel
theorem dX8_thrown_1 : decode cX8_thrown 1 = .ok (.getfield 19, 3) := by decide +kernel
theorem dX8_thrown_4 : decode cX8_thrown 4 = .ok (.ireturn, 1) := by decide +kernel
theorem dX8_no_0 : decode cX8_no 0 = .ok (.aload_n 0, 1) := by decide +kernel
theorem dX8_no_1 : decode cX8_no 1 = .ok (.iload_n 1, 1) := by decide +kernel
theorem dX8_no_2 : decode cX8_no 2 = .ok (.putfield 19, 3) := by decide +kernel
theorem dX8_no_5 : decode cX8_no 5 = .ok (.iconst 0, 1) := by decide +kernel
theorem dX8_no_6 : decode cX8_no 6 = .ok (.ireturn, 1) := by decide +kernel
theorem dX8_isIn_0 : decode cX8_isIn 0 = .ok (.iload_n 0, 1) := by decide +kernel
theorem dX8_isIn_1 : decode cX8_isIn 1 = .ok (.iload_n 1, 1) := by decide +kernel
theorem dX8_isIn_2 : decode cX8_isIn 2 = .ok (.if_icmp .lt 12, 3) := by decide +kernel
theorem dX8_isIn_5 : decode cX8_isIn 5 = .ok (.iload_n 0, 1) := by decide +kernel
theorem dX8_isIn_6 : decode cX8_isIn 6 = .ok (.iload_n 2, 1) := by decide +kernel
theorem dX8_isIn_7 : decode cX8_isIn 7 = .ok (.if_icmp .gt 7, 3) := by decide +kernel
theorem dX8_isIn_10 : decode cX8_isIn 10 = .ok (.iconst 1, 1) := by decide +kernel
theorem dX8_isIn_11 : decode cX8_isIn 11 = .ok (.goto 4, 3) := by decide +kernel
theorem dX8_isIn_14 : decode cX8_isIn 14 = .ok (.iconst 0, 1) := by decide +kernel
theorem dX8_isIn_15 : decode cX8_isIn 15 = .ok (.ireturn, 1) := by decide +kernel
set_option maxRecDepth 20000 in
theorem ggX8_isBooth_X8_isIn : GoodIn wsX8_isBooth wsX8_isIn := goodIn_r _ [5] (by decide +kernel) (by decide +kernel)
set_option maxRecDepth 20000 in
theorem gX8_isBooth_X8_isIn : GoodIn wsX8_isBooth (va_wsS RX8 26 yX8_isIn wsX8_isIn) := goodIn_app (goodIn_of _ (by decide +kernel)) ggX8_isBooth_X8_isIn
theorem dX8_isBooth_0 : decode cX8_isBooth 0 = .ok (.iload_n 1, 1) := by decide +kernel
theorem dX8_isBooth_1 : decode cX8_isBooth 1 = .ok (.iconst 0, 1) := by decide +kernel
theorem dX8_isBooth_2 : decode cX8_isBooth 2 = .ok (.aload_n 0, 1) := by decide +kernel
theorem dX8_isBooth_3 : decode cX8_isBooth 3 = .ok (.getfield 10, 3) := by decide +kernel
theorem dX8_isBooth_6 : decode cX8_isBooth 6 = .ok (.getfield 23, 3) := by decide +kernel
theorem dX8_isBooth_9 : decode cX8_isBooth 9 = .ok (.iconst 1, 1) := by decide +kernel
theorem dX8_isBooth_10 : decode cX8_isBooth 10 = .ok (.isub, 1) := by decide +kernel
theorem dX8_isBooth_11 : decode cX8_isBooth 11 = .ok (.invokestatic 26, 3) := by decide +kernel
theorem dX8_isBooth_14 : decode cX8_isBooth 14 = .ok (.ireturn, 1) := by decide +kernel
set_option maxRecDepth 20000 in
theorem ggX8_isInterpreter_X8_isIn : GoodIn wsX8_isInterpreter wsX8_isIn := goodIn_r _ [5] (by decide +kernel) (by decide +kernel)
set_option maxRecDepth 20000 in
theorem gX8_isInterpreter_X8_isIn : GoodIn wsX8_isInterpreter (va_wsS RX8 26 yX8_isIn wsX8_isIn) := goodIn_app (goodIn_of _ (by decide +kernel)) ggX8_isInterpreter_X8_isIn
theorem dX8_isInterpreter_0 : decode cX8_isInterpreter 0 = .ok (.iload_n 1, 1) := by decide +kernel
theorem dX8_isInterpreter_1 : decode cX8_isInterpreter 1 = .ok (.iconst 0, 1) := by decide +kernel
theorem dX8_isInterpreter_2 : decode cX8_isInterpreter 2 = .ok (.aload_n 0, 1) := by decide +kernel
theorem dX8_isInterpreter_3 : decode cX8_isInterpreter 3 = .ok (.getfield 10, 3) := by decide +kernel
theorem dX8_isInterpreter_6 : decode cX8_isInterpreter 6 = .ok (.getfield 30, 3) := by decide +kernel
theorem dX8_isInterpreter_9 : decode cX8_isInterpreter 9 = .ok (.iconst 1, 1) := by decide +kernel
theorem dX8_isInterpreter_10 : decode cX8_isInterpreter 10 = .ok (.isub, 1) := by decide +kernel
theorem dX8_isInterpreter_11 : decode cX8_isInterpreter 11 = .ok (.invokestatic 26, 3) := by decide +kernel
theorem dX8_isInterpreter_14 : decode cX8_isInterpreter 14 = .ok (.ireturn, 1) := by decide +kernel
set_option maxRecDepth 20000 in
theorem ggX8_setFloor_X8_isIn : GoodIn wsX8_setFloor wsX8_isIn := goodIn_r _ [6] (by decide +kernel) (by decide +kernel)
set_option maxRecDepth 20000 in
theorem gX8_setFloor_X8_isIn : GoodIn wsX8_setFloor (va_wsS RX8 26 yX8_isIn wsX8_isIn) := goodIn_app (goodIn_of _ (by decide +kernel)) ggX8_setFloor_X8_isIn
set_option maxRecDepth 20000 in
theorem ggX8_setFloor_X8_no : GoodIn wsX8_setFloor wsX8_no := goodIn_r _ [10, 1, 11, 12, 13] (by decide +kernel) (by decide +kernel)
set_option maxRecDepth 20000 in
theorem gX8_setFloor_X8_no : GoodIn wsX8_setFloor (wsV RX8 33 RX8 yX8_no wsX8_no) := goodIn_app (goodIn_of _ (by decide +kernel)) ggX8_setFloor_X8_no
theorem dX8_setFloor_0 : decode cX8_setFloor 0 = .ok (.aload_n 0, 1) := by decide +kernel
theorem dX8_setFloor_1 : decode cX8_setFloor 1 = .ok (.iconst 0, 1) := by decide +kernel
theorem dX8_setFloor_2 : decode cX8_setFloor 2 = .ok (.putfield 19, 3) := by decide +kernel
theorem dX8_setFloor_5 : decode cX8_setFloor 5 = .ok (.iload_n 1, 1) := by decide +kernel
theorem dX8_setFloor_6 : decode cX8_setFloor 6 = .ok (.iconst 0, 1) := by decide +kernel
theorem dX8_setFloor_7 : decode cX8_setFloor 7 = .ok (.bipush 7, 2) := by decide +kernel
theorem dX8_setFloor_9 : decode cX8_setFloor 9 = .ok (.invokestatic 26, 3) := by decide +kernel
theorem dX8_setFloor_12 : decode cX8_setFloor 12 = .ok (.ifCond .ne 9, 3) := by decide +kernel
theorem dX8_setFloor_15 : decode cX8_setFloor 15 = .ok (.aload_n 0, 1) := by decide +kernel
theorem dX8_setFloor_16 : decode cX8_setFloor 16 = .ok (.iconst 1, 1) := by decide +kernel
theorem dX8_setFloor_17 : decode cX8_setFloor 17 = .ok (.invokevirtual 33, 3) := by decide +kernel
theorem dX8_setFloor_20 : decode cX8_setFloor 20 = .ok (.ireturn, 1) := by decide +kernel
theorem dX8_setFloor_21 : decode cX8_setFloor 21 = .ok (.aload_n 0, 1) := by decide +kernel
theorem dX8_setFloor_22 : decode cX8_setFloor 22 = .ok (.getfield 10, 3) := by decide +kernel
theorem dX8_setFloor_25 : decode cX8_setFloor 25 = .ok (.getfield 37, 3) := by decide +kernel
theorem dX8_setFloor_28 : decode cX8_setFloor 28 = .ok (.istore_n 2, 1) := by decide +kernel
theorem dX8_setFloor_29 : decode cX8_setFloor 29 = .ok (.aload_n 0, 1) := by decide +kernel
theorem dX8_setFloor_30 : decode cX8_setFloor 30 = .ok (.getfield 10, 3) := by decide +kernel
theorem dX8_setFloor_33 : decode cX8_setFloor 33 = .ok (.iload_n 1, 1) := by decide +kernel
theorem dX8_setFloor_34 : decode cX8_setFloor 34 = .ok (.putfield 37, 3) := by decide +kernel
theorem dX8_setFloor_37 : decode cX8_setFloor 37 = .ok (.iload_n 2, 1) := by decide +kernel
theorem dX8_setFloor_38 : decode cX8_setFloor 38 = .ok (.ireturn, 1) := by decide +kernel
set_option maxRecDepth 20000 in
theorem ggX8_speak_X8_isIn : GoodIn wsX8_speak wsX8_isIn := goodIn_r _ [6] (by decide +kernel) (by decide +kernel)
set_option maxRecDepth 20000 in
theorem gX8_speak_X8_isIn : GoodIn wsX8_speak (va_wsS RX8 26 yX8_isIn wsX8_isIn) := goodIn_app (goodIn_of _ (by decide +kernel)) ggX8_speak_X8_isIn
set_option maxRecDepth 20000 in
theorem ggX8_speak_X8_no : GoodIn wsX8_speak wsX8_no := goodIn_r _ [10, 1, 11, 12, 13] (by decide +kernel) (by decide +kernel)
set_option maxRecDepth 20000 in
theorem gX8_speak_X8_no : GoodIn wsX8_speak (wsV RX8 33 RX8 yX8_no wsX8_no) := goodIn_app (goodIn_of _ (by decide +kernel)) ggX8_speak_X8_no
theorem dX8_speak_0 : decode cX8_speak 0 = .ok (.aload_n 0, 1) := by decide +kernel
theorem dX8_speak_1 : decode cX8_speak 1 = .ok (.iconst 0, 1) := by decide +kernel
theorem dX8_speak_2 : decode cX8_speak 2 = .ok (.putfield 19, 3) := by decide +kernel
theorem dX8_speak_5 : decode cX8_speak 5 = .ok (.iload_n 1, 1) := by decide +kernel
theorem dX8_speak_6 : decode cX8_speak 6 = .ok (.iconst 0, 1) := by decide +kernel
theorem dX8_speak_7 : decode cX8_speak 7 = .ok (.bipush 99, 2) := by decide +kernel
theorem dX8_speak_9 : decode cX8_speak 9 = .ok (.invokestatic 26, 3) := by decide +kernel
theorem dX8_speak_12 : decode cX8_speak 12 = .ok (.ifCond .eq 24, 3) := by decide +kernel
theorem dX8_speak_15 : decode cX8_speak 15 = .ok (.iload_n 2, 1) := by decide +kernel
theorem dX8_speak_16 : decode cX8_speak 16 = .ok (.bipush (-99), 2) := by decide +kernel
theorem dX8_speak_18 : decode cX8_speak 18 = .ok (.bipush 99, 2) := by decide +kernel
theorem dX8_speak_20 : decode cX8_speak 20 = .ok (.invokestatic 26, 3) := by decide +kernel
theorem dX8_speak_23 : decode cX8_speak 23 = .ok (.ifCond .eq 13, 3) := by decide +kernel
theorem dX8_speak_26 : decode cX8_speak 26 = .ok (.iload_n 3, 1) := by decide +kernel
theorem dX8_speak_27 : decode cX8_speak 27 = .ok (.iconst 1, 1) := by decide +kernel
theorem dX8_speak_28 : decode cX8_speak 28 = .ok (.bipush 40, 2) := by decide +kernel
theorem dX8_speak_30 : decode cX8_speak 30 = .ok (.invokestatic 26, 3) := by decide +kernel
theorem dX8_speak_33 : decode cX8_speak 33 = .ok (.ifCond .ne 9, 3) := by decide +kernel
theorem dX8_speak_36 : decode cX8_speak 36 = .ok (.aload_n 0, 1) := by decide +kernel
theorem dX8_speak_37 : decode cX8_speak 37 = .ok (.iconst 1, 1) := by decide +kernel
theorem dX8_speak_38 : decode cX8_speak 38 = .ok (.invokevirtual 33, 3) := by decide +kernel
theorem dX8_speak_41 : decode cX8_speak 41 = .ok (.ireturn, 1) := by decide +kernel
theorem dX8_speak_42 : decode cX8_speak 42 = .ok (.aload_n 0, 1) := by decide +kernel
theorem dX8_speak_43 : decode cX8_speak 43 = .ok (.getfield 10, 3) := by decide +kernel
theorem dX8_speak_46 : decode cX8_speak 46 = .ok (.getfield 40, 3) := by decide +kernel
theorem dX8_speak_49 : decode cX8_speak 49 = .ok (.iload_n 3, 1) := by decide +kernel
theorem dX8_speak_50 : decode cX8_speak 50 = .ok (.iadd, 1) := by decide +kernel
theorem dX8_speak_51 : decode cX8_speak 51 = .ok (.bipush 120, 2) := by decide +kernel
theorem dX8_speak_53 : decode cX8_speak 53 = .ok (.if_icmp .le 9, 3) := by decide +kernel
theorem dX8_speak_56 : decode cX8_speak 56 = .ok (.aload_n 0, 1) := by decide +kernel
theorem dX8_speak_57 : decode cX8_speak 57 = .ok (.iconst 2, 1) := by decide +kernel
theorem dX8_speak_58 : decode cX8_speak 58 = .ok (.invokevirtual 33, 3) := by decide +kernel
theorem dX8_speak_61 : decode cX8_speak 61 = .ok (.ireturn, 1) := by decide +kernel
theorem dX8_speak_62 : decode cX8_speak 62 = .ok (.iload_n 1, 1) := by decide +kernel
theorem dX8_speak_63 : decode cX8_speak 63 = .ok (.istore 4, 2) := by decide +kernel
theorem dX8_speak_65 : decode cX8_speak 65 = .ok (.iconst 0, 1) := by decide +kernel
theorem dX8_speak_66 : decode cX8_speak 66 = .ok (.istore 5, 2) := by decide +kernel
theorem dX8_speak_68 : decode cX8_speak 68 = .ok (.iload 5, 2) := by decide +kernel
theorem dX8_speak_70 : decode cX8_speak 70 = .ok (.iload_n 3, 1) := by decide +kernel
theorem dX8_speak_71 : decode cX8_speak 71 = .ok (.if_icmp .ge 51, 3) := by decide +kernel
theorem dX8_speak_74 : decode cX8_speak 74 = .ok (.aload_n 0, 1) := by decide +kernel
theorem dX8_speak_75 : decode cX8_speak 75 = .ok (.getfield 10, 3) := by decide +kernel
theorem dX8_speak_78 : decode cX8_speak 78 = .ok (.getfield 43, 3) := by decide +kernel
theorem dX8_speak_81 : decode cX8_speak 81 = .ok (.aload_n 0, 1) := by decide +kernel
theorem dX8_speak_82 : decode cX8_speak 82 = .ok (.getfield 10, 3) := by decide +kernel
theorem dX8_speak_85 : decode cX8_speak 85 = .ok (.getfield 40, 3) := by decide +kernel
theorem dX8_speak_88 : decode cX8_speak 88 = .ok (.iload 4, 2) := by decide +kernel
theorem dX8_speak_90 : decode cX8_speak 90 = .ok (.iastore, 1) := by decide +kernel
theorem dX8_speak_91 : decode cX8_speak 91 = .ok (.aload_n 0, 1) := by decide +kernel
theorem dX8_speak_92 : decode cX8_speak 92 = .ok (.getfield 10, 3) := by decide +kernel
theorem dX8_speak_95 : decode cX8_speak 95 = .ok (.dup, 1) := by decide +kernel
theorem dX8_speak_96 : decode cX8_speak 96 = .ok (.getfield 40, 3) := by decide +kernel
theorem dX8_speak_99 : decode cX8_speak 99 = .ok (.iconst 1, 1) := by decide +kernel
theorem dX8_speak_100 : decode cX8_speak 100 = .ok (.iadd, 1) := by decide +kernel
theorem dX8_speak_101 : decode cX8_speak 101 = .ok (.putfield 40, 3) := by decide +kernel
theorem dX8_speak_104 : decode cX8_speak 104 = .ok (.iload 4, 2) := by decide +kernel
theorem dX8_speak_106 : decode cX8_speak 106 = .ok (.iload_n 2, 1) := by decide +kernel
theorem dX8_speak_107 : decode cX8_speak 107 = .ok (.iadd, 1) := by decide +kernel
theorem dX8_speak_108 : decode cX8_speak 108 = .ok (.bipush 100, 2) := by decide +kernel
theorem dX8_speak_110 : decode cX8_speak 110 = .ok (.iadd, 1) := by decide +kernel
theorem dX8_speak_111 : decode cX8_speak 111 = .ok (.bipush 100, 2) := by decide +kernel
theorem dX8_speak_113 : decode cX8_speak 113 = .ok (.irem, 1) := by decide +kernel
theorem dX8_speak_114 : decode cX8_speak 114 = .ok (.istore 4, 2) := by decide +kernel
theorem dX8_speak_116 : decode cX8_speak 116 = .ok (.iinc 5 1, 3) := by decide +kernel
theorem dX8_speak_119 : decode cX8_speak 119 = .ok (.goto (-51), 3) := by decide +kernel
theorem dX8_speak_122 : decode cX8_speak 122 = .ok (.aload_n 0, 1) := by decide +kernel
theorem dX8_speak_123 : decode cX8_speak 123 = .ok (.getfield 10, 3) := by decide +kernel
theorem dX8_speak_126 : decode cX8_speak 126 = .ok (.getfield 40, 3) := by decide +kernel
theorem dX8_speak_129 : decode cX8_speak 129 = .ok (.ireturn, 1) := by decide +kernel
set_option maxRecDepth 20000 in
theorem ggX8_rest_X8_isIn : GoodIn wsX8_rest wsX8_isIn := goodIn_r _ [6] (by decide +kernel) (by decide +kernel)
set_option maxRecDepth 20000 in
theorem gX8_rest_X8_isIn : GoodIn wsX8_rest (va_wsS RX8 26 yX8_isIn wsX8_isIn) := goodIn_app (goodIn_of _ (by decide +kernel)) ggX8_rest_X8_isIn
set_option maxRecDepth 20000 in
theorem ggX8_rest_X8_no : GoodIn wsX8_rest wsX8_no := goodIn_r _ [10, 1, 11, 12, 13] (by decide +kernel) (by decide +kernel)
set_option maxRecDepth 20000 in
theorem gX8_rest_X8_no : GoodIn wsX8_rest (wsV RX8 33 RX8 yX8_no wsX8_no) := goodIn_app (goodIn_of _ (by decide +kernel)) ggX8_rest_X8_no
theorem dX8_rest_0 : decode cX8_rest 0 = .ok (.aload_n 0, 1) := by decide +kernel
theorem dX8_rest_1 : decode cX8_rest 1 = .ok (.iconst 0, 1) := by decide +kernel
theorem dX8_rest_2 : decode cX8_rest 2 = .ok (.putfield 19, 3) := by decide +kernel
theorem dX8_rest_5 : decode cX8_rest 5 = .ok (.iload_n 1, 1) := by decide +kernel
theorem dX8_rest_6 : decode cX8_rest 6 = .ok (.iconst 1, 1) := by decide +kernel
theorem dX8_rest_7 : decode cX8_rest 7 = .ok (.bipush 40, 2) := by decide +kernel
theorem dX8_rest_9 : decode cX8_rest 9 = .ok (.invokestatic 26, 3) := by decide +kernel
theorem dX8_rest_12 : decode cX8_rest 12 = .ok (.ifCond .ne 9, 3) := by decide +kernel
theorem dX8_rest_15 : decode cX8_rest 15 = .ok (.aload_n 0, 1) := by decide +kernel
theorem dX8_rest_16 : decode cX8_rest 16 = .ok (.iconst 1, 1) := by decide +kernel
theorem dX8_rest_17 : decode cX8_rest 17 = .ok (.invokevirtual 33, 3) := by decide +kernel
theorem dX8_rest_20 : decode cX8_rest 20 = .ok (.ireturn, 1) := by decide +kernel
theorem dX8_rest_21 : decode cX8_rest 21 = .ok (.aload_n 0, 1) := by decide +kernel
theorem dX8_rest_22 : decode cX8_rest 22 = .ok (.getfield 10, 3) := by decide +kernel
theorem dX8_rest_25 : decode cX8_rest 25 = .ok (.getfield 40, 3) := by decide +kernel
theorem dX8_rest_28 : decode cX8_rest 28 = .ok (.iload_n 1, 1) := by decide +kernel
theorem dX8_rest_29 : decode cX8_rest 29 = .ok (.iadd, 1) := by decide +kernel
theorem dX8_rest_30 : decode cX8_rest 30 = .ok (.bipush 120, 2) := by decide +kernel
theorem dX8_rest_32 : decode cX8_rest 32 = .ok (.if_icmp .le 9, 3) := by decide +kernel
theorem dX8_rest_35 : decode cX8_rest 35 = .ok (.aload_n 0, 1) := by decide +kernel
theorem dX8_rest_36 : decode cX8_rest 36 = .ok (.iconst 2, 1) := by decide +kernel
theorem dX8_rest_37 : decode cX8_rest 37 = .ok (.invokevirtual 33, 3) := by decide +kernel
theorem dX8_rest_40 : decode cX8_rest 40 = .ok (.ireturn, 1) := by decide +kernel
theorem dX8_rest_41 : decode cX8_rest 41 = .ok (.iconst 0, 1) := by decide +kernel
theorem dX8_rest_42 : decode cX8_rest 42 = .ok (.istore_n 2, 1) := by decide +kernel
theorem dX8_rest_43 : decode cX8_rest 43 = .ok (.iload_n 2, 1) := by decide +kernel
theorem dX8_rest_44 : decode cX8_rest 44 = .ok (.iload_n 1, 1) := by decide +kernel
theorem dX8_rest_45 : decode cX8_rest 45 = .ok (.if_icmp .ge 27, 3) := by decide +kernel
theorem dX8_rest_48 : decode cX8_rest 48 = .ok (.aload_n 0, 1) := by decide +kernel
theorem dX8_rest_49 : decode cX8_rest 49 = .ok (.getfield 10, 3) := by decide +kernel
theorem dX8_rest_52 : decode cX8_rest 52 = .ok (.getfield 43, 3) := by decide +kernel
theorem dX8_rest_55 : decode cX8_rest 55 = .ok (.aload_n 0, 1) := by decide +kernel
theorem dX8_rest_56 : decode cX8_rest 56 = .ok (.getfield 10, 3) := by decide +kernel
theorem dX8_rest_59 : decode cX8_rest 59 = .ok (.getfield 40, 3) := by decide +kernel
theorem dX8_rest_62 : decode cX8_rest 62 = .ok (.iload_n 2, 1) := by decide +kernel
theorem dX8_rest_63 : decode cX8_rest 63 = .ok (.iadd, 1) := by decide +kernel
theorem dX8_rest_64 : decode cX8_rest 64 = .ok (.iconst (-1), 1) := by decide +kernel
theorem dX8_rest_65 : decode cX8_rest 65 = .ok (.iastore, 1) := by decide +kernel
theorem dX8_rest_66 : decode cX8_rest 66 = .ok (.iinc 2 1, 3) := by decide +kernel
theorem dX8_rest_69 : decode cX8_rest 69 = .ok (.goto (-26), 3) := by decide +kernel
theorem dX8_rest_72 : decode cX8_rest 72 = .ok (.aload_n 0, 1) := by decide +kernel
theorem dX8_rest_73 : decode cX8_rest 73 = .ok (.getfield 10, 3) := by decide +kernel
theorem dX8_rest_76 : decode cX8_rest 76 = .ok (.dup, 1) := by decide +kernel
theorem dX8_rest_77 : decode cX8_rest 77 = .ok (.getfield 40, 3) := by decide +kernel
theorem dX8_rest_80 : decode cX8_rest 80 = .ok (.iload_n 1, 1) := by decide +kernel
theorem dX8_rest_81 : decode cX8_rest 81 = .ok (.iadd, 1) := by decide +kernel
theorem dX8_rest_82 : decode cX8_rest 82 = .ok (.putfield 40, 3) := by decide +kernel
theorem dX8_rest_85 : decode cX8_rest 85 = .ok (.aload_n 0, 1) := by decide +kernel
theorem dX8_rest_86 : decode cX8_rest 86 = .ok (.getfield 10, 3) := by decide +kernel
theorem dX8_rest_89 : decode cX8_rest 89 = .ok (.getfield 40, 3) := by decide +kernel
theorem dX8_rest_92 : decode cX8_rest 92 = .ok (.ireturn, 1) := by decide +kernel
set_option maxRecDepth 20000 in
theorem ggX8_addInterpreter_X8_isIn : GoodIn wsX8_addInterpreter wsX8_isIn := goodIn_r _ [7] (by decide +kernel) (by decide +kernel)
set_option maxRecDepth 20000 in
theorem gX8_addInterpreter_X8_isIn : GoodIn wsX8_addInterpreter (va_wsS RX8 26 yX8_isIn wsX8_isIn) := goodIn_app (goodIn_of _ (by decide +kernel)) ggX8_addInterpreter_X8_isIn
set_option maxRecDepth 20000 in
theorem ggX8_addInterpreter_X8_no : GoodIn wsX8_addInterpreter wsX8_no := goodIn_r _ [11, 1, 12, 13, 14] (by decide +kernel) (by decide +kernel)
set_option maxRecDepth 20000 in
theorem gX8_addInterpreter_X8_no : GoodIn wsX8_addInterpreter (wsV RX8 33 RX8 yX8_no wsX8_no) := goodIn_app (goodIn_of _ (by decide +kernel)) ggX8_addInterpreter_X8_no
theorem dX8_addInterpreter_0 : decode cX8_addInterpreter 0 = .ok (.aload_n 0, 1) := by decide +kernel
theorem dX8_addInterpreter_1 : decode cX8_addInterpreter 1 = .ok (.iconst 0, 1) := by decide +kernel
theorem dX8_addInterpreter_2 : decode cX8_addInterpreter 2 = .ok (.putfield 19, 3) := by decide +kernel
theorem dX8_addInterpreter_5 : decode cX8_addInterpreter 5 = .ok (.iload_n 1, 1) := by decide +kernel
theorem dX8_addInterpreter_6 : decode cX8_addInterpreter 6 = .ok (.iconst 0, 1) := by decide +kernel
theorem dX8_addInterpreter_7 : decode cX8_addInterpreter 7 = .ok (.sipush 255, 3) := by decide +kernel
theorem dX8_addInterpreter_10 : decode cX8_addInterpreter 10 = .ok (.invokestatic 26, 3) := by decide +kernel
theorem dX8_addInterpreter_13 : decode cX8_addInterpreter 13 = .ok (.ifCond .eq 13, 3) := by decide +kernel
theorem dX8_addInterpreter_16 : decode cX8_addInterpreter 16 = .ok (.iload_n 2, 1) := by decide +kernel
theorem dX8_addInterpreter_17 : decode cX8_addInterpreter 17 = .ok (.iconst 0, 1) := by decide +kernel
theorem dX8_addInterpreter_18 : decode cX8_addInterpreter 18 = .ok (.ldc 47, 2) := by decide +kernel
theorem dX8_addInterpreter_20 : decode cX8_addInterpreter 20 = .ok (.invokestatic 26, 3) := by decide +kernel
theorem dX8_addInterpreter_23 : decode cX8_addInterpreter 23 = .ok (.ifCond .ne 9, 3) := by decide +kernel
theorem dX8_addInterpreter_26 : decode cX8_addInterpreter 26 = .ok (.aload_n 0, 1) := by decide +kernel
theorem dX8_addInterpreter_27 : decode cX8_addInterpreter 27 = .ok (.iconst 1, 1) := by decide +kernel
theorem dX8_addInterpreter_28 : decode cX8_addInterpreter 28 = .ok (.invokevirtual 33, 3) := by decide +kernel
theorem dX8_addInterpreter_31 : decode cX8_addInterpreter 31 = .ok (.ireturn, 1) := by decide +kernel
theorem dX8_addInterpreter_32 : decode cX8_addInterpreter 32 = .ok (.aload_n 0, 1) := by decide +kernel
theorem dX8_addInterpreter_33 : decode cX8_addInterpreter 33 = .ok (.getfield 10, 3) := by decide +kernel
theorem dX8_addInterpreter_36 : decode cX8_addInterpreter 36 = .ok (.getfield 30, 3) := by decide +kernel
theorem dX8_addInterpreter_39 : decode cX8_addInterpreter 39 = .ok (.bipush 8, 2) := by decide +kernel
theorem dX8_addInterpreter_41 : decode cX8_addInterpreter 41 = .ok (.if_icmp .ne 9, 3) := by decide +kernel
theorem dX8_addInterpreter_44 : decode cX8_addInterpreter 44 = .ok (.aload_n 0, 1) := by decide +kernel
theorem dX8_addInterpreter_45 : decode cX8_addInterpreter 45 = .ok (.iconst 2, 1) := by decide +kernel
theorem dX8_addInterpreter_46 : decode cX8_addInterpreter 46 = .ok (.invokevirtual 33, 3) := by decide +kernel
theorem dX8_addInterpreter_49 : decode cX8_addInterpreter 49 = .ok (.ireturn, 1) := by decide +kernel
theorem dX8_addInterpreter_50 : decode cX8_addInterpreter 50 = .ok (.aload_n 0, 1) := by decide +kernel
theorem dX8_addInterpreter_51 : decode cX8_addInterpreter 51 = .ok (.getfield 10, 3) := by decide +kernel
theorem dX8_addInterpreter_54 : decode cX8_addInterpreter 54 = .ok (.getfield 48, 3) := by decide +kernel
theorem dX8_addInterpreter_57 : decode cX8_addInterpreter 57 = .ok (.aload_n 0, 1) := by decide +kernel
theorem dX8_addInterpreter_58 : decode cX8_addInterpreter 58 = .ok (.getfield 10, 3) := by decide +kernel
theorem dX8_addInterpreter_61 : decode cX8_addInterpreter 61 = .ok (.getfield 30, 3) := by decide +kernel
theorem dX8_addInterpreter_64 : decode cX8_addInterpreter 64 = .ok (.iload_n 1, 1) := by decide +kernel
theorem dX8_addInterpreter_65 : decode cX8_addInterpreter 65 = .ok (.iastore, 1) := by decide +kernel
theorem dX8_addInterpreter_66 : decode cX8_addInterpreter 66 = .ok (.aload_n 0, 1) := by decide +kernel
theorem dX8_addInterpreter_67 : decode cX8_addInterpreter 67 = .ok (.getfield 10, 3) := by decide +kernel
theorem dX8_addInterpreter_70 : decode cX8_addInterpreter 70 = .ok (.getfield 51, 3) := by decide +kernel
theorem dX8_addInterpreter_73 : decode cX8_addInterpreter 73 = .ok (.aload_n 0, 1) := by decide +kernel
theorem dX8_addInterpreter_74 : decode cX8_addInterpreter 74 = .ok (.getfield 10, 3) := by decide +kernel
theorem dX8_addInterpreter_77 : decode cX8_addInterpreter 77 = .ok (.getfield 30, 3) := by decide +kernel
theorem dX8_addInterpreter_80 : decode cX8_addInterpreter 80 = .ok (.iload_n 2, 1) := by decide +kernel
theorem dX8_addInterpreter_81 : decode cX8_addInterpreter 81 = .ok (.iastore, 1) := by decide +kernel
theorem dX8_addInterpreter_82 : decode cX8_addInterpreter 82 = .ok (.aload_n 0, 1) := by decide +kernel
theorem dX8_addInterpreter_83 : decode cX8_addInterpreter 83 = .ok (.getfield 10, 3) := by decide +kernel
theorem dX8_addInterpreter_86 : decode cX8_addInterpreter 86 = .ok (.dup, 1) := by decide +kernel
theorem dX8_addInterpreter_87 : decode cX8_addInterpreter 87 = .ok (.getfield 30, 3) := by decide +kernel
theorem dX8_addInterpreter_90 : decode cX8_addInterpreter 90 = .ok (.iconst 1, 1) := by decide +kernel
theorem dX8_addInterpreter_91 : decode cX8_addInterpreter 91 = .ok (.iadd, 1) := by decide +kernel
theorem dX8_addInterpreter_92 : decode cX8_addInterpreter 92 = .ok (.putfield 30, 3) := by decide +kernel
theorem dX8_addInterpreter_95 : decode cX8_addInterpreter 95 = .ok (.aload_n 0, 1) := by decide +kernel
theorem dX8_addInterpreter_96 : decode cX8_addInterpreter 96 = .ok (.getfield 10, 3) := by decide +kernel
theorem dX8_addInterpreter_99 : decode cX8_addInterpreter 99 = .ok (.getfield 30, 3) := by decide +kernel
theorem dX8_addInterpreter_102 : decode cX8_addInterpreter 102 = .ok (.iconst 1, 1) := by decide +kernel
theorem dX8_addInterpreter_103 : decode cX8_addInterpreter 103 = .ok (.isub, 1) := by decide +kernel
theorem dX8_addInterpreter_104 : decode cX8_addInterpreter 104 = .ok (.ireturn, 1) := by decide +kernel
set_option maxRecDepth 20000 in
theorem ggX8_addBooth_X8_isIn : GoodIn wsX8_addBooth wsX8_isIn := goodIn_r _ [6] (by decide +kernel) (by decide +kernel)
set_option maxRecDepth 20000 in
theorem gX8_addBooth_X8_isIn : GoodIn wsX8_addBooth (va_wsS RX8 26 yX8_isIn wsX8_isIn) := goodIn_app (goodIn_of _ (by decide +kernel)) ggX8_addBooth_X8_isIn
set_option maxRecDepth 20000 in
theorem ggX8_addBooth_X8_no : GoodIn wsX8_addBooth wsX8_no := goodIn_r _ [10, 1, 11, 12, 13] (by decide +kernel) (by decide +kernel)
set_option maxRecDepth 20000 in
theorem gX8_addBooth_X8_no : GoodIn wsX8_addBooth (wsV RX8 33 RX8 yX8_no wsX8_no) := goodIn_app (goodIn_of _ (by decide +kernel)) ggX8_addBooth_X8_no
theorem dX8_addBooth_0 : decode cX8_addBooth 0 = .ok (.aload_n 0, 1) := by decide +kernel
theorem dX8_addBooth_1 : decode cX8_addBooth 1 = .ok (.iconst 0, 1) := by decide +kernel
theorem dX8_addBooth_2 : decode cX8_addBooth 2 = .ok (.putfield 19, 3) := by decide +kernel
theorem dX8_addBooth_5 : decode cX8_addBooth 5 = .ok (.iload_n 1, 1) := by decide +kernel
theorem dX8_addBooth_6 : decode cX8_addBooth 6 = .ok (.iconst 0, 1) := by decide +kernel
theorem dX8_addBooth_7 : decode cX8_addBooth 7 = .ok (.bipush 7, 2) := by decide +kernel
theorem dX8_addBooth_9 : decode cX8_addBooth 9 = .ok (.invokestatic 26, 3) := by decide +kernel
theorem dX8_addBooth_12 : decode cX8_addBooth 12 = .ok (.ifCond .eq 23, 3) := by decide +kernel
theorem dX8_addBooth_15 : decode cX8_addBooth 15 = .ok (.iload_n 2, 1) := by decide +kernel
theorem dX8_addBooth_16 : decode cX8_addBooth 16 = .ok (.iconst 1, 1) := by decide +kernel
theorem dX8_addBooth_17 : decode cX8_addBooth 17 = .ok (.bipush 9, 2) := by decide +kernel
theorem dX8_addBooth_19 : decode cX8_addBooth 19 = .ok (.invokestatic 26, 3) := by decide +kernel
theorem dX8_addBooth_22 : decode cX8_addBooth 22 = .ok (.ifCond .eq 13, 3) := by decide +kernel
theorem dX8_addBooth_25 : decode cX8_addBooth 25 = .ok (.iload_n 3, 1) := by decide +kernel
theorem dX8_addBooth_26 : decode cX8_addBooth 26 = .ok (.iconst 1, 1) := by decide +kernel
theorem dX8_addBooth_27 : decode cX8_addBooth 27 = .ok (.bipush 12, 2) := by decide +kernel
theorem dX8_addBooth_29 : decode cX8_addBooth 29 = .ok (.invokestatic 26, 3) := by decide +kernel
theorem dX8_addBooth_32 : decode cX8_addBooth 32 = .ok (.ifCond .ne 9, 3) := by decide +kernel
theorem dX8_addBooth_35 : decode cX8_addBooth 35 = .ok (.aload_n 0, 1) := by decide +kernel
theorem dX8_addBooth_36 : decode cX8_addBooth 36 = .ok (.iconst 1, 1) := by decide +kernel
theorem dX8_addBooth_37 : decode cX8_addBooth 37 = .ok (.invokevirtual 33, 3) := by decide +kernel
theorem dX8_addBooth_40 : decode cX8_addBooth 40 = .ok (.ireturn, 1) := by decide +kernel
theorem dX8_addBooth_41 : decode cX8_addBooth 41 = .ok (.aload_n 0, 1) := by decide +kernel
theorem dX8_addBooth_42 : decode cX8_addBooth 42 = .ok (.getfield 10, 3) := by decide +kernel
theorem dX8_addBooth_45 : decode cX8_addBooth 45 = .ok (.getfield 23, 3) := by decide +kernel
theorem dX8_addBooth_48 : decode cX8_addBooth 48 = .ok (.bipush 6, 2) := by decide +kernel
theorem dX8_addBooth_50 : decode cX8_addBooth 50 = .ok (.if_icmp .ne 9, 3) := by decide +kernel
theorem dX8_addBooth_53 : decode cX8_addBooth 53 = .ok (.aload_n 0, 1) := by decide +kernel
theorem dX8_addBooth_54 : decode cX8_addBooth 54 = .ok (.iconst 2, 1) := by decide +kernel
theorem dX8_addBooth_55 : decode cX8_addBooth 55 = .ok (.invokevirtual 33, 3) := by decide +kernel
theorem dX8_addBooth_58 : decode cX8_addBooth 58 = .ok (.ireturn, 1) := by decide +kernel
theorem dX8_addBooth_59 : decode cX8_addBooth 59 = .ok (.aload_n 0, 1) := by decide +kernel
theorem dX8_addBooth_60 : decode cX8_addBooth 60 = .ok (.getfield 10, 3) := by decide +kernel
theorem dX8_addBooth_63 : decode cX8_addBooth 63 = .ok (.getfield 23, 3) := by decide +kernel
theorem dX8_addBooth_66 : decode cX8_addBooth 66 = .ok (.istore 4, 2) := by decide +kernel
theorem dX8_addBooth_68 : decode cX8_addBooth 68 = .ok (.aload_n 0, 1) := by decide +kernel
theorem dX8_addBooth_69 : decode cX8_addBooth 69 = .ok (.getfield 10, 3) := by decide +kernel
theorem dX8_addBooth_72 : decode cX8_addBooth 72 = .ok (.getfield 54, 3) := by decide +kernel
theorem dX8_addBooth_75 : decode cX8_addBooth 75 = .ok (.iload 4, 2) := by decide +kernel
theorem dX8_addBooth_77 : decode cX8_addBooth 77 = .ok (.iload_n 1, 1) := by decide +kernel
theorem dX8_addBooth_78 : decode cX8_addBooth 78 = .ok (.iastore, 1) := by decide +kernel
theorem dX8_addBooth_79 : decode cX8_addBooth 79 = .ok (.aload_n 0, 1) := by decide +kernel
theorem dX8_addBooth_80 : decode cX8_addBooth 80 = .ok (.getfield 10, 3) := by decide +kernel
theorem dX8_addBooth_83 : decode cX8_addBooth 83 = .ok (.getfield 57, 3) := by decide +kernel
theorem dX8_addBooth_86 : decode cX8_addBooth 86 = .ok (.iload 4, 2) := by decide +kernel
theorem dX8_addBooth_88 : decode cX8_addBooth 88 = .ok (.iload_n 2, 1) := by decide +kernel
theorem dX8_addBooth_89 : decode cX8_addBooth 89 = .ok (.iastore, 1) := by decide +kernel
theorem dX8_addBooth_90 : decode cX8_addBooth 90 = .ok (.aload_n 0, 1) := by decide +kernel
theorem dX8_addBooth_91 : decode cX8_addBooth 91 = .ok (.getfield 10, 3) := by decide +kernel
theorem dX8_addBooth_94 : decode cX8_addBooth 94 = .ok (.getfield 60, 3) := by decide +kernel
theorem dX8_addBooth_97 : decode cX8_addBooth 97 = .ok (.iload 4, 2) := by decide +kernel
theorem dX8_addBooth_99 : decode cX8_addBooth 99 = .ok (.iload_n 3, 1) := by decide +kernel
theorem dX8_addBooth_100 : decode cX8_addBooth 100 = .ok (.iastore, 1) := by decide +kernel
theorem dX8_addBooth_101 : decode cX8_addBooth 101 = .ok (.aload_n 0, 1) := by decide +kernel
theorem dX8_addBooth_102 : decode cX8_addBooth 102 = .ok (.getfield 10, 3) := by decide +kernel
theorem dX8_addBooth_105 : decode cX8_addBooth 105 = .ok (.getfield 63, 3) := by decide +kernel
theorem dX8_addBooth_108 : decode cX8_addBooth 108 = .ok (.iload 4, 2) := by decide +kernel
theorem dX8_addBooth_110 : decode cX8_addBooth 110 = .ok (.iconst (-1), 1) := by decide +kernel
theorem dX8_addBooth_111 : decode cX8_addBooth 111 = .ok (.iastore, 1) := by decide +kernel
theorem dX8_addBooth_112 : decode cX8_addBooth 112 = .ok (.aload_n 0, 1) := by decide +kernel
theorem dX8_addBooth_113 : decode cX8_addBooth 113 = .ok (.getfield 10, 3) := by decide +kernel
theorem dX8_addBooth_116 : decode cX8_addBooth 116 = .ok (.getfield 66, 3) := by decide +kernel
theorem dX8_addBooth_119 : decode cX8_addBooth 119 = .ok (.iload 4, 2) := by decide +kernel
theorem dX8_addBooth_121 : decode cX8_addBooth 121 = .ok (.iconst (-1), 1) := by decide +kernel
theorem dX8_addBooth_122 : decode cX8_addBooth 122 = .ok (.iastore, 1) := by decide +kernel
theorem dX8_addBooth_123 : decode cX8_addBooth 123 = .ok (.aload_n 0, 1) := by decide +kernel
theorem dX8_addBooth_124 : decode cX8_addBooth 124 = .ok (.getfield 10, 3) := by decide +kernel
theorem dX8_addBooth_127 : decode cX8_addBooth 127 = .ok (.getfield 69, 3) := by decide +kernel
theorem dX8_addBooth_130 : decode cX8_addBooth 130 = .ok (.iload 4, 2) := by decide +kernel
theorem dX8_addBooth_132 : decode cX8_addBooth 132 = .ok (.iconst (-1), 1) := by decide +kernel
theorem dX8_addBooth_133 : decode cX8_addBooth 133 = .ok (.iastore, 1) := by decide +kernel
theorem dX8_addBooth_134 : decode cX8_addBooth 134 = .ok (.aload_n 0, 1) := by decide +kernel
theorem dX8_addBooth_135 : decode cX8_addBooth 135 = .ok (.getfield 10, 3) := by decide +kernel
theorem dX8_addBooth_138 : decode cX8_addBooth 138 = .ok (.dup, 1) := by decide +kernel
theorem dX8_addBooth_139 : decode cX8_addBooth 139 = .ok (.getfield 23, 3) := by decide +kernel
theorem dX8_addBooth_142 : decode cX8_addBooth 142 = .ok (.iconst 1, 1) := by decide +kernel
theorem dX8_addBooth_143 : decode cX8_addBooth 143 = .ok (.iadd, 1) := by decide +kernel
theorem dX8_addBooth_144 : decode cX8_addBooth 144 = .ok (.putfield 23, 3) := by decide +kernel
theorem dX8_addBooth_147 : decode cX8_addBooth 147 = .ok (.iload 4, 2) := by decide +kernel
theorem dX8_addBooth_149 : decode cX8_addBooth 149 = .ok (.ireturn, 1) := by decide +kernel
set_option maxRecDepth 20000 in
theorem ggX8_tune_X8_isBooth : GoodIn wsX8_tune wsX8_isBooth := goodIn_r _ [7, 2, 8, 9, 6, 10, 15, 16, 17, 18, 19, 20, 21, 22, 23, 24, 25, 26, 27, 28, 29, 30, 31, 32, 33, 34, 35, 36, 37, 38, 39, 40, 41, 42, 43] (by decide +kernel) (by decide +kernel)
set_option maxRecDepth 20000 in
theorem gX8_tune_X8_isBooth : GoodIn wsX8_tune (wsV RX8 72 RX8 yX8_isBooth wsX8_isBooth) := goodIn_app (goodIn_of _ (by decide +kernel)) ggX8_tune_X8_isBooth
set_option maxRecDepth 20000 in
theorem ggX8_tune_X8_no : GoodIn wsX8_tune wsX8_no := goodIn_r _ [14, 1, 15, 16, 17] (by decide +kernel) (by decide +kernel)
set_option maxRecDepth 20000 in
theorem gX8_tune_X8_no : GoodIn wsX8_tune (wsV RX8 33 RX8 yX8_no wsX8_no) := goodIn_app (goodIn_of _ (by decide +kernel)) ggX8_tune_X8_no
theorem dX8_tune_0 : decode cX8_tune 0 = .ok (.aload_n 0, 1) := by decide +kernel
theorem dX8_tune_1 : decode cX8_tune 1 = .ok (.iconst 0, 1) := by decide +kernel
theorem dX8_tune_2 : decode cX8_tune 2 = .ok (.putfield 19, 3) := by decide +kernel
theorem dX8_tune_5 : decode cX8_tune 5 = .ok (.aload_n 0, 1) := by decide +kernel
theorem dX8_tune_6 : decode cX8_tune 6 = .ok (.iload_n 1, 1) := by decide +kernel
theorem dX8_tune_7 : decode cX8_tune 7 = .ok (.invokevirtual 72, 3) := by decide +kernel
theorem dX8_tune_10 : decode cX8_tune 10 = .ok (.ifCond .eq 16, 3) := by decide +kernel
theorem dX8_tune_13 : decode cX8_tune 13 = .ok (.iload_n 2, 1) := by decide +kernel
theorem dX8_tune_14 : decode cX8_tune 14 = .ok (.iconst (-1), 1) := by decide +kernel
theorem dX8_tune_15 : decode cX8_tune 15 = .ok (.if_icmp .eq 17, 3) := by decide +kernel
theorem dX8_tune_18 : decode cX8_tune 18 = .ok (.aload_n 0, 1) := by decide +kernel
theorem dX8_tune_19 : decode cX8_tune 19 = .ok (.iload_n 2, 1) := by decide +kernel
theorem dX8_tune_20 : decode cX8_tune 20 = .ok (.invokevirtual 72, 3) := by decide +kernel
theorem dX8_tune_23 : decode cX8_tune 23 = .ok (.ifCond .ne 9, 3) := by decide +kernel
theorem dX8_tune_26 : decode cX8_tune 26 = .ok (.aload_n 0, 1) := by decide +kernel
theorem dX8_tune_27 : decode cX8_tune 27 = .ok (.iconst 1, 1) := by decide +kernel
theorem dX8_tune_28 : decode cX8_tune 28 = .ok (.invokevirtual 33, 3) := by decide +kernel
theorem dX8_tune_31 : decode cX8_tune 31 = .ok (.ireturn, 1) := by decide +kernel
theorem dX8_tune_32 : decode cX8_tune 32 = .ok (.iload_n 2, 1) := by decide +kernel
theorem dX8_tune_33 : decode cX8_tune 33 = .ok (.istore_n 3, 1) := by decide +kernel
theorem dX8_tune_34 : decode cX8_tune 34 = .ok (.iload_n 3, 1) := by decide +kernel
theorem dX8_tune_35 : decode cX8_tune 35 = .ok (.iconst (-1), 1) := by decide +kernel
theorem dX8_tune_36 : decode cX8_tune 36 = .ok (.if_icmp .eq 27, 3) := by decide +kernel
theorem dX8_tune_39 : decode cX8_tune 39 = .ok (.iload_n 3, 1) := by decide +kernel
theorem dX8_tune_40 : decode cX8_tune 40 = .ok (.iload_n 1, 1) := by decide +kernel
theorem dX8_tune_41 : decode cX8_tune 41 = .ok (.if_icmp .ne 9, 3) := by decide +kernel
theorem dX8_tune_44 : decode cX8_tune 44 = .ok (.aload_n 0, 1) := by decide +kernel
theorem dX8_tune_45 : decode cX8_tune 45 = .ok (.iconst 2, 1) := by decide +kernel
theorem dX8_tune_46 : decode cX8_tune 46 = .ok (.invokevirtual 33, 3) := by decide +kernel
theorem dX8_tune_49 : decode cX8_tune 49 = .ok (.ireturn, 1) := by decide +kernel
theorem dX8_tune_50 : decode cX8_tune 50 = .ok (.aload_n 0, 1) := by decide +kernel
theorem dX8_tune_51 : decode cX8_tune 51 = .ok (.getfield 10, 3) := by decide +kernel
theorem dX8_tune_54 : decode cX8_tune 54 = .ok (.getfield 63, 3) := by decide +kernel
theorem dX8_tune_57 : decode cX8_tune 57 = .ok (.iload_n 3, 1) := by decide +kernel
theorem dX8_tune_58 : decode cX8_tune 58 = .ok (.iaload, 1) := by decide +kernel
theorem dX8_tune_59 : decode cX8_tune 59 = .ok (.istore_n 3, 1) := by decide +kernel
theorem dX8_tune_60 : decode cX8_tune 60 = .ok (.goto (-26), 3) := by decide +kernel
theorem dX8_tune_63 : decode cX8_tune 63 = .ok (.aload_n 0, 1) := by decide +kernel
theorem dX8_tune_64 : decode cX8_tune 64 = .ok (.getfield 10, 3) := by decide +kernel
theorem dX8_tune_67 : decode cX8_tune 67 = .ok (.getfield 63, 3) := by decide +kernel
theorem dX8_tune_70 : decode cX8_tune 70 = .ok (.iload_n 1, 1) := by decide +kernel
theorem dX8_tune_71 : decode cX8_tune 71 = .ok (.iaload, 1) := by decide +kernel
theorem dX8_tune_72 : decode cX8_tune 72 = .ok (.istore_n 3, 1) := by decide +kernel
theorem dX8_tune_73 : decode cX8_tune 73 = .ok (.aload_n 0, 1) := by decide +kernel
theorem dX8_tune_74 : decode cX8_tune 74 = .ok (.getfield 10, 3) := by decide +kernel
theorem dX8_tune_77 : decode cX8_tune 77 = .ok (.getfield 63, 3) := by decide +kernel
theorem dX8_tune_80 : decode cX8_tune 80 = .ok (.iload_n 1, 1) := by decide +kernel
theorem dX8_tune_81 : decode cX8_tune 81 = .ok (.iload_n 2, 1) := by decide +kernel
theorem dX8_tune_82 : decode cX8_tune 82 = .ok (.iastore, 1) := by decide +kernel
theorem dX8_tune_83 : decode cX8_tune 83 = .ok (.iload_n 3, 1) := by decide +kernel
theorem dX8_tune_84 : decode cX8_tune 84 = .ok (.ireturn, 1) := by decide +kernel
set_option maxRecDepth 20000 in
theorem ggX8_sit_X8_isBooth : GoodIn wsX8_sit wsX8_isBooth := goodIn_r _ [7, 2, 8, 9, 6, 10, 30, 31, 32, 33, 34, 35, 36, 37, 38, 39, 40, 41, 42, 43, 44, 45, 46, 47, 48, 49, 50, 51, 52, 53, 54, 55, 56, 57, 58] (by decide +kernel) (by decide +kernel)
set_option maxRecDepth 20000 in
theorem gX8_sit_X8_isBooth : GoodIn wsX8_sit (wsV RX8 72 RX8 yX8_isBooth wsX8_isBooth) := goodIn_app (goodIn_of _ (by decide +kernel)) ggX8_sit_X8_isBooth
set_option maxRecDepth 20000 in
theorem ggX8_sit_X8_isInterpreter : GoodIn wsX8_sit wsX8_isInterpreter := goodIn_r _ [14, 2, 8, 9, 6, 10, 30, 31, 32, 33, 34, 35, 36, 37, 38, 39, 40, 41, 42, 43, 44, 45, 46, 47, 48, 49, 50, 51, 52, 53, 54, 55, 56, 57, 58] (by decide +kernel) (by decide +kernel)
set_option maxRecDepth 20000 in
theorem gX8_sit_X8_isInterpreter : GoodIn wsX8_sit (wsV RX8 76 RX8 yX8_isInterpreter wsX8_isInterpreter) := goodIn_app (goodIn_of _ (by decide +kernel)) ggX8_sit_X8_isInterpreter
set_option maxRecDepth 20000 in
theorem ggX8_sit_X8_no : GoodIn wsX8_sit wsX8_no := goodIn_r _ [18, 1, 30, 31, 32] (by decide +kernel) (by decide +kernel)
set_option maxRecDepth 20000 in
theorem gX8_sit_X8_no : GoodIn wsX8_sit (wsV RX8 33 RX8 yX8_no wsX8_no) := goodIn_app (goodIn_of _ (by decide +kernel)) ggX8_sit_X8_no
set_option maxRecDepth 20000 in
theorem ggX8_sit_X7_sit : GoodIn wsX8_sit wsX7_sit := goodIn_r _ [23, 24, 25, 26, 27, 22, 28, 29, 33, 34, 35, 36, 37, 38, 39, 40, 41, 42, 43, 44, 45, 46, 47, 48, 49, 50, 51, 52, 53, 54, 55, 56, 57, 58] (by decide +kernel) (by decide +kernel)
set_option maxRecDepth 20000 in
theorem gX8_sit_X7_sit : GoodIn wsX8_sit (wsV RX8 79 RX7 yX7_sit wsX7_sit) := goodIn_app (goodIn_of _ (by decide +kernel)) ggX8_sit_X7_sit
theorem dX8_sit_0 : decode cX8_sit 0 = .ok (.aload_n 0, 1) := by decide +kernel
theorem dX8_sit_1 : decode cX8_sit 1 = .ok (.iconst 0, 1) := by decide +kernel
theorem dX8_sit_2 : decode cX8_sit 2 = .ok (.putfield 19, 3) := by decide +kernel
theorem dX8_sit_5 : decode cX8_sit 5 = .ok (.aload_n 0, 1) := by decide +kernel
theorem dX8_sit_6 : decode cX8_sit 6 = .ok (.iload_n 1, 1) := by decide +kernel
theorem dX8_sit_7 : decode cX8_sit 7 = .ok (.invokevirtual 72, 3) := by decide +kernel
theorem dX8_sit_10 : decode cX8_sit 10 = .ok (.ifCond .eq 16, 3) := by decide +kernel
theorem dX8_sit_13 : decode cX8_sit 13 = .ok (.iload_n 2, 1) := by decide +kernel
theorem dX8_sit_14 : decode cX8_sit 14 = .ok (.iconst (-1), 1) := by decide +kernel
theorem dX8_sit_15 : decode cX8_sit 15 = .ok (.if_icmp .eq 17, 3) := by decide +kernel
theorem dX8_sit_18 : decode cX8_sit 18 = .ok (.aload_n 0, 1) := by decide +kernel
theorem dX8_sit_19 : decode cX8_sit 19 = .ok (.iload_n 2, 1) := by decide +kernel
theorem dX8_sit_20 : decode cX8_sit 20 = .ok (.invokevirtual 76, 3) := by decide +kernel
theorem dX8_sit_23 : decode cX8_sit 23 = .ok (.ifCond .ne 9, 3) := by decide +kernel
theorem dX8_sit_26 : decode cX8_sit 26 = .ok (.aload_n 0, 1) := by decide +kernel
theorem dX8_sit_27 : decode cX8_sit 27 = .ok (.iconst 1, 1) := by decide +kernel
theorem dX8_sit_28 : decode cX8_sit 28 = .ok (.invokevirtual 33, 3) := by decide +kernel
theorem dX8_sit_31 : decode cX8_sit 31 = .ok (.ireturn, 1) := by decide +kernel
theorem dX8_sit_32 : decode cX8_sit 32 = .ok (.aload_n 0, 1) := by decide +kernel
theorem dX8_sit_33 : decode cX8_sit 33 = .ok (.getfield 10, 3) := by decide +kernel
theorem dX8_sit_36 : decode cX8_sit 36 = .ok (.getfield 66, 3) := by decide +kernel
theorem dX8_sit_39 : decode cX8_sit 39 = .ok (.iload_n 1, 1) := by decide +kernel
theorem dX8_sit_40 : decode cX8_sit 40 = .ok (.iaload, 1) := by decide +kernel
theorem dX8_sit_41 : decode cX8_sit 41 = .ok (.istore_n 3, 1) := by decide +kernel
theorem dX8_sit_42 : decode cX8_sit 42 = .ok (.aload_n 0, 1) := by decide +kernel
theorem dX8_sit_43 : decode cX8_sit 43 = .ok (.getfield 10, 3) := by decide +kernel
theorem dX8_sit_46 : decode cX8_sit 46 = .ok (.iload_n 1, 1) := by decide +kernel
theorem dX8_sit_47 : decode cX8_sit 47 = .ok (.iload_n 2, 1) := by decide +kernel
theorem dX8_sit_48 : decode cX8_sit 48 = .ok (.invokevirtual 79, 3) := by decide +kernel
theorem dX8_sit_51 : decode cX8_sit 51 = .ok (.iload_n 3, 1) := by decide +kernel
theorem dX8_sit_52 : decode cX8_sit 52 = .ok (.ireturn, 1) := by decide +kernel
set_option maxRecDepth 20000 in
theorem ggX8_swap_X8_isBooth : GoodIn wsX8_swap wsX8_isBooth := goodIn_r _ [7, 2, 8, 9, 6, 10, 25, 26, 27, 28, 29, 30, 31, 32, 33, 34, 35, 36, 37, 38, 39, 40, 41, 42, 43, 44, 45, 46, 47, 48, 49, 50, 51, 52, 53] (by decide +kernel) (by decide +kernel)
set_option maxRecDepth 20000 in
theorem gX8_swap_X8_isBooth : GoodIn wsX8_swap (wsV RX8 72 RX8 yX8_isBooth wsX8_isBooth) := goodIn_app (goodIn_of _ (by decide +kernel)) ggX8_swap_X8_isBooth
set_option maxRecDepth 20000 in
theorem ggX8_swap_X8_no : GoodIn wsX8_swap wsX8_no := goodIn_r _ [14, 1, 25, 26, 27] (by decide +kernel) (by decide +kernel)
set_option maxRecDepth 20000 in
theorem gX8_swap_X8_no : GoodIn wsX8_swap (wsV RX8 33 RX8 yX8_no wsX8_no) := goodIn_app (goodIn_of _ (by decide +kernel)) ggX8_swap_X8_no
set_option maxRecDepth 20000 in
theorem ggX8_swap_X7_isAble : GoodIn wsX8_swap wsX7_isAble := goodIn_r _ [19, 20, 21, 22, 23, 24, 28, 29, 30, 31, 32, 33, 34, 35, 36, 37, 38, 39, 40, 41, 42, 43, 44, 45, 46, 47, 48, 49, 50, 51, 52, 53] (by decide +kernel) (by decide +kernel)
set_option maxRecDepth 20000 in
theorem gX8_swap_X7_isAble : GoodIn wsX8_swap (wsV RX8 83 RX7 yX7_isAble wsX7_isAble) := goodIn_app (goodIn_of _ (by decide +kernel)) ggX8_swap_X7_isAble
theorem dX8_swap_0 : decode cX8_swap 0 = .ok (.aload_n 0, 1) := by decide +kernel
theorem dX8_swap_1 : decode cX8_swap 1 = .ok (.iconst 0, 1) := by decide +kernel
theorem dX8_swap_2 : decode cX8_swap 2 = .ok (.putfield 19, 3) := by decide +kernel
theorem dX8_swap_5 : decode cX8_swap 5 = .ok (.aload_n 0, 1) := by decide +kernel
theorem dX8_swap_6 : decode cX8_swap 6 = .ok (.iload_n 1, 1) := by decide +kernel
theorem dX8_swap_7 : decode cX8_swap 7 = .ok (.invokevirtual 72, 3) := by decide +kernel
theorem dX8_swap_10 : decode cX8_swap 10 = .ok (.ifCond .eq 11, 3) := by decide +kernel
theorem dX8_swap_13 : decode cX8_swap 13 = .ok (.aload_n 0, 1) := by decide +kernel
theorem dX8_swap_14 : decode cX8_swap 14 = .ok (.iload_n 2, 1) := by decide +kernel
theorem dX8_swap_15 : decode cX8_swap 15 = .ok (.invokevirtual 72, 3) := by decide +kernel
theorem dX8_swap_18 : decode cX8_swap 18 = .ok (.ifCond .ne 9, 3) := by decide +kernel
theorem dX8_swap_21 : decode cX8_swap 21 = .ok (.aload_n 0, 1) := by decide +kernel
theorem dX8_swap_22 : decode cX8_swap 22 = .ok (.iconst 1, 1) := by decide +kernel
theorem dX8_swap_23 : decode cX8_swap 23 = .ok (.invokevirtual 33, 3) := by decide +kernel
theorem dX8_swap_26 : decode cX8_swap 26 = .ok (.ireturn, 1) := by decide +kernel
theorem dX8_swap_27 : decode cX8_swap 27 = .ok (.iload_n 1, 1) := by decide +kernel
theorem dX8_swap_28 : decode cX8_swap 28 = .ok (.iload_n 2, 1) := by decide +kernel
theorem dX8_swap_29 : decode cX8_swap 29 = .ok (.if_icmp .ne 9, 3) := by decide +kernel
theorem dX8_swap_32 : decode cX8_swap 32 = .ok (.aload_n 0, 1) := by decide +kernel
theorem dX8_swap_33 : decode cX8_swap 33 = .ok (.iconst 2, 1) := by decide +kernel
theorem dX8_swap_34 : decode cX8_swap 34 = .ok (.invokevirtual 33, 3) := by decide +kernel
theorem dX8_swap_37 : decode cX8_swap 37 = .ok (.ireturn, 1) := by decide +kernel
theorem dX8_swap_38 : decode cX8_swap 38 = .ok (.aload_n 0, 1) := by decide +kernel
theorem dX8_swap_39 : decode cX8_swap 39 = .ok (.getfield 10, 3) := by decide +kernel
theorem dX8_swap_42 : decode cX8_swap 42 = .ok (.getfield 66, 3) := by decide +kernel
theorem dX8_swap_45 : decode cX8_swap 45 = .ok (.iload_n 1, 1) := by decide +kernel
theorem dX8_swap_46 : decode cX8_swap 46 = .ok (.iaload, 1) := by decide +kernel
theorem dX8_swap_47 : decode cX8_swap 47 = .ok (.istore_n 3, 1) := by decide +kernel
theorem dX8_swap_48 : decode cX8_swap 48 = .ok (.aload_n 0, 1) := by decide +kernel
theorem dX8_swap_49 : decode cX8_swap 49 = .ok (.getfield 10, 3) := by decide +kernel
theorem dX8_swap_52 : decode cX8_swap 52 = .ok (.getfield 66, 3) := by decide +kernel
theorem dX8_swap_55 : decode cX8_swap 55 = .ok (.iload_n 1, 1) := by decide +kernel
theorem dX8_swap_56 : decode cX8_swap 56 = .ok (.aload_n 0, 1) := by decide +kernel
theorem dX8_swap_57 : decode cX8_swap 57 = .ok (.getfield 10, 3) := by decide +kernel
theorem dX8_swap_60 : decode cX8_swap 60 = .ok (.getfield 66, 3) := by decide +kernel
theorem dX8_swap_63 : decode cX8_swap 63 = .ok (.iload_n 2, 1) := by decide +kernel
theorem dX8_swap_64 : decode cX8_swap 64 = .ok (.iaload, 1) := by decide +kernel
theorem dX8_swap_65 : decode cX8_swap 65 = .ok (.iastore, 1) := by decide +kernel
theorem dX8_swap_66 : decode cX8_swap 66 = .ok (.aload_n 0, 1) := by decide +kernel
theorem dX8_swap_67 : decode cX8_swap 67 = .ok (.getfield 10, 3) := by decide +kernel
theorem dX8_swap_70 : decode cX8_swap 70 = .ok (.getfield 66, 3) := by decide +kernel
theorem dX8_swap_73 : decode cX8_swap 73 = .ok (.iload_n 2, 1) := by decide +kernel
theorem dX8_swap_74 : decode cX8_swap 74 = .ok (.iload_n 3, 1) := by decide +kernel
theorem dX8_swap_75 : decode cX8_swap 75 = .ok (.iastore, 1) := by decide +kernel
theorem dX8_swap_76 : decode cX8_swap 76 = .ok (.aload_n 0, 1) := by decide +kernel
theorem dX8_swap_77 : decode cX8_swap 77 = .ok (.getfield 10, 3) := by decide +kernel
theorem dX8_swap_80 : decode cX8_swap 80 = .ok (.iload_n 1, 1) := by decide +kernel
theorem dX8_swap_81 : decode cX8_swap 81 = .ok (.invokevirtual 83, 3) := by decide +kernel
theorem dX8_swap_84 : decode cX8_swap 84 = .ok (.ifCond .eq 7, 3) := by decide +kernel
theorem dX8_swap_87 : decode cX8_swap 87 = .ok (.iconst 1, 1) := by decide +kernel
theorem dX8_swap_88 : decode cX8_swap 88 = .ok (.goto 4, 3) := by decide +kernel
theorem dX8_swap_91 : decode cX8_swap 91 = .ok (.iconst 0, 1) := by decide +kernel
theorem dX8_swap_92 : decode cX8_swap 92 = .ok (.aload_n 0, 1) := by decide +kernel
theorem dX8_swap_93 : decode cX8_swap 93 = .ok (.getfield 10, 3) := by decide +kernel
theorem dX8_swap_96 : decode cX8_swap 96 = .ok (.iload_n 2, 1) := by decide +kernel
theorem dX8_swap_97 : decode cX8_swap 97 = .ok (.invokevirtual 83, 3) := by decide +kernel
theorem dX8_swap_100 : decode cX8_swap 100 = .ok (.ifCond .eq 7, 3) := by decide +kernel
theorem dX8_swap_103 : decode cX8_swap 103 = .ok (.iconst 1, 1) := by decide +kernel
theorem dX8_swap_104 : decode cX8_swap 104 = .ok (.goto 4, 3) := by decide +kernel
theorem dX8_swap_107 : decode cX8_swap 107 = .ok (.iconst 0, 1) := by decide +kernel
theorem dX8_swap_108 : decode cX8_swap 108 = .ok (.iadd, 1) := by decide +kernel
theorem dX8_swap_109 : decode cX8_swap 109 = .ok (.ireturn, 1) := by decide +kernel
theorem dX8_depth_0 : decode cX8_depth 0 = .ok (.iconst 0, 1) := by decide +kernel
theorem dX8_depth_1 : decode cX8_depth 1 = .ok (.istore_n 2, 1) := by decide +kernel
theorem dX8_depth_2 : decode cX8_depth 2 = .ok (.iload_n 1, 1) := by decide +kernel
theorem dX8_depth_3 : decode cX8_depth 3 = .ok (.istore_n 3, 1) := by decide +kernel
theorem dX8_depth_4 : decode cX8_depth 4 = .ok (.iload_n 3, 1) := by decide +kernel
theorem dX8_depth_5 : decode cX8_depth 5 = .ok (.iconst (-1), 1) := by decide +kernel
theorem dX8_depth_6 : decode cX8_depth 6 = .ok (.if_icmp .eq 19, 3) := by decide +kernel
theorem dX8_depth_9 : decode cX8_depth 9 = .ok (.iinc 2 1, 3) := by decide +kernel
theorem dX8_depth_12 : decode cX8_depth 12 = .ok (.aload_n 0, 1) := by decide +kernel
theorem dX8_depth_13 : decode cX8_depth 13 = .ok (.getfield 10, 3) := by decide +kernel
theorem dX8_depth_16 : decode cX8_depth 16 = .ok (.getfield 63, 3) := by decide +kernel
theorem dX8_depth_19 : decode cX8_depth 19 = .ok (.iload_n 3, 1) := by decide +kernel
theorem dX8_depth_20 : decode cX8_depth 20 = .ok (.iaload, 1) := by decide +kernel
theorem dX8_depth_21 : decode cX8_depth 21 = .ok (.istore_n 3, 1) := by decide +kernel
theorem dX8_depth_22 : decode cX8_depth 22 = .ok (.goto (-18), 3) := by decide +kernel
theorem dX8_depth_25 : decode cX8_depth 25 = .ok (.iload_n 2, 1) := by decide +kernel
theorem dX8_depth_26 : decode cX8_depth 26 = .ok (.ireturn, 1) := by decide +kernel
set_option maxRecDepth 20000 in
theorem ggX8_boothTold_X7_through : GoodIn wsX8_boothTold wsX7_through := goodIn_r _ [7, 8, 9, 10, 11, 12, 13, 14, 32, 33, 34, 35, 36, 37, 38, 39, 40, 41, 42, 43, 44, 45, 46, 47, 48, 49, 50, 51, 52, 53, 54, 55, 56, 57] (by decide +kernel) (by decide +kernel)
set_option maxRecDepth 20000 in
theorem gX8_boothTold_X7_through : GoodIn wsX8_boothTold (wsV RX8 86 RX7 yX7_through wsX7_through) := goodIn_app (goodIn_of _ (by decide +kernel)) ggX8_boothTold_X7_through
set_option maxRecDepth 20000 in
theorem ggX8_boothTold_X8_depth : GoodIn wsX8_boothTold wsX8_depth := goodIn_r _ [19, 1, 29, 30, 31, 32, 33, 34, 35, 36, 37, 38, 39, 40, 41, 42, 43, 44, 45, 46, 47, 48, 49, 50, 51, 52, 53, 54, 55, 56, 57] (by decide +kernel) (by decide +kernel)
set_option maxRecDepth 20000 in
theorem gX8_boothTold_X8_depth : GoodIn wsX8_boothTold (wsV RX8 98 RX8 yX8_depth wsX8_depth) := goodIn_app (goodIn_of _ (by decide +kernel)) ggX8_boothTold_X8_depth
set_option maxRecDepth 20000 in
theorem ggX8_boothTold_X7_isAble : GoodIn wsX8_boothTold wsX7_isAble := goodIn_r _ [23, 24, 25, 26, 27, 28, 32, 33, 34, 35, 36, 37, 38, 39, 40, 41, 42, 43, 44, 45, 46, 47, 48, 49, 50, 51, 52, 53, 54, 55, 56, 57] (by decide +kernel) (by decide +kernel)
set_option maxRecDepth 20000 in
theorem gX8_boothTold_X7_isAble : GoodIn wsX8_boothTold (wsV RX8 83 RX7 yX7_isAble wsX7_isAble) := goodIn_app (goodIn_of _ (by decide +kernel)) ggX8_boothTold_X7_isAble
theorem dX8_boothTold_0 : decode cX8_boothTold 0 = .ok (.iload_n 2, 1) := by decide +kernel
theorem dX8_boothTold_1 : decode cX8_boothTold 1 = .ok (.bipush 11, 2) := by decide +kernel
theorem dX8_boothTold_3 : decode cX8_boothTold 3 = .ok (.if_icmp .ne 12, 3) := by decide +kernel
theorem dX8_boothTold_6 : decode cX8_boothTold 6 = .ok (.aload_n 0, 1) := by decide +kernel
theorem dX8_boothTold_7 : decode cX8_boothTold 7 = .ok (.getfield 10, 3) := by decide +kernel
theorem dX8_boothTold_10 : decode cX8_boothTold 10 = .ok (.iload_n 1, 1) := by decide +kernel
theorem dX8_boothTold_11 : decode cX8_boothTold 11 = .ok (.invokevirtual 86, 3) := by decide +kernel
theorem dX8_boothTold_14 : decode cX8_boothTold 14 = .ok (.ireturn, 1) := by decide +kernel
theorem dX8_boothTold_15 : decode cX8_boothTold 15 = .ok (.bipush 11, 2) := by decide +kernel
theorem dX8_boothTold_17 : decode cX8_boothTold 17 = .ok (.newarray .int, 2) := by decide +kernel
theorem dX8_boothTold_19 : decode cX8_boothTold 19 = .ok (.dup, 1) := by decide +kernel
theorem dX8_boothTold_20 : decode cX8_boothTold 20 = .ok (.iconst 0, 1) := by decide +kernel
theorem dX8_boothTold_21 : decode cX8_boothTold 21 = .ok (.aload_n 0, 1) := by decide +kernel
theorem dX8_boothTold_22 : decode cX8_boothTold 22 = .ok (.getfield 10, 3) := by decide +kernel
theorem dX8_boothTold_25 : decode cX8_boothTold 25 = .ok (.getfield 54, 3) := by decide +kernel
theorem dX8_boothTold_28 : decode cX8_boothTold 28 = .ok (.iload_n 1, 1) := by decide +kernel
theorem dX8_boothTold_29 : decode cX8_boothTold 29 = .ok (.iaload, 1) := by decide +kernel
theorem dX8_boothTold_30 : decode cX8_boothTold 30 = .ok (.iastore, 1) := by decide +kernel
theorem dX8_boothTold_31 : decode cX8_boothTold 31 = .ok (.dup, 1) := by decide +kernel
theorem dX8_boothTold_32 : decode cX8_boothTold 32 = .ok (.iconst 1, 1) := by decide +kernel
theorem dX8_boothTold_33 : decode cX8_boothTold 33 = .ok (.aload_n 0, 1) := by decide +kernel
theorem dX8_boothTold_34 : decode cX8_boothTold 34 = .ok (.getfield 10, 3) := by decide +kernel
theorem dX8_boothTold_37 : decode cX8_boothTold 37 = .ok (.getfield 57, 3) := by decide +kernel
theorem dX8_boothTold_40 : decode cX8_boothTold 40 = .ok (.iload_n 1, 1) := by decide +kernel
theorem dX8_boothTold_41 : decode cX8_boothTold 41 = .ok (.iaload, 1) := by decide +kernel
theorem dX8_boothTold_42 : decode cX8_boothTold 42 = .ok (.iastore, 1) := by decide +kernel
theorem dX8_boothTold_43 : decode cX8_boothTold 43 = .ok (.dup, 1) := by decide +kernel
theorem dX8_boothTold_44 : decode cX8_boothTold 44 = .ok (.iconst 2, 1) := by decide +kernel
theorem dX8_boothTold_45 : decode cX8_boothTold 45 = .ok (.aload_n 0, 1) := by decide +kernel
theorem dX8_boothTold_46 : decode cX8_boothTold 46 = .ok (.getfield 10, 3) := by decide +kernel
theorem dX8_boothTold_49 : decode cX8_boothTold 49 = .ok (.getfield 60, 3) := by decide +kernel
theorem dX8_boothTold_52 : decode cX8_boothTold 52 = .ok (.iload_n 1, 1) := by decide +kernel
theorem dX8_boothTold_53 : decode cX8_boothTold 53 = .ok (.iaload, 1) := by decide +kernel
theorem dX8_boothTold_54 : decode cX8_boothTold 54 = .ok (.iastore, 1) := by decide +kernel
theorem dX8_boothTold_55 : decode cX8_boothTold 55 = .ok (.dup, 1) := by decide +kernel
theorem dX8_boothTold_56 : decode cX8_boothTold 56 = .ok (.iconst 3, 1) := by decide +kernel
theorem dX8_boothTold_57 : decode cX8_boothTold 57 = .ok (.aload_n 0, 1) := by decide +kernel
theorem dX8_boothTold_58 : decode cX8_boothTold 58 = .ok (.getfield 10, 3) := by decide +kernel
theorem dX8_boothTold_61 : decode cX8_boothTold 61 = .ok (.getfield 63, 3) := by decide +kernel
theorem dX8_boothTold_64 : decode cX8_boothTold 64 = .ok (.iload_n 1, 1) := by decide +kernel
theorem dX8_boothTold_65 : decode cX8_boothTold 65 = .ok (.iaload, 1) := by decide +kernel
theorem dX8_boothTold_66 : decode cX8_boothTold 66 = .ok (.iastore, 1) := by decide +kernel
theorem dX8_boothTold_67 : decode cX8_boothTold 67 = .ok (.dup, 1) := by decide +kernel
theorem dX8_boothTold_68 : decode cX8_boothTold 68 = .ok (.iconst 4, 1) := by decide +kernel
theorem dX8_boothTold_69 : decode cX8_boothTold 69 = .ok (.aload_n 0, 1) := by decide +kernel
theorem dX8_boothTold_70 : decode cX8_boothTold 70 = .ok (.getfield 10, 3) := by decide +kernel
theorem dX8_boothTold_73 : decode cX8_boothTold 73 = .ok (.getfield 66, 3) := by decide +kernel
theorem dX8_boothTold_76 : decode cX8_boothTold 76 = .ok (.iload_n 1, 1) := by decide +kernel
theorem dX8_boothTold_77 : decode cX8_boothTold 77 = .ok (.iaload, 1) := by decide +kernel
theorem dX8_boothTold_78 : decode cX8_boothTold 78 = .ok (.iastore, 1) := by decide +kernel
theorem dX8_boothTold_79 : decode cX8_boothTold 79 = .ok (.dup, 1) := by decide +kernel
theorem dX8_boothTold_80 : decode cX8_boothTold 80 = .ok (.iconst 5, 1) := by decide +kernel
theorem dX8_boothTold_81 : decode cX8_boothTold 81 = .ok (.aload_n 0, 1) := by decide +kernel
theorem dX8_boothTold_82 : decode cX8_boothTold 82 = .ok (.getfield 10, 3) := by decide +kernel
theorem dX8_boothTold_85 : decode cX8_boothTold 85 = .ok (.getfield 89, 3) := by decide +kernel
theorem dX8_boothTold_88 : decode cX8_boothTold 88 = .ok (.iload_n 1, 1) := by decide +kernel
theorem dX8_boothTold_89 : decode cX8_boothTold 89 = .ok (.iaload, 1) := by decide +kernel
theorem dX8_boothTold_90 : decode cX8_boothTold 90 = .ok (.iastore, 1) := by decide +kernel
theorem dX8_boothTold_91 : decode cX8_boothTold 91 = .ok (.dup, 1) := by decide +kernel
theorem dX8_boothTold_92 : decode cX8_boothTold 92 = .ok (.bipush 6, 2) := by decide +kernel
theorem dX8_boothTold_94 : decode cX8_boothTold 94 = .ok (.aload_n 0, 1) := by decide +kernel
theorem dX8_boothTold_95 : decode cX8_boothTold 95 = .ok (.getfield 10, 3) := by decide +kernel
theorem dX8_boothTold_98 : decode cX8_boothTold 98 = .ok (.getfield 92, 3) := by decide +kernel
theorem dX8_boothTold_101 : decode cX8_boothTold 101 = .ok (.iload_n 1, 1) := by decide +kernel
theorem dX8_boothTold_102 : decode cX8_boothTold 102 = .ok (.iconst 1, 1) := by decide +kernel
theorem dX8_boothTold_103 : decode cX8_boothTold 103 = .ok (.iadd, 1) := by decide +kernel
theorem dX8_boothTold_104 : decode cX8_boothTold 104 = .ok (.iaload, 1) := by decide +kernel
theorem dX8_boothTold_105 : decode cX8_boothTold 105 = .ok (.iastore, 1) := by decide +kernel
theorem dX8_boothTold_106 : decode cX8_boothTold 106 = .ok (.dup, 1) := by decide +kernel
theorem dX8_boothTold_107 : decode cX8_boothTold 107 = .ok (.bipush 7, 2) := by decide +kernel
theorem dX8_boothTold_109 : decode cX8_boothTold 109 = .ok (.aload_n 0, 1) := by decide +kernel
theorem dX8_boothTold_110 : decode cX8_boothTold 110 = .ok (.getfield 10, 3) := by decide +kernel
theorem dX8_boothTold_113 : decode cX8_boothTold 113 = .ok (.getfield 95, 3) := by decide +kernel
theorem dX8_boothTold_116 : decode cX8_boothTold 116 = .ok (.iload_n 1, 1) := by decide +kernel
theorem dX8_boothTold_117 : decode cX8_boothTold 117 = .ok (.iaload, 1) := by decide +kernel
theorem dX8_boothTold_118 : decode cX8_boothTold 118 = .ok (.iastore, 1) := by decide +kernel
theorem dX8_boothTold_119 : decode cX8_boothTold 119 = .ok (.dup, 1) := by decide +kernel
theorem dX8_boothTold_120 : decode cX8_boothTold 120 = .ok (.bipush 8, 2) := by decide +kernel
theorem dX8_boothTold_122 : decode cX8_boothTold 122 = .ok (.aload_n 0, 1) := by decide +kernel
theorem dX8_boothTold_123 : decode cX8_boothTold 123 = .ok (.iload_n 1, 1) := by decide +kernel
theorem dX8_boothTold_124 : decode cX8_boothTold 124 = .ok (.invokevirtual 98, 3) := by decide +kernel
theorem dX8_boothTold_127 : decode cX8_boothTold 127 = .ok (.iastore, 1) := by decide +kernel
theorem dX8_boothTold_128 : decode cX8_boothTold 128 = .ok (.dup, 1) := by decide +kernel
theorem dX8_boothTold_129 : decode cX8_boothTold 129 = .ok (.bipush 9, 2) := by decide +kernel
theorem dX8_boothTold_131 : decode cX8_boothTold 131 = .ok (.aload_n 0, 1) := by decide +kernel
theorem dX8_boothTold_132 : decode cX8_boothTold 132 = .ok (.getfield 10, 3) := by decide +kernel
theorem dX8_boothTold_135 : decode cX8_boothTold 135 = .ok (.getfield 69, 3) := by decide +kernel
theorem dX8_boothTold_138 : decode cX8_boothTold 138 = .ok (.iload_n 1, 1) := by decide +kernel
theorem dX8_boothTold_139 : decode cX8_boothTold 139 = .ok (.iaload, 1) := by decide +kernel
theorem dX8_boothTold_140 : decode cX8_boothTold 140 = .ok (.iconst (-1), 1) := by decide +kernel
theorem dX8_boothTold_141 : decode cX8_boothTold 141 = .ok (.if_icmp .ne 7, 3) := by decide +kernel
theorem dX8_boothTold_144 : decode cX8_boothTold 144 = .ok (.iconst 0, 1) := by decide +kernel
theorem dX8_boothTold_145 : decode cX8_boothTold 145 = .ok (.goto 4, 3) := by decide +kernel
theorem dX8_boothTold_148 : decode cX8_boothTold 148 = .ok (.iconst 1, 1) := by decide +kernel
theorem dX8_boothTold_149 : decode cX8_boothTold 149 = .ok (.iastore, 1) := by decide +kernel
theorem dX8_boothTold_150 : decode cX8_boothTold 150 = .ok (.dup, 1) := by decide +kernel
theorem dX8_boothTold_151 : decode cX8_boothTold 151 = .ok (.bipush 10, 2) := by decide +kernel
theorem dX8_boothTold_153 : decode cX8_boothTold 153 = .ok (.aload_n 0, 1) := by decide +kernel
theorem dX8_boothTold_154 : decode cX8_boothTold 154 = .ok (.getfield 10, 3) := by decide +kernel
theorem dX8_boothTold_157 : decode cX8_boothTold 157 = .ok (.iload_n 1, 1) := by decide +kernel
theorem dX8_boothTold_158 : decode cX8_boothTold 158 = .ok (.invokevirtual 83, 3) := by decide +kernel
theorem dX8_boothTold_161 : decode cX8_boothTold 161 = .ok (.ifCond .eq 7, 3) := by decide +kernel
theorem dX8_boothTold_164 : decode cX8_boothTold 164 = .ok (.iconst 1, 1) := by decide +kernel
theorem dX8_boothTold_165 : decode cX8_boothTold 165 = .ok (.goto 4, 3) := by decide +kernel
theorem dX8_boothTold_168 : decode cX8_boothTold 168 = .ok (.iconst 0, 1) := by decide +kernel
theorem dX8_boothTold_169 : decode cX8_boothTold 169 = .ok (.iastore, 1) := by decide +kernel
theorem dX8_boothTold_170 : decode cX8_boothTold 170 = .ok (.astore_n 3, 1) := by decide +kernel
theorem dX8_boothTold_171 : decode cX8_boothTold 171 = .ok (.aload_n 3, 1) := by decide +kernel
theorem dX8_boothTold_172 : decode cX8_boothTold 172 = .ok (.iload_n 2, 1) := by decide +kernel
theorem dX8_boothTold_173 : decode cX8_boothTold 173 = .ok (.iaload, 1) := by decide +kernel
theorem dX8_boothTold_174 : decode cX8_boothTold 174 = .ok (.ireturn, 1) := by decide +kernel
set_option maxRecDepth 20000 in
theorem ggX8_booth_X8_isBooth : GoodIn wsX8_booth wsX8_isBooth := goodIn_r _ [6, 7, 8, 9, 5, 10, 45, 46, 47, 48, 49, 50, 51, 52, 53, 54, 55, 56, 57, 58, 59, 60, 61, 62, 63, 64, 65, 66, 67, 68, 69, 70, 71, 72, 73] (by decide +kernel) (by decide +kernel)
set_option maxRecDepth 20000 in
theorem gX8_booth_X8_isBooth : GoodIn wsX8_booth (wsV RX8 72 RX8 yX8_isBooth wsX8_isBooth) := goodIn_app (goodIn_of _ (by decide +kernel)) ggX8_booth_X8_isBooth
set_option maxRecDepth 20000 in
theorem ggX8_booth_X8_isIn : GoodIn wsX8_booth wsX8_isIn := goodIn_r _ [10] (by decide +kernel) (by decide +kernel)
set_option maxRecDepth 20000 in
theorem gX8_booth_X8_isIn : GoodIn wsX8_booth (va_wsS RX8 26 yX8_isIn wsX8_isIn) := goodIn_app (goodIn_of _ (by decide +kernel)) ggX8_booth_X8_isIn
set_option maxRecDepth 20000 in
theorem ggX8_booth_X8_boothTold : GoodIn wsX8_booth wsX8_boothTold := goodIn_r _ [14, 7, 15, 16, 17, 18, 19, 20, 21, 22, 23, 24, 25, 26, 27, 28, 29, 30, 5, 31, 32, 33, 34, 35, 36, 37, 38, 39, 40, 45, 46, 47, 48, 49, 50, 51, 52, 53, 54, 55, 56, 57, 58, 59, 60, 61, 62, 63, 64, 65, 66, 67, 68, 69, 70, 71, 72, 73] (by decide +kernel) (by decide +kernel)
set_option maxRecDepth 20000 in
theorem gX8_booth_X8_boothTold : GoodIn wsX8_booth (wsV RX8 101 RX8 yX8_boothTold wsX8_boothTold) := goodIn_app (goodIn_of _ (by decide +kernel)) ggX8_booth_X8_boothTold
set_option maxRecDepth 20000 in
theorem ggX8_booth_X8_no : GoodIn wsX8_booth wsX8_no := goodIn_r _ [44, 1, 45, 46, 47] (by decide +kernel) (by decide +kernel)
set_option maxRecDepth 20000 in
theorem gX8_booth_X8_no : GoodIn wsX8_booth (wsV RX8 33 RX8 yX8_no wsX8_no) := goodIn_app (goodIn_of _ (by decide +kernel)) ggX8_booth_X8_no
theorem dX8_booth_0 : decode cX8_booth 0 = .ok (.aload_n 0, 1) := by decide +kernel
theorem dX8_booth_1 : decode cX8_booth 1 = .ok (.iconst 0, 1) := by decide +kernel
theorem dX8_booth_2 : decode cX8_booth 2 = .ok (.putfield 19, 3) := by decide +kernel
theorem dX8_booth_5 : decode cX8_booth 5 = .ok (.aload_n 0, 1) := by decide +kernel
theorem dX8_booth_6 : decode cX8_booth 6 = .ok (.iload_n 1, 1) := by decide +kernel
theorem dX8_booth_7 : decode cX8_booth 7 = .ok (.invokevirtual 72, 3) := by decide +kernel
theorem dX8_booth_10 : decode cX8_booth 10 = .ok (.ifCond .eq 22, 3) := by decide +kernel
theorem dX8_booth_13 : decode cX8_booth 13 = .ok (.iload_n 2, 1) := by decide +kernel
theorem dX8_booth_14 : decode cX8_booth 14 = .ok (.iconst 0, 1) := by decide +kernel
theorem dX8_booth_15 : decode cX8_booth 15 = .ok (.bipush 11, 2) := by decide +kernel
theorem dX8_booth_17 : decode cX8_booth 17 = .ok (.invokestatic 26, 3) := by decide +kernel
theorem dX8_booth_20 : decode cX8_booth 20 = .ok (.ifCond .eq 12, 3) := by decide +kernel
theorem dX8_booth_23 : decode cX8_booth 23 = .ok (.aload_n 0, 1) := by decide +kernel
theorem dX8_booth_24 : decode cX8_booth 24 = .ok (.iload_n 1, 1) := by decide +kernel
theorem dX8_booth_25 : decode cX8_booth 25 = .ok (.iload_n 2, 1) := by decide +kernel
theorem dX8_booth_26 : decode cX8_booth 26 = .ok (.invokevirtual 101, 3) := by decide +kernel
theorem dX8_booth_29 : decode cX8_booth 29 = .ok (.goto 8, 3) := by decide +kernel
theorem dX8_booth_32 : decode cX8_booth 32 = .ok (.aload_n 0, 1) := by decide +kernel
theorem dX8_booth_33 : decode cX8_booth 33 = .ok (.iconst 1, 1) := by decide +kernel
theorem dX8_booth_34 : decode cX8_booth 34 = .ok (.invokevirtual 33, 3) := by decide +kernel
theorem dX8_booth_37 : decode cX8_booth 37 = .ok (.ireturn, 1) := by decide +kernel
set_option maxRecDepth 20000 in
theorem ggX8_interpreterTold_X7_boothOf : GoodIn wsX8_interpreterTold wsX7_boothOf := goodIn_r _ [7, 8, 9, 13, 14, 15, 16, 17, 18, 19, 20, 21, 22, 23, 24, 25, 26, 27, 28, 29, 30, 31, 32, 33, 34, 35, 36, 37, 38] (by decide +kernel) (by decide +kernel)
set_option maxRecDepth 20000 in
theorem gX8_interpreterTold_X7_boothOf : GoodIn wsX8_interpreterTold (wsV RX8 105 RX7 yX7_boothOf wsX7_boothOf) := goodIn_app (goodIn_of _ (by decide +kernel)) ggX8_interpreterTold_X7_boothOf
theorem dX8_interpreterTold_0 : decode cX8_interpreterTold 0 = .ok (.bipush 7, 2) := by decide +kernel
theorem dX8_interpreterTold_2 : decode cX8_interpreterTold 2 = .ok (.newarray .int, 2) := by decide +kernel
theorem dX8_interpreterTold_4 : decode cX8_interpreterTold 4 = .ok (.dup, 1) := by decide +kernel
theorem dX8_interpreterTold_5 : decode cX8_interpreterTold 5 = .ok (.iconst 0, 1) := by decide +kernel
theorem dX8_interpreterTold_6 : decode cX8_interpreterTold 6 = .ok (.aload_n 0, 1) := by decide +kernel
theorem dX8_interpreterTold_7 : decode cX8_interpreterTold 7 = .ok (.getfield 10, 3) := by decide +kernel
theorem dX8_interpreterTold_10 : decode cX8_interpreterTold 10 = .ok (.getfield 48, 3) := by decide +kernel
theorem dX8_interpreterTold_13 : decode cX8_interpreterTold 13 = .ok (.iload_n 1, 1) := by decide +kernel
theorem dX8_interpreterTold_14 : decode cX8_interpreterTold 14 = .ok (.iaload, 1) := by decide +kernel
theorem dX8_interpreterTold_15 : decode cX8_interpreterTold 15 = .ok (.iastore, 1) := by decide +kernel
theorem dX8_interpreterTold_16 : decode cX8_interpreterTold 16 = .ok (.dup, 1) := by decide +kernel
theorem dX8_interpreterTold_17 : decode cX8_interpreterTold 17 = .ok (.iconst 1, 1) := by decide +kernel
theorem dX8_interpreterTold_18 : decode cX8_interpreterTold 18 = .ok (.aload_n 0, 1) := by decide +kernel
theorem dX8_interpreterTold_19 : decode cX8_interpreterTold 19 = .ok (.getfield 10, 3) := by decide +kernel
theorem dX8_interpreterTold_22 : decode cX8_interpreterTold 22 = .ok (.getfield 51, 3) := by decide +kernel
theorem dX8_interpreterTold_25 : decode cX8_interpreterTold 25 = .ok (.iload_n 1, 1) := by decide +kernel
theorem dX8_interpreterTold_26 : decode cX8_interpreterTold 26 = .ok (.iaload, 1) := by decide +kernel
theorem dX8_interpreterTold_27 : decode cX8_interpreterTold 27 = .ok (.iastore, 1) := by decide +kernel
theorem dX8_interpreterTold_28 : decode cX8_interpreterTold 28 = .ok (.dup, 1) := by decide +kernel
theorem dX8_interpreterTold_29 : decode cX8_interpreterTold 29 = .ok (.iconst 2, 1) := by decide +kernel
theorem dX8_interpreterTold_30 : decode cX8_interpreterTold 30 = .ok (.aload_n 0, 1) := by decide +kernel
theorem dX8_interpreterTold_31 : decode cX8_interpreterTold 31 = .ok (.getfield 10, 3) := by decide +kernel
theorem dX8_interpreterTold_34 : decode cX8_interpreterTold 34 = .ok (.iload_n 1, 1) := by decide +kernel
theorem dX8_interpreterTold_35 : decode cX8_interpreterTold 35 = .ok (.invokevirtual 105, 3) := by decide +kernel
theorem dX8_interpreterTold_38 : decode cX8_interpreterTold 38 = .ok (.iastore, 1) := by decide +kernel
theorem dX8_interpreterTold_39 : decode cX8_interpreterTold 39 = .ok (.dup, 1) := by decide +kernel
theorem dX8_interpreterTold_40 : decode cX8_interpreterTold 40 = .ok (.iconst 3, 1) := by decide +kernel
theorem dX8_interpreterTold_41 : decode cX8_interpreterTold 41 = .ok (.aload_n 0, 1) := by decide +kernel
theorem dX8_interpreterTold_42 : decode cX8_interpreterTold 42 = .ok (.getfield 10, 3) := by decide +kernel
theorem dX8_interpreterTold_45 : decode cX8_interpreterTold 45 = .ok (.getfield 108, 3) := by decide +kernel
theorem dX8_interpreterTold_48 : decode cX8_interpreterTold 48 = .ok (.iload_n 1, 1) := by decide +kernel
theorem dX8_interpreterTold_49 : decode cX8_interpreterTold 49 = .ok (.iaload, 1) := by decide +kernel
theorem dX8_interpreterTold_50 : decode cX8_interpreterTold 50 = .ok (.iastore, 1) := by decide +kernel
theorem dX8_interpreterTold_51 : decode cX8_interpreterTold 51 = .ok (.dup, 1) := by decide +kernel
theorem dX8_interpreterTold_52 : decode cX8_interpreterTold 52 = .ok (.iconst 4, 1) := by decide +kernel
theorem dX8_interpreterTold_53 : decode cX8_interpreterTold 53 = .ok (.aload_n 0, 1) := by decide +kernel
theorem dX8_interpreterTold_54 : decode cX8_interpreterTold 54 = .ok (.getfield 10, 3) := by decide +kernel
theorem dX8_interpreterTold_57 : decode cX8_interpreterTold 57 = .ok (.getfield 111, 3) := by decide +kernel
theorem dX8_interpreterTold_60 : decode cX8_interpreterTold 60 = .ok (.iload_n 1, 1) := by decide +kernel
theorem dX8_interpreterTold_61 : decode cX8_interpreterTold 61 = .ok (.iaload, 1) := by decide +kernel
theorem dX8_interpreterTold_62 : decode cX8_interpreterTold 62 = .ok (.iastore, 1) := by decide +kernel
theorem dX8_interpreterTold_63 : decode cX8_interpreterTold 63 = .ok (.dup, 1) := by decide +kernel
theorem dX8_interpreterTold_64 : decode cX8_interpreterTold 64 = .ok (.iconst 5, 1) := by decide +kernel
theorem dX8_interpreterTold_65 : decode cX8_interpreterTold 65 = .ok (.aload_n 0, 1) := by decide +kernel
theorem dX8_interpreterTold_66 : decode cX8_interpreterTold 66 = .ok (.getfield 10, 3) := by decide +kernel
theorem dX8_interpreterTold_69 : decode cX8_interpreterTold 69 = .ok (.getfield 114, 3) := by decide +kernel
theorem dX8_interpreterTold_72 : decode cX8_interpreterTold 72 = .ok (.iload_n 1, 1) := by decide +kernel
theorem dX8_interpreterTold_73 : decode cX8_interpreterTold 73 = .ok (.iaload, 1) := by decide +kernel
theorem dX8_interpreterTold_74 : decode cX8_interpreterTold 74 = .ok (.iastore, 1) := by decide +kernel
theorem dX8_interpreterTold_75 : decode cX8_interpreterTold 75 = .ok (.dup, 1) := by decide +kernel
theorem dX8_interpreterTold_76 : decode cX8_interpreterTold 76 = .ok (.bipush 6, 2) := by decide +kernel
theorem dX8_interpreterTold_78 : decode cX8_interpreterTold 78 = .ok (.aload_n 0, 1) := by decide +kernel
theorem dX8_interpreterTold_79 : decode cX8_interpreterTold 79 = .ok (.getfield 10, 3) := by decide +kernel
theorem dX8_interpreterTold_82 : decode cX8_interpreterTold 82 = .ok (.getfield 117, 3) := by decide +kernel
theorem dX8_interpreterTold_85 : decode cX8_interpreterTold 85 = .ok (.iload_n 1, 1) := by decide +kernel
theorem dX8_interpreterTold_86 : decode cX8_interpreterTold 86 = .ok (.iaload, 1) := by decide +kernel
theorem dX8_interpreterTold_87 : decode cX8_interpreterTold 87 = .ok (.iastore, 1) := by decide +kernel
theorem dX8_interpreterTold_88 : decode cX8_interpreterTold 88 = .ok (.astore_n 3, 1) := by decide +kernel
theorem dX8_interpreterTold_89 : decode cX8_interpreterTold 89 = .ok (.aload_n 3, 1) := by decide +kernel
theorem dX8_interpreterTold_90 : decode cX8_interpreterTold 90 = .ok (.iload_n 2, 1) := by decide +kernel
theorem dX8_interpreterTold_91 : decode cX8_interpreterTold 91 = .ok (.iaload, 1) := by decide +kernel
theorem dX8_interpreterTold_92 : decode cX8_interpreterTold 92 = .ok (.ireturn, 1) := by decide +kernel
set_option maxRecDepth 20000 in
theorem ggX8_interpreter_X8_isInterpreter : GoodIn wsX8_interpreter wsX8_isInterpreter := goodIn_r _ [6, 7, 8, 9, 5, 10, 27, 28, 29, 30, 31, 32, 33, 34, 35, 36, 37, 38, 39, 40, 41, 42, 43, 44, 45, 46, 47, 48, 49, 50, 51, 52, 53, 54, 55] (by decide +kernel) (by decide +kernel)
set_option maxRecDepth 20000 in
theorem gX8_interpreter_X8_isInterpreter : GoodIn wsX8_interpreter (wsV RX8 76 RX8 yX8_isInterpreter wsX8_isInterpreter) := goodIn_app (goodIn_of _ (by decide +kernel)) ggX8_interpreter_X8_isInterpreter
set_option maxRecDepth 20000 in
theorem ggX8_interpreter_X8_isIn : GoodIn wsX8_interpreter wsX8_isIn := goodIn_r _ [10] (by decide +kernel) (by decide +kernel)
set_option maxRecDepth 20000 in
theorem gX8_interpreter_X8_isIn : GoodIn wsX8_interpreter (va_wsS RX8 26 yX8_isIn wsX8_isIn) := goodIn_app (goodIn_of _ (by decide +kernel)) ggX8_interpreter_X8_isIn
set_option maxRecDepth 20000 in
theorem ggX8_interpreter_X8_interpreterTold : GoodIn wsX8_interpreter wsX8_interpreterTold := goodIn_r _ [14, 15, 7, 16, 17, 18, 19, 20, 21, 22, 27, 28, 29, 30, 31, 32, 33, 34, 35, 36, 37, 38, 39, 40, 41, 42, 43, 44, 45, 46, 47, 48, 49, 50, 51, 52, 53, 54, 55] (by decide +kernel) (by decide +kernel)
set_option maxRecDepth 20000 in
theorem gX8_interpreter_X8_interpreterTold : GoodIn wsX8_interpreter (wsV RX8 120 RX8 yX8_interpreterTold wsX8_interpreterTold) := goodIn_app (goodIn_of _ (by decide +kernel)) ggX8_interpreter_X8_interpreterTold
set_option maxRecDepth 20000 in
theorem ggX8_interpreter_X8_no : GoodIn wsX8_interpreter wsX8_no := goodIn_r _ [26, 1, 27, 28, 29] (by decide +kernel) (by decide +kernel)
set_option maxRecDepth 20000 in
theorem gX8_interpreter_X8_no : GoodIn wsX8_interpreter (wsV RX8 33 RX8 yX8_no wsX8_no) := goodIn_app (goodIn_of _ (by decide +kernel)) ggX8_interpreter_X8_no
theorem dX8_interpreter_0 : decode cX8_interpreter 0 = .ok (.aload_n 0, 1) := by decide +kernel
theorem dX8_interpreter_1 : decode cX8_interpreter 1 = .ok (.iconst 0, 1) := by decide +kernel
theorem dX8_interpreter_2 : decode cX8_interpreter 2 = .ok (.putfield 19, 3) := by decide +kernel
theorem dX8_interpreter_5 : decode cX8_interpreter 5 = .ok (.aload_n 0, 1) := by decide +kernel
theorem dX8_interpreter_6 : decode cX8_interpreter 6 = .ok (.iload_n 1, 1) := by decide +kernel
theorem dX8_interpreter_7 : decode cX8_interpreter 7 = .ok (.invokevirtual 76, 3) := by decide +kernel
theorem dX8_interpreter_10 : decode cX8_interpreter 10 = .ok (.ifCond .eq 22, 3) := by decide +kernel
theorem dX8_interpreter_13 : decode cX8_interpreter 13 = .ok (.iload_n 2, 1) := by decide +kernel
theorem dX8_interpreter_14 : decode cX8_interpreter 14 = .ok (.iconst 0, 1) := by decide +kernel
theorem dX8_interpreter_15 : decode cX8_interpreter 15 = .ok (.bipush 6, 2) := by decide +kernel
theorem dX8_interpreter_17 : decode cX8_interpreter 17 = .ok (.invokestatic 26, 3) := by decide +kernel
theorem dX8_interpreter_20 : decode cX8_interpreter 20 = .ok (.ifCond .eq 12, 3) := by decide +kernel
theorem dX8_interpreter_23 : decode cX8_interpreter 23 = .ok (.aload_n 0, 1) := by decide +kernel
theorem dX8_interpreter_24 : decode cX8_interpreter 24 = .ok (.iload_n 1, 1) := by decide +kernel
theorem dX8_interpreter_25 : decode cX8_interpreter 25 = .ok (.iload_n 2, 1) := by decide +kernel
theorem dX8_interpreter_26 : decode cX8_interpreter 26 = .ok (.invokevirtual 120, 3) := by decide +kernel
theorem dX8_interpreter_29 : decode cX8_interpreter 29 = .ok (.goto 8, 3) := by decide +kernel
theorem dX8_interpreter_32 : decode cX8_interpreter 32 = .ok (.aload_n 0, 1) := by decide +kernel
theorem dX8_interpreter_33 : decode cX8_interpreter 33 = .ok (.iconst 1, 1) := by decide +kernel
theorem dX8_interpreter_34 : decode cX8_interpreter 34 = .ok (.invokevirtual 33, 3) := by decide +kernel
theorem dX8_interpreter_37 : decode cX8_interpreter 37 = .ok (.ireturn, 1) := by decide +kernel
set_option maxRecDepth 20000 in
theorem ggX8_pass_X7_pass : GoodIn wsX8_pass wsX7_pass := goodIn_r _ [5, 6, 7, 8, 9, 10, 11, 12, 13, 14, 15, 16, 17, 18, 19, 20, 21, 22, 23, 24, 25, 26, 4, 27, 28, 29, 30, 31, 32, 33, 34, 35, 36, 37, 38, 39, 40, 41, 42, 43, 44, 45, 46, 47, 48, 49, 50, 51, 52, 53, 54, 55, 56, 57, 58, 59, 60, 61, 62, 63, 64, 65, 66, 67, 68, 69, 70, 71, 72, 73, 74, 75, 76, 77, 78, 79, 80, 81, 82, 83, 84, 85, 86, 87, 88, 89, 90, 91, 92, 93, 94, 95, 96] (by decide +kernel) (by decide +kernel)
set_option maxRecDepth 20000 in
theorem gX8_pass_X7_pass : GoodIn wsX8_pass (wsV RX8 123 RX7 yX7_pass wsX7_pass) := goodIn_app (goodIn_of _ (by decide +kernel)) ggX8_pass_X7_pass
theorem dX8_pass_0 : decode cX8_pass 0 = .ok (.iconst 0, 1) := by decide +kernel
theorem dX8_pass_1 : decode cX8_pass 1 = .ok (.istore_n 2, 1) := by decide +kernel
theorem dX8_pass_2 : decode cX8_pass 2 = .ok (.iconst 0, 1) := by decide +kernel
theorem dX8_pass_3 : decode cX8_pass 3 = .ok (.istore_n 3, 1) := by decide +kernel
theorem dX8_pass_4 : decode cX8_pass 4 = .ok (.iload_n 3, 1) := by decide +kernel
theorem dX8_pass_5 : decode cX8_pass 5 = .ok (.iload_n 1, 1) := by decide +kernel
theorem dX8_pass_6 : decode cX8_pass 6 = .ok (.if_icmp .ge 16, 3) := by decide +kernel
theorem dX8_pass_9 : decode cX8_pass 9 = .ok (.iload_n 2, 1) := by decide +kernel
theorem dX8_pass_10 : decode cX8_pass 10 = .ok (.aload_n 0, 1) := by decide +kernel
theorem dX8_pass_11 : decode cX8_pass 11 = .ok (.invokevirtual 123, 3) := by decide +kernel
theorem dX8_pass_14 : decode cX8_pass 14 = .ok (.iadd, 1) := by decide +kernel
theorem dX8_pass_15 : decode cX8_pass 15 = .ok (.istore_n 2, 1) := by decide +kernel
theorem dX8_pass_16 : decode cX8_pass 16 = .ok (.iinc 3 1, 3) := by decide +kernel
theorem dX8_pass_19 : decode cX8_pass 19 = .ok (.goto (-15), 3) := by decide +kernel
theorem dX8_pass_22 : decode cX8_pass 22 = .ok (.iload_n 2, 1) := by decide +kernel
theorem dX8_pass_23 : decode cX8_pass 23 = .ok (.ireturn, 1) := by decide +kernel
set_option maxRecDepth 20000 in
theorem ggX8_pass__X8_isIn : GoodIn wsX8_pass_ wsX8_isIn := goodIn_r _ [6] (by decide +kernel) (by decide +kernel)
set_option maxRecDepth 20000 in
theorem gX8_pass__X8_isIn : GoodIn wsX8_pass_ (va_wsS RX8 26 yX8_isIn wsX8_isIn) := goodIn_app (goodIn_of _ (by decide +kernel)) ggX8_pass__X8_isIn
set_option maxRecDepth 20000 in
theorem ggX8_pass__X8_no : GoodIn wsX8_pass_ wsX8_no := goodIn_r _ [10, 1, 84, 85, 86] (by decide +kernel) (by decide +kernel)
set_option maxRecDepth 20000 in
theorem gX8_pass__X8_no : GoodIn wsX8_pass_ (wsV RX8 33 RX8 yX8_no wsX8_no) := goodIn_app (goodIn_of _ (by decide +kernel)) ggX8_pass__X8_no
set_option maxRecDepth 20000 in
theorem ggX8_pass__X8_pass : GoodIn wsX8_pass_ wsX8_pass := goodIn_r _ [13, 14, 15, 16, 17, 18, 19, 20, 21, 22, 23, 24, 25, 26, 27, 28, 29, 30, 31, 32, 33, 34, 35, 36, 37, 38, 39, 40, 41, 42, 43, 44, 45, 46, 47, 48, 49, 50, 51, 52, 53, 54, 55, 56, 57, 58, 59, 60, 61, 62, 63, 64, 65, 66, 67, 68, 69, 70, 71, 72, 73, 74, 75, 76, 77, 78, 79, 80, 81, 82, 83, 87, 88, 89, 90, 91, 92, 93, 94, 95, 96, 97, 98, 99, 100, 101, 102, 103, 104, 105, 106, 107, 108, 109, 110, 111, 112] (by decide +kernel) (by decide +kernel)
set_option maxRecDepth 20000 in
theorem gX8_pass__X8_pass : GoodIn wsX8_pass_ (va_wsS RX8 130 yX8_pass wsX8_pass) := goodIn_app (goodIn_of _ (by decide +kernel)) ggX8_pass__X8_pass
theorem dX8_pass__0 : decode cX8_pass_ 0 = .ok (.aload_n 0, 1) := by decide +kernel
theorem dX8_pass__1 : decode cX8_pass_ 1 = .ok (.iconst 0, 1) := by decide +kernel
theorem dX8_pass__2 : decode cX8_pass_ 2 = .ok (.putfield 19, 3) := by decide +kernel
theorem dX8_pass__5 : decode cX8_pass_ 5 = .ok (.iload_n 1, 1) := by decide +kernel
theorem dX8_pass__6 : decode cX8_pass_ 6 = .ok (.iconst 1, 1) := by decide +kernel
theorem dX8_pass__7 : decode cX8_pass_ 7 = .ok (.bipush 100, 2) := by decide +kernel
theorem dX8_pass__9 : decode cX8_pass_ 9 = .ok (.invokestatic 26, 3) := by decide +kernel
theorem dX8_pass__12 : decode cX8_pass_ 12 = .ok (.ifCond .ne 9, 3) := by decide +kernel
theorem dX8_pass__15 : decode cX8_pass_ 15 = .ok (.aload_n 0, 1) := by decide +kernel
theorem dX8_pass__16 : decode cX8_pass_ 16 = .ok (.iconst 1, 1) := by decide +kernel
theorem dX8_pass__17 : decode cX8_pass_ 17 = .ok (.invokevirtual 33, 3) := by decide +kernel
theorem dX8_pass__20 : decode cX8_pass_ 20 = .ok (.ireturn, 1) := by decide +kernel
theorem dX8_pass__21 : decode cX8_pass_ 21 = .ok (.aload_n 0, 1) := by decide +kernel
theorem dX8_pass__22 : decode cX8_pass_ 22 = .ok (.getfield 10, 3) := by decide +kernel
theorem dX8_pass__25 : decode cX8_pass_ 25 = .ok (.getfield 127, 3) := by decide +kernel
theorem dX8_pass__28 : decode cX8_pass_ 28 = .ok (.iload_n 1, 1) := by decide +kernel
theorem dX8_pass__29 : decode cX8_pass_ 29 = .ok (.iadd, 1) := by decide +kernel
theorem dX8_pass__30 : decode cX8_pass_ 30 = .ok (.sipush 400, 3) := by decide +kernel
theorem dX8_pass__33 : decode cX8_pass_ 33 = .ok (.if_icmp .le 11, 3) := by decide +kernel
theorem dX8_pass__36 : decode cX8_pass_ 36 = .ok (.aload_n 0, 1) := by decide +kernel
theorem dX8_pass__37 : decode cX8_pass_ 37 = .ok (.iconst 2, 1) := by decide +kernel
theorem dX8_pass__38 : decode cX8_pass_ 38 = .ok (.invokevirtual 33, 3) := by decide +kernel
theorem dX8_pass__41 : decode cX8_pass_ 41 = .ok (.goto 11, 3) := by decide +kernel
theorem dX8_pass__44 : decode cX8_pass_ 44 = .ok (.aload_n 0, 1) := by decide +kernel
theorem dX8_pass__45 : decode cX8_pass_ 45 = .ok (.getfield 10, 3) := by decide +kernel
theorem dX8_pass__48 : decode cX8_pass_ 48 = .ok (.iload_n 1, 1) := by decide +kernel
theorem dX8_pass__49 : decode cX8_pass_ 49 = .ok (.invokestatic 130, 3) := by decide +kernel
theorem dX8_pass__52 : decode cX8_pass_ 52 = .ok (.ireturn, 1) := by decide +kernel
set_option maxRecDepth 20000 in
theorem ggX8_said_X8_isBooth : GoodIn wsX8_said wsX8_isBooth := goodIn_r _ [7, 2, 8, 9, 6, 10, 15, 16, 17, 18, 19, 20, 21, 22, 23, 24, 25, 26, 27, 28, 29, 30, 31, 32, 33, 34, 35, 36, 37, 38, 39, 40, 41, 42, 43] (by decide +kernel) (by decide +kernel)
set_option maxRecDepth 20000 in
theorem gX8_said_X8_isBooth : GoodIn wsX8_said (wsV RX8 72 RX8 yX8_isBooth wsX8_isBooth) := goodIn_app (goodIn_of _ (by decide +kernel)) ggX8_said_X8_isBooth
set_option maxRecDepth 20000 in
theorem ggX8_said_X8_no : GoodIn wsX8_said wsX8_no := goodIn_r _ [14, 1, 15, 16, 17] (by decide +kernel) (by decide +kernel)
set_option maxRecDepth 20000 in
theorem gX8_said_X8_no : GoodIn wsX8_said (wsV RX8 33 RX8 yX8_no wsX8_no) := goodIn_app (goodIn_of _ (by decide +kernel)) ggX8_said_X8_no
set_option maxRecDepth 20000 in
theorem ggX8_said_X8_isIn : GoodIn wsX8_said wsX8_isIn := goodIn_r _ [10] (by decide +kernel) (by decide +kernel)
set_option maxRecDepth 20000 in
theorem gX8_said_X8_isIn : GoodIn wsX8_said (va_wsS RX8 26 yX8_isIn wsX8_isIn) := goodIn_app (goodIn_of _ (by decide +kernel)) ggX8_said_X8_isIn
theorem dX8_said_0 : decode cX8_said 0 = .ok (.aload_n 0, 1) := by decide +kernel
theorem dX8_said_1 : decode cX8_said 1 = .ok (.iconst 0, 1) := by decide +kernel
theorem dX8_said_2 : decode cX8_said 2 = .ok (.putfield 19, 3) := by decide +kernel
theorem dX8_said_5 : decode cX8_said 5 = .ok (.iload_n 1, 1) := by decide +kernel
theorem dX8_said_6 : decode cX8_said 6 = .ok (.iconst (-1), 1) := by decide +kernel
theorem dX8_said_7 : decode cX8_said 7 = .ok (.if_icmp .eq 17, 3) := by decide +kernel
theorem dX8_said_10 : decode cX8_said 10 = .ok (.aload_n 0, 1) := by decide +kernel
theorem dX8_said_11 : decode cX8_said 11 = .ok (.iload_n 1, 1) := by decide +kernel
theorem dX8_said_12 : decode cX8_said 12 = .ok (.invokevirtual 72, 3) := by decide +kernel
theorem dX8_said_15 : decode cX8_said 15 = .ok (.ifCond .ne 9, 3) := by decide +kernel
theorem dX8_said_18 : decode cX8_said 18 = .ok (.aload_n 0, 1) := by decide +kernel
theorem dX8_said_19 : decode cX8_said 19 = .ok (.iconst 1, 1) := by decide +kernel
theorem dX8_said_20 : decode cX8_said 20 = .ok (.invokevirtual 33, 3) := by decide +kernel
theorem dX8_said_23 : decode cX8_said 23 = .ok (.ireturn, 1) := by decide +kernel
theorem dX8_said_24 : decode cX8_said 24 = .ok (.iload_n 2, 1) := by decide +kernel
theorem dX8_said_25 : decode cX8_said 25 = .ok (.iconst 0, 1) := by decide +kernel
theorem dX8_said_26 : decode cX8_said 26 = .ok (.aload_n 0, 1) := by decide +kernel
theorem dX8_said_27 : decode cX8_said 27 = .ok (.getfield 10, 3) := by decide +kernel
theorem dX8_said_30 : decode cX8_said 30 = .ok (.getfield 92, 3) := by decide +kernel
theorem dX8_said_33 : decode cX8_said 33 = .ok (.iload_n 1, 1) := by decide +kernel
theorem dX8_said_34 : decode cX8_said 34 = .ok (.iconst 1, 1) := by decide +kernel
theorem dX8_said_35 : decode cX8_said 35 = .ok (.iadd, 1) := by decide +kernel
theorem dX8_said_36 : decode cX8_said 36 = .ok (.iaload, 1) := by decide +kernel
theorem dX8_said_37 : decode cX8_said 37 = .ok (.iconst 1, 1) := by decide +kernel
theorem dX8_said_38 : decode cX8_said 38 = .ok (.isub, 1) := by decide +kernel
theorem dX8_said_39 : decode cX8_said 39 = .ok (.invokestatic 26, 3) := by decide +kernel
theorem dX8_said_42 : decode cX8_said 42 = .ok (.ifCond .ne 9, 3) := by decide +kernel
theorem dX8_said_45 : decode cX8_said 45 = .ok (.aload_n 0, 1) := by decide +kernel
theorem dX8_said_46 : decode cX8_said 46 = .ok (.iconst 1, 1) := by decide +kernel
theorem dX8_said_47 : decode cX8_said 47 = .ok (.invokevirtual 33, 3) := by decide +kernel
theorem dX8_said_50 : decode cX8_said 50 = .ok (.ireturn, 1) := by decide +kernel
theorem dX8_said_51 : decode cX8_said 51 = .ok (.iload_n 3, 1) := by decide +kernel
theorem dX8_said_52 : decode cX8_said 52 = .ok (.ifCond .eq 23, 3) := by decide +kernel
theorem dX8_said_55 : decode cX8_said 55 = .ok (.aload_n 0, 1) := by decide +kernel
theorem dX8_said_56 : decode cX8_said 56 = .ok (.getfield 10, 3) := by decide +kernel
theorem dX8_said_59 : decode cX8_said 59 = .ok (.getfield 133, 3) := by decide +kernel
theorem dX8_said_62 : decode cX8_said 62 = .ok (.sipush 400, 3) := by decide +kernel
theorem dX8_said_65 : decode cX8_said 65 = .ok (.iload_n 1, 1) := by decide +kernel
theorem dX8_said_66 : decode cX8_said 66 = .ok (.iconst 1, 1) := by decide +kernel
theorem dX8_said_67 : decode cX8_said 67 = .ok (.iadd, 1) := by decide +kernel
theorem dX8_said_68 : decode cX8_said 68 = .ok (.imul, 1) := by decide +kernel
theorem dX8_said_69 : decode cX8_said 69 = .ok (.iload_n 2, 1) := by decide +kernel
theorem dX8_said_70 : decode cX8_said 70 = .ok (.iadd, 1) := by decide +kernel
theorem dX8_said_71 : decode cX8_said 71 = .ok (.iaload, 1) := by decide +kernel
theorem dX8_said_72 : decode cX8_said 72 = .ok (.goto 20, 3) := by decide +kernel
theorem dX8_said_75 : decode cX8_said 75 = .ok (.aload_n 0, 1) := by decide +kernel
theorem dX8_said_76 : decode cX8_said 76 = .ok (.getfield 10, 3) := by decide +kernel
theorem dX8_said_79 : decode cX8_said 79 = .ok (.getfield 136, 3) := by decide +kernel
theorem dX8_said_82 : decode cX8_said 82 = .ok (.sipush 400, 3) := by decide +kernel
theorem dX8_said_85 : decode cX8_said 85 = .ok (.iload_n 1, 1) := by decide +kernel
theorem dX8_said_86 : decode cX8_said 86 = .ok (.iconst 1, 1) := by decide +kernel
theorem dX8_said_87 : decode cX8_said 87 = .ok (.iadd, 1) := by decide +kernel
theorem dX8_said_88 : decode cX8_said 88 = .ok (.imul, 1) := by decide +kernel
theorem dX8_said_89 : decode cX8_said 89 = .ok (.iload_n 2, 1) := by decide +kernel
theorem dX8_said_90 : decode cX8_said 90 = .ok (.iadd, 1) := by decide +kernel
theorem dX8_said_91 : decode cX8_said 91 = .ok (.iaload, 1) := by decide +kernel
theorem dX8_said_92 : decode cX8_said 92 = .ok (.ireturn, 1) := by decide +kernel
set_option maxRecDepth 20000 in
theorem ggX8_counted_X7_isAble : GoodIn wsX8_counted wsX7_isAble := goodIn_r _ [7, 8, 9, 10, 11, 12, 22, 23, 24, 25, 26, 27, 28, 29, 30, 31, 32, 33, 34, 35, 36, 37, 38, 39, 40, 41, 42, 43, 44, 45, 46, 47] (by decide +kernel) (by decide +kernel)
set_option maxRecDepth 20000 in
theorem gX8_counted_X7_isAble : GoodIn wsX8_counted (wsV RX8 83 RX7 yX7_isAble wsX7_isAble) := goodIn_app (goodIn_of _ (by decide +kernel)) ggX8_counted_X7_isAble
set_option maxRecDepth 20000 in
theorem ggX8_counted_X7_all : GoodIn wsX8_counted wsX7_all := goodIn_r _ [16, 17, 18, 22, 23, 24, 25, 26, 27, 28, 29, 30, 31, 32, 33, 34, 35, 36, 37, 38, 39, 40, 41, 42, 43, 44, 45, 46, 47] (by decide +kernel) (by decide +kernel)
set_option maxRecDepth 20000 in
theorem gX8_counted_X7_all : GoodIn wsX8_counted (wsV RX8 139 RX7 yX7_all wsX7_all) := goodIn_app (goodIn_of _ (by decide +kernel)) ggX8_counted_X7_all
theorem dX8_counted_0 : decode cX8_counted 0 = .ok (.iconst 0, 1) := by decide +kernel
theorem dX8_counted_1 : decode cX8_counted 1 = .ok (.istore_n 2, 1) := by decide +kernel
theorem dX8_counted_2 : decode cX8_counted 2 = .ok (.iconst 0, 1) := by decide +kernel
theorem dX8_counted_3 : decode cX8_counted 3 = .ok (.istore_n 3, 1) := by decide +kernel
theorem dX8_counted_4 : decode cX8_counted 4 = .ok (.iconst 0, 1) := by decide +kernel
theorem dX8_counted_5 : decode cX8_counted 5 = .ok (.istore 4, 2) := by decide +kernel
theorem dX8_counted_7 : decode cX8_counted 7 = .ok (.iconst 0, 1) := by decide +kernel
theorem dX8_counted_8 : decode cX8_counted 8 = .ok (.istore 5, 2) := by decide +kernel
theorem dX8_counted_10 : decode cX8_counted 10 = .ok (.iload 5, 2) := by decide +kernel
theorem dX8_counted_12 : decode cX8_counted 12 = .ok (.aload_n 0, 1) := by decide +kernel
theorem dX8_counted_13 : decode cX8_counted 13 = .ok (.getfield 10, 3) := by decide +kernel
theorem dX8_counted_16 : decode cX8_counted 16 = .ok (.getfield 23, 3) := by decide +kernel
theorem dX8_counted_19 : decode cX8_counted 19 = .ok (.if_icmp .ge 57, 3) := by decide +kernel
theorem dX8_counted_22 : decode cX8_counted 22 = .ok (.iload_n 2, 1) := by decide +kernel
theorem dX8_counted_23 : decode cX8_counted 23 = .ok (.aload_n 0, 1) := by decide +kernel
theorem dX8_counted_24 : decode cX8_counted 24 = .ok (.getfield 10, 3) := by decide +kernel
theorem dX8_counted_27 : decode cX8_counted 27 = .ok (.getfield 95, 3) := by decide +kernel
theorem dX8_counted_30 : decode cX8_counted 30 = .ok (.iload 5, 2) := by decide +kernel
theorem dX8_counted_32 : decode cX8_counted 32 = .ok (.iaload, 1) := by decide +kernel
theorem dX8_counted_33 : decode cX8_counted 33 = .ok (.iadd, 1) := by decide +kernel
theorem dX8_counted_34 : decode cX8_counted 34 = .ok (.istore_n 2, 1) := by decide +kernel
theorem dX8_counted_35 : decode cX8_counted 35 = .ok (.iload_n 3, 1) := by decide +kernel
theorem dX8_counted_36 : decode cX8_counted 36 = .ok (.aload_n 0, 1) := by decide +kernel
theorem dX8_counted_37 : decode cX8_counted 37 = .ok (.getfield 10, 3) := by decide +kernel
theorem dX8_counted_40 : decode cX8_counted 40 = .ok (.getfield 89, 3) := by decide +kernel
theorem dX8_counted_43 : decode cX8_counted 43 = .ok (.iload 5, 2) := by decide +kernel
theorem dX8_counted_45 : decode cX8_counted 45 = .ok (.iaload, 1) := by decide +kernel
theorem dX8_counted_46 : decode cX8_counted 46 = .ok (.iadd, 1) := by decide +kernel
theorem dX8_counted_47 : decode cX8_counted 47 = .ok (.istore_n 3, 1) := by decide +kernel
theorem dX8_counted_48 : decode cX8_counted 48 = .ok (.iload 4, 2) := by decide +kernel
theorem dX8_counted_50 : decode cX8_counted 50 = .ok (.aload_n 0, 1) := by decide +kernel
theorem dX8_counted_51 : decode cX8_counted 51 = .ok (.getfield 10, 3) := by decide +kernel
theorem dX8_counted_54 : decode cX8_counted 54 = .ok (.iload 5, 2) := by decide +kernel
theorem dX8_counted_56 : decode cX8_counted 56 = .ok (.invokevirtual 83, 3) := by decide +kernel
theorem dX8_counted_59 : decode cX8_counted 59 = .ok (.ifCond .eq 7, 3) := by decide +kernel
theorem dX8_counted_62 : decode cX8_counted 62 = .ok (.iconst 1, 1) := by decide +kernel
theorem dX8_counted_63 : decode cX8_counted 63 = .ok (.goto 4, 3) := by decide +kernel
theorem dX8_counted_66 : decode cX8_counted 66 = .ok (.iconst 0, 1) := by decide +kernel
theorem dX8_counted_67 : decode cX8_counted 67 = .ok (.iadd, 1) := by decide +kernel
theorem dX8_counted_68 : decode cX8_counted 68 = .ok (.istore 4, 2) := by decide +kernel
theorem dX8_counted_70 : decode cX8_counted 70 = .ok (.iinc 5 1, 3) := by decide +kernel
theorem dX8_counted_73 : decode cX8_counted 73 = .ok (.goto (-63), 3) := by decide +kernel
theorem dX8_counted_76 : decode cX8_counted 76 = .ok (.bipush 10, 2) := by decide +kernel
theorem dX8_counted_78 : decode cX8_counted 78 = .ok (.newarray .int, 2) := by decide +kernel
theorem dX8_counted_80 : decode cX8_counted 80 = .ok (.dup, 1) := by decide +kernel
theorem dX8_counted_81 : decode cX8_counted 81 = .ok (.iconst 0, 1) := by decide +kernel
theorem dX8_counted_82 : decode cX8_counted 82 = .ok (.aload_n 0, 1) := by decide +kernel
theorem dX8_counted_83 : decode cX8_counted 83 = .ok (.getfield 10, 3) := by decide +kernel
theorem dX8_counted_86 : decode cX8_counted 86 = .ok (.getfield 127, 3) := by decide +kernel
theorem dX8_counted_89 : decode cX8_counted 89 = .ok (.iastore, 1) := by decide +kernel
theorem dX8_counted_90 : decode cX8_counted 90 = .ok (.dup, 1) := by decide +kernel
theorem dX8_counted_91 : decode cX8_counted 91 = .ok (.iconst 1, 1) := by decide +kernel
theorem dX8_counted_92 : decode cX8_counted 92 = .ok (.aload_n 0, 1) := by decide +kernel
theorem dX8_counted_93 : decode cX8_counted 93 = .ok (.getfield 10, 3) := by decide +kernel
theorem dX8_counted_96 : decode cX8_counted 96 = .ok (.getfield 37, 3) := by decide +kernel
theorem dX8_counted_99 : decode cX8_counted 99 = .ok (.iastore, 1) := by decide +kernel
theorem dX8_counted_100 : decode cX8_counted 100 = .ok (.dup, 1) := by decide +kernel
theorem dX8_counted_101 : decode cX8_counted 101 = .ok (.iconst 2, 1) := by decide +kernel
theorem dX8_counted_102 : decode cX8_counted 102 = .ok (.aload_n 0, 1) := by decide +kernel
theorem dX8_counted_103 : decode cX8_counted 103 = .ok (.getfield 10, 3) := by decide +kernel
theorem dX8_counted_106 : decode cX8_counted 106 = .ok (.getfield 40, 3) := by decide +kernel
theorem dX8_counted_109 : decode cX8_counted 109 = .ok (.iastore, 1) := by decide +kernel
theorem dX8_counted_110 : decode cX8_counted 110 = .ok (.dup, 1) := by decide +kernel
theorem dX8_counted_111 : decode cX8_counted 111 = .ok (.iconst 3, 1) := by decide +kernel
theorem dX8_counted_112 : decode cX8_counted 112 = .ok (.aload_n 0, 1) := by decide +kernel
theorem dX8_counted_113 : decode cX8_counted 113 = .ok (.getfield 10, 3) := by decide +kernel
theorem dX8_counted_116 : decode cX8_counted 116 = .ok (.getfield 92, 3) := by decide +kernel
theorem dX8_counted_119 : decode cX8_counted 119 = .ok (.iconst 0, 1) := by decide +kernel
theorem dX8_counted_120 : decode cX8_counted 120 = .ok (.iaload, 1) := by decide +kernel
theorem dX8_counted_121 : decode cX8_counted 121 = .ok (.iastore, 1) := by decide +kernel
theorem dX8_counted_122 : decode cX8_counted 122 = .ok (.dup, 1) := by decide +kernel
theorem dX8_counted_123 : decode cX8_counted 123 = .ok (.iconst 4, 1) := by decide +kernel
theorem dX8_counted_124 : decode cX8_counted 124 = .ok (.aload_n 0, 1) := by decide +kernel
theorem dX8_counted_125 : decode cX8_counted 125 = .ok (.getfield 10, 3) := by decide +kernel
theorem dX8_counted_128 : decode cX8_counted 128 = .ok (.getfield 23, 3) := by decide +kernel
theorem dX8_counted_131 : decode cX8_counted 131 = .ok (.iastore, 1) := by decide +kernel
theorem dX8_counted_132 : decode cX8_counted 132 = .ok (.dup, 1) := by decide +kernel
theorem dX8_counted_133 : decode cX8_counted 133 = .ok (.iconst 5, 1) := by decide +kernel
theorem dX8_counted_134 : decode cX8_counted 134 = .ok (.aload_n 0, 1) := by decide +kernel
theorem dX8_counted_135 : decode cX8_counted 135 = .ok (.getfield 10, 3) := by decide +kernel
theorem dX8_counted_138 : decode cX8_counted 138 = .ok (.getfield 30, 3) := by decide +kernel
theorem dX8_counted_141 : decode cX8_counted 141 = .ok (.iastore, 1) := by decide +kernel
theorem dX8_counted_142 : decode cX8_counted 142 = .ok (.dup, 1) := by decide +kernel
theorem dX8_counted_143 : decode cX8_counted 143 = .ok (.bipush 6, 2) := by decide +kernel
theorem dX8_counted_145 : decode cX8_counted 145 = .ok (.aload_n 0, 1) := by decide +kernel
theorem dX8_counted_146 : decode cX8_counted 146 = .ok (.getfield 10, 3) := by decide +kernel
theorem dX8_counted_149 : decode cX8_counted 149 = .ok (.invokevirtual 139, 3) := by decide +kernel
theorem dX8_counted_152 : decode cX8_counted 152 = .ok (.iastore, 1) := by decide +kernel
theorem dX8_counted_153 : decode cX8_counted 153 = .ok (.dup, 1) := by decide +kernel
theorem dX8_counted_154 : decode cX8_counted 154 = .ok (.bipush 7, 2) := by decide +kernel
theorem dX8_counted_156 : decode cX8_counted 156 = .ok (.iload_n 2, 1) := by decide +kernel
theorem dX8_counted_157 : decode cX8_counted 157 = .ok (.iastore, 1) := by decide +kernel
theorem dX8_counted_158 : decode cX8_counted 158 = .ok (.dup, 1) := by decide +kernel
theorem dX8_counted_159 : decode cX8_counted 159 = .ok (.bipush 8, 2) := by decide +kernel
theorem dX8_counted_161 : decode cX8_counted 161 = .ok (.iload_n 3, 1) := by decide +kernel
theorem dX8_counted_162 : decode cX8_counted 162 = .ok (.iastore, 1) := by decide +kernel
theorem dX8_counted_163 : decode cX8_counted 163 = .ok (.dup, 1) := by decide +kernel
theorem dX8_counted_164 : decode cX8_counted 164 = .ok (.bipush 9, 2) := by decide +kernel
theorem dX8_counted_166 : decode cX8_counted 166 = .ok (.iload 4, 2) := by decide +kernel
theorem dX8_counted_168 : decode cX8_counted 168 = .ok (.iastore, 1) := by decide +kernel
theorem dX8_counted_169 : decode cX8_counted 169 = .ok (.astore 5, 2) := by decide +kernel
theorem dX8_counted_171 : decode cX8_counted 171 = .ok (.aload 5, 2) := by decide +kernel
theorem dX8_counted_173 : decode cX8_counted 173 = .ok (.iload_n 1, 1) := by decide +kernel
theorem dX8_counted_174 : decode cX8_counted 174 = .ok (.iaload, 1) := by decide +kernel
theorem dX8_counted_175 : decode cX8_counted 175 = .ok (.ireturn, 1) := by decide +kernel
set_option maxRecDepth 20000 in
theorem ggX8_count_X8_isIn : GoodIn wsX8_count wsX8_isIn := goodIn_r _ [5] (by decide +kernel) (by decide +kernel)
set_option maxRecDepth 20000 in
theorem gX8_count_X8_isIn : GoodIn wsX8_count (va_wsS RX8 26 yX8_isIn wsX8_isIn) := goodIn_app (goodIn_of _ (by decide +kernel)) ggX8_count_X8_isIn
set_option maxRecDepth 20000 in
theorem ggX8_count_X8_counted : GoodIn wsX8_count wsX8_counted := goodIn_r _ [9, 10, 11, 12, 13, 14, 15, 16, 17, 18, 19, 20, 21, 22, 23, 24, 25, 26, 27, 32, 33, 34, 35, 36, 37, 38, 39, 40, 41, 42, 43, 44, 45, 46, 47, 48, 49, 50, 51, 52, 53, 54, 55, 56, 57, 58, 59, 60] (by decide +kernel) (by decide +kernel)
set_option maxRecDepth 20000 in
theorem gX8_count_X8_counted : GoodIn wsX8_count (wsV RX8 142 RX8 yX8_counted wsX8_counted) := goodIn_app (goodIn_of _ (by decide +kernel)) ggX8_count_X8_counted
set_option maxRecDepth 20000 in
theorem ggX8_count_X8_no : GoodIn wsX8_count wsX8_no := goodIn_r _ [31, 1, 32, 33, 34] (by decide +kernel) (by decide +kernel)
set_option maxRecDepth 20000 in
theorem gX8_count_X8_no : GoodIn wsX8_count (wsV RX8 33 RX8 yX8_no wsX8_no) := goodIn_app (goodIn_of _ (by decide +kernel)) ggX8_count_X8_no
theorem dX8_count_0 : decode cX8_count 0 = .ok (.aload_n 0, 1) := by decide +kernel
theorem dX8_count_1 : decode cX8_count 1 = .ok (.iconst 0, 1) := by decide +kernel
theorem dX8_count_2 : decode cX8_count 2 = .ok (.putfield 19, 3) := by decide +kernel
theorem dX8_count_5 : decode cX8_count 5 = .ok (.iload_n 1, 1) := by decide +kernel
theorem dX8_count_6 : decode cX8_count 6 = .ok (.iconst 0, 1) := by decide +kernel
theorem dX8_count_7 : decode cX8_count 7 = .ok (.bipush 9, 2) := by decide +kernel
theorem dX8_count_9 : decode cX8_count 9 = .ok (.invokestatic 26, 3) := by decide +kernel
theorem dX8_count_12 : decode cX8_count 12 = .ok (.ifCond .eq 11, 3) := by decide +kernel
theorem dX8_count_15 : decode cX8_count 15 = .ok (.aload_n 0, 1) := by decide +kernel
theorem dX8_count_16 : decode cX8_count 16 = .ok (.iload_n 1, 1) := by decide +kernel
theorem dX8_count_17 : decode cX8_count 17 = .ok (.invokevirtual 142, 3) := by decide +kernel
theorem dX8_count_20 : decode cX8_count 20 = .ok (.goto 8, 3) := by decide +kernel
theorem dX8_count_23 : decode cX8_count 23 = .ok (.aload_n 0, 1) := by decide +kernel
theorem dX8_count_24 : decode cX8_count 24 = .ok (.iconst 1, 1) := by decide +kernel
theorem dX8_count_25 : decode cX8_count 25 = .ok (.invokevirtual 33, 3) := by decide +kernel
theorem dX8_count_28 : decode cX8_count 28 = .ok (.ireturn, 1) := by decide +kernel
set_option maxRecDepth 20000 in
theorem ggX8_foresee_X8_isBooth : GoodIn wsX8_foresee wsX8_isBooth := goodIn_r _ [8, 2, 9, 10, 7, 11, 101, 102, 103, 104, 105, 106, 107, 108, 109, 110, 111, 112, 113, 114, 115, 116, 117, 118, 119, 120, 121, 122, 123, 124, 125, 126, 127, 128, 129] (by decide +kernel) (by decide +kernel)
set_option maxRecDepth 20000 in
theorem gX8_foresee_X8_isBooth : GoodIn wsX8_foresee (wsV RX8 72 RX8 yX8_isBooth wsX8_isBooth) := goodIn_app (goodIn_of _ (by decide +kernel)) ggX8_foresee_X8_isBooth
set_option maxRecDepth 20000 in
theorem ggX8_foresee_X8_isIn : GoodIn wsX8_foresee wsX8_isIn := goodIn_r _ [11] (by decide +kernel) (by decide +kernel)
set_option maxRecDepth 20000 in
theorem gX8_foresee_X8_isIn : GoodIn wsX8_foresee (va_wsS RX8 26 yX8_isIn wsX8_isIn) := goodIn_app (goodIn_of _ (by decide +kernel)) ggX8_foresee_X8_isIn
set_option maxRecDepth 20000 in
theorem ggX8_foresee_X8_no : GoodIn wsX8_foresee wsX8_no := goodIn_r _ [15, 1, 101, 102, 103] (by decide +kernel) (by decide +kernel)
set_option maxRecDepth 20000 in
theorem gX8_foresee_X8_no : GoodIn wsX8_foresee (wsV RX8 33 RX8 yX8_no wsX8_no) := goodIn_app (goodIn_of _ (by decide +kernel)) ggX8_foresee_X8_no
set_option maxRecDepth 20000 in
theorem ggX8_foresee_X7_become : GoodIn wsX8_foresee wsX7_become := goodIn_r _ [20, 21, 22, 23, 24, 25, 26, 27, 28, 29, 30, 31, 32, 33, 34, 35, 36, 37, 38, 39, 40, 41, 42, 43, 44, 45, 46, 47, 19, 48, 49, 50, 51, 52, 104, 105, 106, 107, 108, 109, 110, 111, 112, 113, 114, 115, 116, 117, 118, 119, 120, 121, 122, 123, 124, 125, 126, 127, 128, 129] (by decide +kernel) (by decide +kernel)
set_option maxRecDepth 20000 in
theorem gX8_foresee_X7_become : GoodIn wsX8_foresee (wsV RX8 145 RX7 yX7_become wsX7_become) := goodIn_app (goodIn_of _ (by decide +kernel)) ggX8_foresee_X7_become
set_option maxRecDepth 20000 in
theorem ggX8_foresee_X8_pass : GoodIn wsX8_foresee wsX8_pass := goodIn_r _ [55, 56, 57, 58, 19, 59, 23, 26, 49, 50, 51, 52, 25, 37, 29, 60, 61, 62, 63, 36, 44, 43, 24, 21, 64, 65, 66, 67, 68, 69, 70, 71, 45, 72, 73, 74, 75, 39, 40, 42, 34, 41, 28, 32, 76, 77, 78, 79, 38, 30, 31, 80, 81, 82, 83, 22, 33, 27, 84, 85, 86, 87, 88, 89, 90, 91, 35, 92, 93, 94, 95, 104, 105, 106, 107, 108, 109, 110, 111, 112, 113, 114, 115, 116, 117, 118, 119, 120, 121, 122, 123, 124, 125, 126, 127, 128, 129] (by decide +kernel) (by decide +kernel)
set_option maxRecDepth 20000 in
theorem gX8_foresee_X8_pass : GoodIn wsX8_foresee (va_wsS RX8 130 yX8_pass wsX8_pass) := goodIn_app (goodIn_of _ (by decide +kernel)) ggX8_foresee_X8_pass
set_option maxRecDepth 20000 in
theorem ggX8_foresee_X7_through : GoodIn wsX8_foresee wsX7_through := goodIn_r _ [99, 43, 100, 44, 60, 61, 62, 63, 104, 105, 106, 107, 108, 109, 110, 111, 112, 113, 114, 115, 116, 117, 118, 119, 120, 121, 122, 123, 124, 125, 126, 127, 128, 129] (by decide +kernel) (by decide +kernel)
set_option maxRecDepth 20000 in
theorem gX8_foresee_X7_through : GoodIn wsX8_foresee (wsV RX8 86 RX7 yX7_through wsX7_through) := goodIn_app (goodIn_of _ (by decide +kernel)) ggX8_foresee_X7_through
theorem dX8_foresee_0 : decode cX8_foresee 0 = .ok (.aload_n 0, 1) := by decide +kernel
theorem dX8_foresee_1 : decode cX8_foresee 1 = .ok (.iconst 0, 1) := by decide +kernel
theorem dX8_foresee_2 : decode cX8_foresee 2 = .ok (.putfield 19, 3) := by decide +kernel
theorem dX8_foresee_5 : decode cX8_foresee 5 = .ok (.aload_n 0, 1) := by decide +kernel
theorem dX8_foresee_6 : decode cX8_foresee 6 = .ok (.iload_n 1, 1) := by decide +kernel
theorem dX8_foresee_7 : decode cX8_foresee 7 = .ok (.invokevirtual 72, 3) := by decide +kernel
theorem dX8_foresee_10 : decode cX8_foresee 10 = .ok (.ifCond .eq 12, 3) := by decide +kernel
theorem dX8_foresee_13 : decode cX8_foresee 13 = .ok (.iload_n 3, 1) := by decide +kernel
theorem dX8_foresee_14 : decode cX8_foresee 14 = .ok (.iconst 0, 1) := by decide +kernel
theorem dX8_foresee_15 : decode cX8_foresee 15 = .ok (.iconst 2, 1) := by decide +kernel
theorem dX8_foresee_16 : decode cX8_foresee 16 = .ok (.invokestatic 26, 3) := by decide +kernel
theorem dX8_foresee_19 : decode cX8_foresee 19 = .ok (.ifCond .ne 9, 3) := by decide +kernel
theorem dX8_foresee_22 : decode cX8_foresee 22 = .ok (.aload_n 0, 1) := by decide +kernel
theorem dX8_foresee_23 : decode cX8_foresee 23 = .ok (.iconst 1, 1) := by decide +kernel
theorem dX8_foresee_24 : decode cX8_foresee 24 = .ok (.invokevirtual 33, 3) := by decide +kernel
theorem dX8_foresee_27 : decode cX8_foresee 27 = .ok (.ireturn, 1) := by decide +kernel
theorem dX8_foresee_28 : decode cX8_foresee 28 = .ok (.iload_n 2, 1) := by decide +kernel
theorem dX8_foresee_29 : decode cX8_foresee 29 = .ok (.iconst 1, 1) := by decide +kernel
theorem dX8_foresee_30 : decode cX8_foresee 30 = .ok (.bipush 100, 2) := by decide +kernel
theorem dX8_foresee_32 : decode cX8_foresee 32 = .ok (.invokestatic 26, 3) := by decide +kernel
theorem dX8_foresee_35 : decode cX8_foresee 35 = .ok (.ifCond .ne 9, 3) := by decide +kernel
theorem dX8_foresee_38 : decode cX8_foresee 38 = .ok (.aload_n 0, 1) := by decide +kernel
theorem dX8_foresee_39 : decode cX8_foresee 39 = .ok (.iconst 2, 1) := by decide +kernel
theorem dX8_foresee_40 : decode cX8_foresee 40 = .ok (.invokevirtual 33, 3) := by decide +kernel
theorem dX8_foresee_43 : decode cX8_foresee 43 = .ok (.ireturn, 1) := by decide +kernel
theorem dX8_foresee_44 : decode cX8_foresee 44 = .ok (.aload_n 0, 1) := by decide +kernel
theorem dX8_foresee_45 : decode cX8_foresee 45 = .ok (.getfield 10, 3) := by decide +kernel
theorem dX8_foresee_48 : decode cX8_foresee 48 = .ok (.getfield 127, 3) := by decide +kernel
theorem dX8_foresee_51 : decode cX8_foresee 51 = .ok (.iload_n 2, 1) := by decide +kernel
theorem dX8_foresee_52 : decode cX8_foresee 52 = .ok (.iadd, 1) := by decide +kernel
theorem dX8_foresee_53 : decode cX8_foresee 53 = .ok (.sipush 400, 3) := by decide +kernel
theorem dX8_foresee_56 : decode cX8_foresee 56 = .ok (.if_icmp .le 9, 3) := by decide +kernel
theorem dX8_foresee_59 : decode cX8_foresee 59 = .ok (.aload_n 0, 1) := by decide +kernel
theorem dX8_foresee_60 : decode cX8_foresee 60 = .ok (.iconst 3, 1) := by decide +kernel
theorem dX8_foresee_61 : decode cX8_foresee 61 = .ok (.invokevirtual 33, 3) := by decide +kernel
theorem dX8_foresee_64 : decode cX8_foresee 64 = .ok (.ireturn, 1) := by decide +kernel
theorem dX8_foresee_65 : decode cX8_foresee 65 = .ok (.aload_n 0, 1) := by decide +kernel
theorem dX8_foresee_66 : decode cX8_foresee 66 = .ok (.getfield 16, 3) := by decide +kernel
