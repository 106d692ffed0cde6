theorem dX0_init_0 : decode cX0_init 0 = .ok (.aload_n 0, 1) := by decide +kernel
theorem dX0_init_1 : decode cX0_init 1 = .ok (.invokespecial 3, 3) := by decide +kernel
theorem dX0_init_4 : decode cX0_init 4 = .ok (.aload_n 0, 1) := by decide +kernel
theorem dX0_init_5 : decode cX0_init 5 = .ok (.bipush 20, 2) := by decide +kernel
theorem dX0_init_7 : decode cX0_init 7 = .ok (.newarray .int, 2) := by decide +kernel
theorem dX0_init_9 : decode cX0_init 9 = .ok (.putfield 9, 3) := by decide +kernel
theorem dX0_init_12 : decode cX0_init 12 = .ok (.aload_n 0, 1) := by decide +kernel
theorem dX0_init_13 : decode cX0_init 13 = .ok (.iconst 0, 1) := by decide +kernel
theorem dX0_init_14 : decode cX0_init 14 = .ok (.putfield 15, 3) := by decide +kernel
theorem dX0_init_17 : decode cX0_init 17 = .ok (.aload_n 0, 1) := by decide +kernel
theorem dX0_init_18 : decode cX0_init 18 = .ok (.iconst 0, 1) := by decide +kernel
theorem dX0_init_19 : decode cX0_init 19 = .ok (.putfield 19, 3) := by decide +kernel
theorem dX0_init_22 : decode cX0_init 22 = .ok (.aload_n 0, 1) := by decide +kernel
theorem dX0_init_23 : decode cX0_init 23 = .ok (.iconst 0, 1) := by decide +kernel
theorem dX0_init_24 : decode cX0_init 24 = .ok (.putfield 22, 3) := by decide +kernel
theorem dX0_init_27 : decode cX0_init 27 = .ok (.aload_n 0, 1) := by decide +kernel
theorem dX0_init_28 : decode cX0_init 28 = .ok (.iconst 0, 1) := by decide +kernel
theorem dX0_init_29 : decode cX0_init 29 = .ok (.putfield 25, 3) := by decide +kernel
theorem dX0_init_32 : decode cX0_init 32 = .ok (.return_, 1) := by decide +kernel
theorem dX0_begin_0 : decode cX0_begin 0 = .ok (.aload_n 0, 1) := by decide +kernel
theorem dX0_begin_1 : decode cX0_begin 1 = .ok (.iconst 0, 1) := by decide +kernel
theorem dX0_begin_2 : decode cX0_begin 2 = .ok (.putfield 15, 3) := by decide +kernel
theorem dX0_begin_5 : decode cX0_begin 5 = .ok (.return_, 1) := by decide +kernel
theorem dX0_perform_0 : decode cX0_perform 0 = .ok (.aload_n 0, 1) := by decide +kernel
theorem dX0_perform_1 : decode cX0_perform 1 = .ok (.iload_n 1, 1) := by decide +kernel
theorem dX0_perform_2 : decode cX0_perform 2 = .ok (.putfield 19, 3) := by decide +kernel
theorem dX0_perform_5 : decode cX0_perform 5 = .ok (.aload_n 0, 1) := by decide +kernel
theorem dX0_perform_6 : decode cX0_perform 6 = .ok (.iload_n 2, 1) := by decide +kernel
theorem dX0_perform_7 : decode cX0_perform 7 = .ok (.putfield 22, 3) := by decide +kernel
theorem dX0_perform_10 : decode cX0_perform 10 = .ok (.aload_n 0, 1) := by decide +kernel
theorem dX0_perform_11 : decode cX0_perform 11 = .ok (.iload_n 3, 1) := by decide +kernel
theorem dX0_perform_12 : decode cX0_perform 12 = .ok (.putfield 25, 3) := by decide +kernel
theorem dX0_perform_15 : decode cX0_perform 15 = .ok (.aload_n 0, 1) := by decide +kernel
theorem dX0_perform_16 : decode cX0_perform 16 = .ok (.aload_n 0, 1) := by decide +kernel
theorem dX0_perform_17 : decode cX0_perform 17 = .ok (.getfield 19, 3) := by decide +kernel
theorem dX0_perform_20 : decode cX0_perform 20 = .ok (.iload 4, 2) := by decide +kernel
theorem dX0_perform_22 : decode cX0_perform 22 = .ok (.iload 5, 2) := by decide +kernel
theorem dX0_perform_24 : decode cX0_perform 24 = .ok (.iconst 0, 1) := by decide +kernel
theorem dX0_perform_25 : decode cX0_perform 25 = .ok (.invokevirtual 28, 3) := by decide +kernel
theorem dX0_perform_28 : decode cX0_perform 28 = .ok (.ireturn, 1) := by decide +kernel
theorem dX0_run_0 : decode cX0_run 0 = .ok (.iload_n 1, 1) := by decide +kernel
theorem dX0_run_1 : decode cX0_run 1 = .ok (.iload_n 2, 1) := by decide +kernel
theorem dX0_run_2 : decode cX0_run 2 = .ok (.invokestatic 32, 3) := by decide +kernel
theorem dX0_run_5 : decode cX0_run 5 = .ok (.istore 5, 2) := by decide +kernel
theorem dX0_run_7 : decode cX0_run 7 = .ok (.iload 5, 2) := by decide +kernel
theorem dX0_run_9 : decode cX0_run 9 = .ok (.invokestatic 36, 3) := by decide +kernel
theorem dX0_run_12 : decode cX0_run 12 = .ok (.ifCond .eq 10, 3) := by decide +kernel
theorem dX0_run_15 : decode cX0_run 15 = .ok (.iload 4, 2) := by decide +kernel
theorem dX0_run_17 : decode cX0_run 17 = .ok (.bipush 20, 2) := by decide +kernel
theorem dX0_run_19 : decode cX0_run 19 = .ok (.if_icmp .le 5, 3) := by decide +kernel
theorem dX0_run_22 : decode cX0_run 22 = .ok (.iconst 0, 1) := by decide +kernel
theorem dX0_run_23 : decode cX0_run 23 = .ok (.ireturn, 1) := by decide +kernel
theorem dX0_run_24 : decode cX0_run 24 = .ok (.getstatic 40, 3) := by decide +kernel
theorem dX0_run_27 : decode cX0_run 27 = .ok (.iconst 3, 1) := by decide +kernel
theorem dX0_run_28 : decode cX0_run 28 = .ok (.iload 5, 2) := by decide +kernel
theorem dX0_run_30 : decode cX0_run 30 = .ok (.imul, 1) := by decide +kernel
theorem dX0_run_31 : decode cX0_run 31 = .ok (.iload_n 2, 1) := by decide +kernel
theorem dX0_run_32 : decode cX0_run 32 = .ok (.iadd, 1) := by decide +kernel
theorem dX0_run_33 : decode cX0_run 33 = .ok (.iaload, 1) := by decide +kernel
theorem dX0_run_34 : decode cX0_run 34 = .ok (.istore 6, 2) := by decide +kernel
theorem dX0_run_36 : decode cX0_run 36 = .ok (.aload_n 0, 1) := by decide +kernel
theorem dX0_run_37 : decode cX0_run 37 = .ok (.iload 6, 2) := by decide +kernel
theorem dX0_run_39 : decode cX0_run 39 = .ok (.invokevirtual 43, 3) := by decide +kernel
theorem dX0_run_42 : decode cX0_run 42 = .ok (.aload_n 0, 1) := by decide +kernel
theorem dX0_run_43 : decode cX0_run 43 = .ok (.iload 6, 2) := by decide +kernel
theorem dX0_run_45 : decode cX0_run 45 = .ok (.getstatic 47, 3) := by decide +kernel
theorem dX0_run_48 : decode cX0_run 48 = .ok (.iload 5, 2) := by decide +kernel
theorem dX0_run_50 : decode cX0_run 50 = .ok (.iaload, 1) := by decide +kernel
theorem dX0_run_51 : decode cX0_run 51 = .ok (.iload_n 3, 1) := by decide +kernel
theorem dX0_run_52 : decode cX0_run 52 = .ok (.iload 4, 2) := by decide +kernel
theorem dX0_run_54 : decode cX0_run 54 = .ok (.iconst 1, 1) := by decide +kernel
theorem dX0_run_55 : decode cX0_run 55 = .ok (.iadd, 1) := by decide +kernel
theorem dX0_run_56 : decode cX0_run 56 = .ok (.invokevirtual 50, 3) := by decide +kernel
theorem dX0_run_59 : decode cX0_run 59 = .ok (.ireturn, 1) := by decide +kernel
theorem dX0_resultOf_0 : decode cX0_resultOf 0 = .ok (.iload_n 1, 1) := by decide +kernel
theorem dX0_resultOf_1 : decode cX0_resultOf 1 = .ok (.lookupswitch 233 #[(10, 91), (11, 98), (12, 113), (20, 144), (30, 159), (31, 171), (40, 186), (50, 198), (60, 209), (70, 221)], 91) := by decide +kernel
theorem dX0_resultOf_92 : decode cX0_resultOf 92 = .ok (.iload_n 3, 1) := by decide +kernel
theorem dX0_resultOf_93 : decode cX0_resultOf 93 = .ok (.aload_n 0, 1) := by decide +kernel
theorem dX0_resultOf_94 : decode cX0_resultOf 94 = .ok (.getfield 22, 3) := by decide +kernel
theorem dX0_resultOf_97 : decode cX0_resultOf 97 = .ok (.iadd, 1) := by decide +kernel
theorem dX0_resultOf_98 : decode cX0_resultOf 98 = .ok (.ireturn, 1) := by decide +kernel
theorem dX0_resultOf_99 : decode cX0_resultOf 99 = .ok (.aload_n 0, 1) := by decide +kernel
theorem dX0_resultOf_100 : decode cX0_resultOf 100 = .ok (.aload_n 0, 1) := by decide +kernel
theorem dX0_resultOf_101 : decode cX0_resultOf 101 = .ok (.getfield 19, 3) := by decide +kernel
theorem dX0_resultOf_104 : decode cX0_resultOf 104 = .ok (.iconst 0, 1) := by decide +kernel
theorem dX0_resultOf_105 : decode cX0_resultOf 105 = .ok (.iload_n 3, 1) := by decide +kernel
theorem dX0_resultOf_106 : decode cX0_resultOf 106 = .ok (.iload 4, 2) := by decide +kernel
theorem dX0_resultOf_108 : decode cX0_resultOf 108 = .ok (.invokevirtual 28, 3) := by decide +kernel
theorem dX0_resultOf_111 : decode cX0_resultOf 111 = .ok (.iconst 2, 1) := by decide +kernel
theorem dX0_resultOf_112 : decode cX0_resultOf 112 = .ok (.imul, 1) := by decide +kernel
theorem dX0_resultOf_113 : decode cX0_resultOf 113 = .ok (.ireturn, 1) := by decide +kernel
theorem dX0_resultOf_114 : decode cX0_resultOf 114 = .ok (.aload_n 0, 1) := by decide +kernel
theorem dX0_resultOf_115 : decode cX0_resultOf 115 = .ok (.aload_n 0, 1) := by decide +kernel
theorem dX0_resultOf_116 : decode cX0_resultOf 116 = .ok (.getfield 19, 3) := by decide +kernel
theorem dX0_resultOf_119 : decode cX0_resultOf 119 = .ok (.iconst 1, 1) := by decide +kernel
theorem dX0_resultOf_120 : decode cX0_resultOf 120 = .ok (.iload_n 3, 1) := by decide +kernel
theorem dX0_resultOf_121 : decode cX0_resultOf 121 = .ok (.iload 4, 2) := by decide +kernel
theorem dX0_resultOf_123 : decode cX0_resultOf 123 = .ok (.invokevirtual 28, 3) := by decide +kernel
theorem dX0_resultOf_126 : decode cX0_resultOf 126 = .ok (.aload_n 0, 1) := by decide +kernel
theorem dX0_resultOf_127 : decode cX0_resultOf 127 = .ok (.aload_n 0, 1) := by decide +kernel
theorem dX0_resultOf_128 : decode cX0_resultOf 128 = .ok (.getfield 19, 3) := by decide +kernel
theorem dX0_resultOf_131 : decode cX0_resultOf 131 = .ok (.iconst 0, 1) := by decide +kernel
theorem dX0_resultOf_132 : decode cX0_resultOf 132 = .ok (.iload_n 3, 1) := by decide +kernel
theorem dX0_resultOf_133 : decode cX0_resultOf 133 = .ok (.aload_n 0, 1) := by decide +kernel
theorem dX0_resultOf_134 : decode cX0_resultOf 134 = .ok (.getfield 25, 3) := by decide +kernel
theorem dX0_resultOf_137 : decode cX0_resultOf 137 = .ok (.isub, 1) := by decide +kernel
theorem dX0_resultOf_138 : decode cX0_resultOf 138 = .ok (.iload 4, 2) := by decide +kernel
theorem dX0_resultOf_140 : decode cX0_resultOf 140 = .ok (.invokevirtual 28, 3) := by decide +kernel
theorem dX0_resultOf_143 : decode cX0_resultOf 143 = .ok (.ixor, 1) := by decide +kernel
theorem dX0_resultOf_144 : decode cX0_resultOf 144 = .ok (.ireturn, 1) := by decide +kernel
theorem dX0_resultOf_145 : decode cX0_resultOf 145 = .ok (.aload_n 0, 1) := by decide +kernel
theorem dX0_resultOf_146 : decode cX0_resultOf 146 = .ok (.iload_n 2, 1) := by decide +kernel
theorem dX0_resultOf_147 : decode cX0_resultOf 147 = .ok (.iconst 0, 1) := by decide +kernel
theorem dX0_resultOf_148 : decode cX0_resultOf 148 = .ok (.iload_n 3, 1) := by decide +kernel
theorem dX0_resultOf_149 : decode cX0_resultOf 149 = .ok (.iload 4, 2) := by decide +kernel
theorem dX0_resultOf_151 : decode cX0_resultOf 151 = .ok (.invokevirtual 28, 3) := by decide +kernel
theorem dX0_resultOf_154 : decode cX0_resultOf 154 = .ok (.aload_n 0, 1) := by decide +kernel
theorem dX0_resultOf_155 : decode cX0_resultOf 155 = .ok (.getfield 25, 3) := by decide +kernel
theorem dX0_resultOf_158 : decode cX0_resultOf 158 = .ok (.iadd, 1) := by decide +kernel
theorem dX0_resultOf_159 : decode cX0_resultOf 159 = .ok (.ireturn, 1) := by decide +kernel
theorem dX0_resultOf_160 : decode cX0_resultOf 160 = .ok (.aload_n 0, 1) := by decide +kernel
theorem dX0_resultOf_161 : decode cX0_resultOf 161 = .ok (.iload_n 2, 1) := by decide +kernel
theorem dX0_resultOf_162 : decode cX0_resultOf 162 = .ok (.iconst 0, 1) := by decide +kernel
theorem dX0_resultOf_163 : decode cX0_resultOf 163 = .ok (.iload_n 3, 1) := by decide +kernel
theorem dX0_resultOf_164 : decode cX0_resultOf 164 = .ok (.iconst 1, 1) := by decide +kernel
theorem dX0_resultOf_165 : decode cX0_resultOf 165 = .ok (.iadd, 1) := by decide +kernel
theorem dX0_resultOf_166 : decode cX0_resultOf 166 = .ok (.iload 4, 2) := by decide +kernel
theorem dX0_resultOf_168 : decode cX0_resultOf 168 = .ok (.invokevirtual 28, 3) := by decide +kernel
theorem dX0_resultOf_171 : decode cX0_resultOf 171 = .ok (.ireturn, 1) := by decide +kernel
theorem dX0_resultOf_172 : decode cX0_resultOf 172 = .ok (.aload_n 0, 1) := by decide +kernel
theorem dX0_resultOf_173 : decode cX0_resultOf 173 = .ok (.iload_n 2, 1) := by decide +kernel
theorem dX0_resultOf_174 : decode cX0_resultOf 174 = .ok (.iconst 2, 1) := by decide +kernel
theorem dX0_resultOf_175 : decode cX0_resultOf 175 = .ok (.iload_n 3, 1) := by decide +kernel
theorem dX0_resultOf_176 : decode cX0_resultOf 176 = .ok (.iload 4, 2) := by decide +kernel
theorem dX0_resultOf_178 : decode cX0_resultOf 178 = .ok (.invokevirtual 28, 3) := by decide +kernel
theorem dX0_resultOf_181 : decode cX0_resultOf 181 = .ok (.aload_n 0, 1) := by decide +kernel
theorem dX0_resultOf_182 : decode cX0_resultOf 182 = .ok (.getfield 22, 3) := by decide +kernel
theorem dX0_resultOf_185 : decode cX0_resultOf 185 = .ok (.isub, 1) := by decide +kernel
theorem dX0_resultOf_186 : decode cX0_resultOf 186 = .ok (.ireturn, 1) := by decide +kernel
theorem dX0_resultOf_187 : decode cX0_resultOf 187 = .ok (.aload_n 0, 1) := by decide +kernel
theorem dX0_resultOf_188 : decode cX0_resultOf 188 = .ok (.iload_n 2, 1) := by decide +kernel
theorem dX0_resultOf_189 : decode cX0_resultOf 189 = .ok (.iconst 1, 1) := by decide +kernel
theorem dX0_resultOf_190 : decode cX0_resultOf 190 = .ok (.iload_n 3, 1) := by decide +kernel
theorem dX0_resultOf_191 : decode cX0_resultOf 191 = .ok (.iload 4, 2) := by decide +kernel
theorem dX0_resultOf_193 : decode cX0_resultOf 193 = .ok (.invokevirtual 28, 3) := by decide +kernel
theorem dX0_resultOf_196 : decode cX0_resultOf 196 = .ok (.iconst 3, 1) := by decide +kernel
theorem dX0_resultOf_197 : decode cX0_resultOf 197 = .ok (.imul, 1) := by decide +kernel
theorem dX0_resultOf_198 : decode cX0_resultOf 198 = .ok (.ireturn, 1) := by decide +kernel
theorem dX0_resultOf_199 : decode cX0_resultOf 199 = .ok (.aload_n 0, 1) := by decide +kernel
theorem dX0_resultOf_200 : decode cX0_resultOf 200 = .ok (.iload_n 2, 1) := by decide +kernel
theorem dX0_resultOf_201 : decode cX0_resultOf 201 = .ok (.iconst 1, 1) := by decide +kernel
theorem dX0_resultOf_202 : decode cX0_resultOf 202 = .ok (.iload_n 3, 1) := by decide +kernel
theorem dX0_resultOf_203 : decode cX0_resultOf 203 = .ok (.iload 4, 2) := by decide +kernel
theorem dX0_resultOf_205 : decode cX0_resultOf 205 = .ok (.invokevirtual 28, 3) := by decide +kernel
theorem dX0_resultOf_208 : decode cX0_resultOf 208 = .ok (.ineg, 1) := by decide +kernel
theorem dX0_resultOf_209 : decode cX0_resultOf 209 = .ok (.ireturn, 1) := by decide +kernel
theorem dX0_resultOf_210 : decode cX0_resultOf 210 = .ok (.aload_n 0, 1) := by decide +kernel
theorem dX0_resultOf_211 : decode cX0_resultOf 211 = .ok (.iload_n 2, 1) := by decide +kernel
theorem dX0_resultOf_212 : decode cX0_resultOf 212 = .ok (.iconst 1, 1) := by decide +kernel
theorem dX0_resultOf_213 : decode cX0_resultOf 213 = .ok (.iload_n 3, 1) := by decide +kernel
theorem dX0_resultOf_214 : decode cX0_resultOf 214 = .ok (.iload 4, 2) := by decide +kernel
theorem dX0_resultOf_216 : decode cX0_resultOf 216 = .ok (.invokevirtual 28, 3) := by decide +kernel
theorem dX0_resultOf_219 : decode cX0_resultOf 219 = .ok (.iconst 5, 1) := by decide +kernel
theorem dX0_resultOf_220 : decode cX0_resultOf 220 = .ok (.ixor, 1) := by decide +kernel
theorem dX0_resultOf_221 : decode cX0_resultOf 221 = .ok (.ireturn, 1) := by decide +kernel
theorem dX0_resultOf_222 : decode cX0_resultOf 222 = .ok (.aload_n 0, 1) := by decide +kernel
theorem dX0_resultOf_223 : decode cX0_resultOf 223 = .ok (.iload_n 2, 1) := by decide +kernel
theorem dX0_resultOf_224 : decode cX0_resultOf 224 = .ok (.iconst 0, 1) := by decide +kernel
theorem dX0_resultOf_225 : decode cX0_resultOf 225 = .ok (.iload_n 3, 1) := by decide +kernel
theorem dX0_resultOf_226 : decode cX0_resultOf 226 = .ok (.iload 4, 2) := by decide +kernel
theorem dX0_resultOf_228 : decode cX0_resultOf 228 = .ok (.invokevirtual 28, 3) := by decide +kernel
theorem dX0_resultOf_231 : decode cX0_resultOf 231 = .ok (.iconst 2, 1) := by decide +kernel
theorem dX0_resultOf_232 : decode cX0_resultOf 232 = .ok (.imul, 1) := by decide +kernel
theorem dX0_resultOf_233 : decode cX0_resultOf 233 = .ok (.ireturn, 1) := by decide +kernel
theorem dX0_resultOf_234 : decode cX0_resultOf 234 = .ok (.aload_n 0, 1) := by decide +kernel
theorem dX0_resultOf_235 : decode cX0_resultOf 235 = .ok (.iload_n 2, 1) := by decide +kernel
theorem dX0_resultOf_236 : decode cX0_resultOf 236 = .ok (.iconst 2, 1) := by decide +kernel
theorem dX0_resultOf_237 : decode cX0_resultOf 237 = .ok (.iload_n 3, 1) := by decide +kernel
theorem dX0_resultOf_238 : decode cX0_resultOf 238 = .ok (.aload_n 0, 1) := by decide +kernel
theorem dX0_resultOf_239 : decode cX0_resultOf 239 = .ok (.getfield 25, 3) := by decide +kernel
theorem dX0_resultOf_242 : decode cX0_resultOf 242 = .ok (.isub, 1) := by decide +kernel
theorem dX0_resultOf_243 : decode cX0_resultOf 243 = .ok (.iload 4, 2) := by decide +kernel
theorem dX0_resultOf_245 : decode cX0_resultOf 245 = .ok (.invokevirtual 28, 3) := by decide +kernel
theorem dX0_resultOf_248 : decode cX0_resultOf 248 = .ok (.ireturn, 1) := by decide +kernel
theorem dX0_ownerOf_0 : decode cX0_ownerOf 0 = .ok (.iload_n 0, 1) := by decide +kernel
theorem dX0_ownerOf_1 : decode cX0_ownerOf 1 = .ok (.istore_n 2, 1) := by decide +kernel
theorem dX0_ownerOf_2 : decode cX0_ownerOf 2 = .ok (.iconst 0, 1) := by decide +kernel
theorem dX0_ownerOf_3 : decode cX0_ownerOf 3 = .ok (.istore_n 3, 1) := by decide +kernel
theorem dX0_ownerOf_4 : decode cX0_ownerOf 4 = .ok (.iload_n 3, 1) := by decide +kernel
theorem dX0_ownerOf_5 : decode cX0_ownerOf 5 = .ok (.getstatic 47, 3) := by decide +kernel
theorem dX0_ownerOf_8 : decode cX0_ownerOf 8 = .ok (.arraylength, 1) := by decide +kernel
theorem dX0_ownerOf_9 : decode cX0_ownerOf 9 = .ok (.if_icmp .ge 36, 3) := by decide +kernel
theorem dX0_ownerOf_12 : decode cX0_ownerOf 12 = .ok (.iload_n 2, 1) := by decide +kernel
theorem dX0_ownerOf_13 : decode cX0_ownerOf 13 = .ok (.invokestatic 36, 3) := by decide +kernel
theorem dX0_ownerOf_16 : decode cX0_ownerOf 16 = .ok (.ifCond .eq 29, 3) := by decide +kernel
theorem dX0_ownerOf_19 : decode cX0_ownerOf 19 = .ok (.getstatic 40, 3) := by decide +kernel
theorem dX0_ownerOf_22 : decode cX0_ownerOf 22 = .ok (.iconst 3, 1) := by decide +kernel
theorem dX0_ownerOf_23 : decode cX0_ownerOf 23 = .ok (.iload_n 2, 1) := by decide +kernel
theorem dX0_ownerOf_24 : decode cX0_ownerOf 24 = .ok (.imul, 1) := by decide +kernel
theorem dX0_ownerOf_25 : decode cX0_ownerOf 25 = .ok (.iload_n 1, 1) := by decide +kernel
theorem dX0_ownerOf_26 : decode cX0_ownerOf 26 = .ok (.iadd, 1) := by decide +kernel
theorem dX0_ownerOf_27 : decode cX0_ownerOf 27 = .ok (.iaload, 1) := by decide +kernel
theorem dX0_ownerOf_28 : decode cX0_ownerOf 28 = .ok (.ifCond .eq 5, 3) := by decide +kernel
theorem dX0_ownerOf_31 : decode cX0_ownerOf 31 = .ok (.iload_n 2, 1) := by decide +kernel
theorem dX0_ownerOf_32 : decode cX0_ownerOf 32 = .ok (.ireturn, 1) := by decide +kernel
theorem dX0_ownerOf_33 : decode cX0_ownerOf 33 = .ok (.getstatic 47, 3) := by decide +kernel
theorem dX0_ownerOf_36 : decode cX0_ownerOf 36 = .ok (.iload_n 2, 1) := by decide +kernel
theorem dX0_ownerOf_37 : decode cX0_ownerOf 37 = .ok (.iaload, 1) := by decide +kernel
theorem dX0_ownerOf_38 : decode cX0_ownerOf 38 = .ok (.istore_n 2, 1) := by decide +kernel
theorem dX0_ownerOf_39 : decode cX0_ownerOf 39 = .ok (.iinc 3 1, 3) := by decide +kernel
theorem dX0_ownerOf_42 : decode cX0_ownerOf 42 = .ok (.goto (-38), 3) := by decide +kernel
theorem dX0_ownerOf_45 : decode cX0_ownerOf 45 = .ok (.iconst (-1), 1) := by decide +kernel
theorem dX0_ownerOf_46 : decode cX0_ownerOf 46 = .ok (.ireturn, 1) := by decide +kernel
theorem dX0_note_0 : decode cX0_note 0 = .ok (.aload_n 0, 1) := by decide +kernel
theorem dX0_note_1 : decode cX0_note 1 = .ok (.getfield 15, 3) := by decide +kernel
theorem dX0_note_4 : decode cX0_note 4 = .ok (.bipush 20, 2) := by decide +kernel
theorem dX0_note_6 : decode cX0_note 6 = .ok (.if_icmp .ge 13, 3) := by decide +kernel
theorem dX0_note_9 : decode cX0_note 9 = .ok (.aload_n 0, 1) := by decide +kernel
theorem dX0_note_10 : decode cX0_note 10 = .ok (.getfield 9, 3) := by decide +kernel
theorem dX0_note_13 : decode cX0_note 13 = .ok (.aload_n 0, 1) := by decide +kernel
theorem dX0_note_14 : decode cX0_note 14 = .ok (.getfield 15, 3) := by decide +kernel
theorem dX0_note_17 : decode cX0_note 17 = .ok (.iload_n 1, 1) := by decide +kernel
theorem dX0_note_18 : decode cX0_note 18 = .ok (.iastore, 1) := by decide +kernel
theorem dX0_note_19 : decode cX0_note 19 = .ok (.aload_n 0, 1) := by decide +kernel
theorem dX0_note_20 : decode cX0_note 20 = .ok (.dup, 1) := by decide +kernel
theorem dX0_note_21 : decode cX0_note 21 = .ok (.getfield 15, 3) := by decide +kernel
theorem dX0_note_24 : decode cX0_note 24 = .ok (.iconst 1, 1) := by decide +kernel
theorem dX0_note_25 : decode cX0_note 25 = .ok (.iadd, 1) := by decide +kernel
theorem dX0_note_26 : decode cX0_note 26 = .ok (.putfield 15, 3) := by decide +kernel
theorem dX0_note_29 : decode cX0_note 29 = .ok (.return_, 1) := by decide +kernel
theorem dX1_init_0 : decode cX1_init 0 = .ok (.aload_n 0, 1) := by decide +kernel
theorem dX1_init_1 : decode cX1_init 1 = .ok (.invokespecial 3, 3) := by decide +kernel
theorem dX1_init_4 : decode cX1_init 4 = .ok (.aload_n 0, 1) := by decide +kernel
theorem dX1_init_5 : decode cX1_init 5 = .ok (.aconst_null, 1) := by decide +kernel
theorem dX1_init_6 : decode cX1_init 6 = .ok (.putfield 9, 3) := by decide +kernel
theorem dX1_init_9 : decode cX1_init 9 = .ok (.aload_n 0, 1) := by decide +kernel
theorem dX1_init_10 : decode cX1_init 10 = .ok (.aconst_null, 1) := by decide +kernel
theorem dX1_init_11 : decode cX1_init 11 = .ok (.putfield 15, 3) := by decide +kernel
theorem dX1_init_14 : decode cX1_init 14 = .ok (.aload_n 0, 1) := by decide +kernel
theorem dX1_init_15 : decode cX1_init 15 = .ok (.iconst 0, 1) := by decide +kernel
theorem dX1_init_16 : decode cX1_init 16 = .ok (.putfield 19, 3) := by decide +kernel
theorem dX1_init_19 : decode cX1_init 19 = .ok (.aload_n 0, 1) := by decide +kernel
theorem dX1_init_20 : decode cX1_init 20 = .ok (.iconst (-1), 1) := by decide +kernel
theorem dX1_init_21 : decode cX1_init 21 = .ok (.putfield 23, 3) := by decide +kernel
theorem dX1_init_24 : decode cX1_init 24 = .ok (.aload_n 0, 1) := by decide +kernel
theorem dX1_init_25 : decode cX1_init 25 = .ok (.iconst 0, 1) := by decide +kernel
theorem dX1_init_26 : decode cX1_init 26 = .ok (.putfield 26, 3) := by decide +kernel
theorem dX1_init_29 : decode cX1_init 29 = .ok (.aload_n 0, 1) := by decide +kernel
theorem dX1_init_30 : decode cX1_init 30 = .ok (.iconst 0, 1) := by decide +kernel
theorem dX1_init_31 : decode cX1_init 31 = .ok (.putfield 29, 3) := by decide +kernel
theorem dX1_init_34 : decode cX1_init 34 = .ok (.aload_n 0, 1) := by decide +kernel
theorem dX1_init_35 : decode cX1_init 35 = .ok (.iconst 0, 1) := by decide +kernel
theorem dX1_init_36 : decode cX1_init 36 = .ok (.putfield 32, 3) := by decide +kernel
theorem dX1_init_39 : decode cX1_init 39 = .ok (.return_, 1) := by decide +kernel
theorem dX1_read_0 : decode cX1_read 0 = .ok (.aload_n 0, 1) := by decide +kernel
theorem dX1_read_1 : decode cX1_read 1 = .ok (.aload_n 1, 1) := by decide +kernel
theorem dX1_read_2 : decode cX1_read 2 = .ok (.putfield 9, 3) := by decide +kernel
theorem dX1_read_5 : decode cX1_read 5 = .ok (.aload_n 0, 1) := by decide +kernel
theorem dX1_read_6 : decode cX1_read 6 = .ok (.aload_n 2, 1) := by decide +kernel
theorem dX1_read_7 : decode cX1_read 7 = .ok (.putfield 15, 3) := by decide +kernel
theorem dX1_read_10 : decode cX1_read 10 = .ok (.aload_n 0, 1) := by decide +kernel
theorem dX1_read_11 : decode cX1_read 11 = .ok (.iconst 0, 1) := by decide +kernel
theorem dX1_read_12 : decode cX1_read 12 = .ok (.putfield 19, 3) := by decide +kernel
theorem dX1_read_15 : decode cX1_read 15 = .ok (.aload_n 0, 1) := by decide +kernel
theorem dX1_read_16 : decode cX1_read 16 = .ok (.iconst (-1), 1) := by decide +kernel
theorem dX1_read_17 : decode cX1_read 17 = .ok (.putfield 23, 3) := by decide +kernel
theorem dX1_read_20 : decode cX1_read 20 = .ok (.aload_n 0, 1) := by decide +kernel
theorem dX1_read_21 : decode cX1_read 21 = .ok (.iconst 0, 1) := by decide +kernel
theorem dX1_read_22 : decode cX1_read 22 = .ok (.putfield 26, 3) := by decide +kernel
theorem dX1_read_25 : decode cX1_read 25 = .ok (.aload_n 0, 1) := by decide +kernel
theorem dX1_read_26 : decode cX1_read 26 = .ok (.invokevirtual 35, 3) := by decide +kernel
theorem dX1_read_29 : decode cX1_read 29 = .ok (.istore_n 3, 1) := by decide +kernel
theorem dX1_read_30 : decode cX1_read 30 = .ok (.iconst 0, 1) := by decide +kernel
theorem dX1_read_31 : decode cX1_read 31 = .ok (.istore 4, 2) := by decide +kernel
theorem dX1_read_33 : decode cX1_read 33 = .ok (.iload_n 3, 1) := by decide +kernel
theorem dX1_read_34 : decode cX1_read 34 = .ok (.ifCond .eq 53, 3) := by decide +kernel
theorem dX1_read_37 : decode cX1_read 37 = .ok (.aload_n 0, 1) := by decide +kernel
theorem dX1_read_38 : decode cX1_read 38 = .ok (.getfield 19, 3) := by decide +kernel
theorem dX1_read_41 : decode cX1_read 41 = .ok (.aload_n 0, 1) := by decide +kernel
theorem dX1_read_42 : decode cX1_read 42 = .ok (.getfield 9, 3) := by decide +kernel
theorem dX1_read_45 : decode cX1_read 45 = .ok (.getfield 39, 3) := by decide +kernel
theorem dX1_read_48 : decode cX1_read 48 = .ok (.if_icmp .ge 39, 3) := by decide +kernel
theorem dX1_read_51 : decode cX1_read 51 = .ok (.iload 4, 2) := by decide +kernel
theorem dX1_read_53 : decode cX1_read 53 = .ok (.sipush 160, 3) := by decide +kernel
theorem dX1_read_56 : decode cX1_read 56 = .ok (.if_icmp .ge 31, 3) := by decide +kernel
theorem dX1_read_59 : decode cX1_read 59 = .ok (.aload_n 0, 1) := by decide +kernel
theorem dX1_read_60 : decode cX1_read 60 = .ok (.bipush 59, 2) := by decide +kernel
theorem dX1_read_62 : decode cX1_read 62 = .ok (.invokevirtual 44, 3) := by decide +kernel
theorem dX1_read_65 : decode cX1_read 65 = .ok (.ifCond .eq 14, 3) := by decide +kernel
theorem dX1_read_68 : decode cX1_read 68 = .ok (.aload_n 0, 1) := by decide +kernel
theorem dX1_read_69 : decode cX1_read 69 = .ok (.invokevirtual 35, 3) := by decide +kernel
theorem dX1_read_72 : decode cX1_read 72 = .ok (.ifCond .eq 7, 3) := by decide +kernel
theorem dX1_read_75 : decode cX1_read 75 = .ok (.iconst 1, 1) := by decide +kernel
theorem dX1_read_76 : decode cX1_read 76 = .ok (.goto 4, 3) := by decide +kernel
theorem dX1_read_79 : decode cX1_read 79 = .ok (.iconst 0, 1) := by decide +kernel
theorem dX1_read_80 : decode cX1_read 80 = .ok (.istore_n 3, 1) := by decide +kernel
theorem dX1_read_81 : decode cX1_read 81 = .ok (.iinc 4 1, 3) := by decide +kernel
theorem dX1_read_84 : decode cX1_read 84 = .ok (.goto (-51), 3) := by decide +kernel
theorem dX1_read_87 : decode cX1_read 87 = .ok (.iload_n 3, 1) := by decide +kernel
theorem dX1_read_88 : decode cX1_read 88 = .ok (.ifCond .eq 7, 3) := by decide +kernel
theorem dX1_read_91 : decode cX1_read 91 = .ok (.iconst (-1), 1) := by decide +kernel
theorem dX1_read_92 : decode cX1_read 92 = .ok (.goto 7, 3) := by decide +kernel
theorem dX1_read_95 : decode cX1_read 95 = .ok (.aload_n 0, 1) := by decide +kernel
theorem dX1_read_96 : decode cX1_read 96 = .ok (.getfield 23, 3) := by decide +kernel
theorem dX1_read_99 : decode cX1_read 99 = .ok (.ireturn, 1) := by decide +kernel
theorem dX1_wrong_0 : decode cX1_wrong 0 = .ok (.aload_n 0, 1) := by decide +kernel
theorem dX1_wrong_1 : decode cX1_wrong 1 = .ok (.iload_n 1, 1) := by decide +kernel
theorem dX1_wrong_2 : decode cX1_wrong 2 = .ok (.putfield 23, 3) := by decide +kernel
theorem dX1_wrong_5 : decode cX1_wrong 5 = .ok (.iconst 0, 1) := by decide +kernel
theorem dX1_wrong_6 : decode cX1_wrong 6 = .ok (.ireturn, 1) := by decide +kernel
theorem dX1_letter_0 : decode cX1_letter 0 = .ok (.aload_n 0, 1) := by decide +kernel
theorem dX1_letter_1 : decode cX1_letter 1 = .ok (.getfield 19, 3) := by decide +kernel
theorem dX1_letter_4 : decode cX1_letter 4 = .ok (.aload_n 0, 1) := by decide +kernel
theorem dX1_letter_5 : decode cX1_letter 5 = .ok (.getfield 9, 3) := by decide +kernel
theorem dX1_letter_8 : decode cX1_letter 8 = .ok (.getfield 39, 3) := by decide +kernel
theorem dX1_letter_11 : decode cX1_letter 11 = .ok (.if_icmp .ge 17, 3) := by decide +kernel
theorem dX1_letter_14 : decode cX1_letter 14 = .ok (.aload_n 0, 1) := by decide +kernel
theorem dX1_letter_15 : decode cX1_letter 15 = .ok (.getfield 9, 3) := by decide +kernel
theorem dX1_letter_18 : decode cX1_letter 18 = .ok (.aload_n 0, 1) := by decide +kernel
theorem dX1_letter_19 : decode cX1_letter 19 = .ok (.getfield 19, 3) := by decide +kernel
theorem dX1_letter_22 : decode cX1_letter 22 = .ok (.invokevirtual 48, 3) := by decide +kernel
theorem dX1_letter_25 : decode cX1_letter 25 = .ok (.goto 4, 3) := by decide +kernel
theorem dX1_letter_28 : decode cX1_letter 28 = .ok (.iconst (-1), 1) := by decide +kernel
theorem dX1_letter_29 : decode cX1_letter 29 = .ok (.ireturn, 1) := by decide +kernel
theorem dX1_isSign_0 : decode cX1_isSign 0 = .ok (.aload_n 0, 1) := by decide +kernel
theorem dX1_isSign_1 : decode cX1_isSign 1 = .ok (.invokevirtual 52, 3) := by decide +kernel
theorem dX1_isSign_4 : decode cX1_isSign 4 = .ok (.iload_n 1, 1) := by decide +kernel
theorem dX1_isSign_5 : decode cX1_isSign 5 = .ok (.if_icmp .eq 12, 3) := by decide +kernel
theorem dX1_isSign_8 : decode cX1_isSign 8 = .ok (.aload_n 0, 1) := by decide +kernel
theorem dX1_isSign_9 : decode cX1_isSign 9 = .ok (.aload_n 0, 1) := by decide +kernel
theorem dX1_isSign_10 : decode cX1_isSign 10 = .ok (.getfield 19, 3) := by decide +kernel
theorem dX1_isSign_13 : decode cX1_isSign 13 = .ok (.invokevirtual 56, 3) := by decide +kernel
theorem dX1_isSign_16 : decode cX1_isSign 16 = .ok (.ireturn, 1) := by decide +kernel
theorem dX1_isSign_17 : decode cX1_isSign 17 = .ok (.aload_n 0, 1) := by decide +kernel
theorem dX1_isSign_18 : decode cX1_isSign 18 = .ok (.dup, 1) := by decide +kernel
theorem dX1_isSign_19 : decode cX1_isSign 19 = .ok (.getfield 19, 3) := by decide +kernel
theorem dX1_isSign_22 : decode cX1_isSign 22 = .ok (.iconst 1, 1) := by decide +kernel
theorem dX1_isSign_23 : decode cX1_isSign 23 = .ok (.iadd, 1) := by decide +kernel
theorem dX1_isSign_24 : decode cX1_isSign 24 = .ok (.putfield 19, 3) := by decide +kernel
theorem dX1_isSign_27 : decode cX1_isSign 27 = .ok (.iconst 1, 1) := by decide +kernel
theorem dX1_isSign_28 : decode cX1_isSign 28 = .ok (.ireturn, 1) := by decide +kernel
theorem dX1_isWord_0 : decode cX1_isWord 0 = .ok (.aload_n 0, 1) := by decide +kernel
theorem dX1_isWord_1 : decode cX1_isWord 1 = .ok (.getfield 19, 3) := by decide +kernel
theorem dX1_isWord_4 : decode cX1_isWord 4 = .ok (.istore_n 3, 1) := by decide +kernel
theorem dX1_isWord_5 : decode cX1_isWord 5 = .ok (.iconst 0, 1) := by decide +kernel
theorem dX1_isWord_6 : decode cX1_isWord 6 = .ok (.istore 4, 2) := by decide +kernel
theorem dX1_isWord_8 : decode cX1_isWord 8 = .ok (.iload 4, 2) := by decide +kernel
theorem dX1_isWord_10 : decode cX1_isWord 10 = .ok (.aload_n 1, 1) := by decide +kernel
theorem dX1_isWord_11 : decode cX1_isWord 11 = .ok (.invokevirtual 60, 3) := by decide +kernel
theorem dX1_isWord_14 : decode cX1_isWord 14 = .ok (.if_icmp .ge 24, 3) := by decide +kernel
theorem dX1_isWord_17 : decode cX1_isWord 17 = .ok (.aload_n 0, 1) := by decide +kernel
theorem dX1_isWord_18 : decode cX1_isWord 18 = .ok (.aload_n 1, 1) := by decide +kernel
theorem dX1_isWord_19 : decode cX1_isWord 19 = .ok (.iload 4, 2) := by decide +kernel
theorem dX1_isWord_21 : decode cX1_isWord 21 = .ok (.invokevirtual 65, 3) := by decide +kernel
theorem dX1_isWord_24 : decode cX1_isWord 24 = .ok (.invokevirtual 44, 3) := by decide +kernel
theorem dX1_isWord_27 : decode cX1_isWord 27 = .ok (.ifCond .ne 5, 3) := by decide +kernel
theorem dX1_isWord_30 : decode cX1_isWord 30 = .ok (.iconst 0, 1) := by decide +kernel
theorem dX1_isWord_31 : decode cX1_isWord 31 = .ok (.ireturn, 1) := by decide +kernel
theorem dX1_isWord_32 : decode cX1_isWord 32 = .ok (.iinc 4 1, 3) := by decide +kernel
theorem dX1_isWord_35 : decode cX1_isWord 35 = .ok (.goto (-27), 3) := by decide +kernel
theorem dX1_isWord_38 : decode cX1_isWord 38 = .ok (.iload_n 2, 1) := by decide +kernel
theorem dX1_isWord_39 : decode cX1_isWord 39 = .ok (.ifCond .eq 12, 3) := by decide +kernel
theorem dX1_isWord_42 : decode cX1_isWord 42 = .ok (.aload_n 0, 1) := by decide +kernel
theorem dX1_isWord_43 : decode cX1_isWord 43 = .ok (.bipush 32, 2) := by decide +kernel
theorem dX1_isWord_45 : decode cX1_isWord 45 = .ok (.invokevirtual 44, 3) := by decide +kernel
theorem dX1_isWord_48 : decode cX1_isWord 48 = .ok (.goto 8, 3) := by decide +kernel
theorem dX1_isWord_51 : decode cX1_isWord 51 = .ok (.aload_n 0, 1) := by decide +kernel
theorem dX1_isWord_52 : decode cX1_isWord 52 = .ok (.iload_n 3, 1) := by decide +kernel
theorem dX1_isWord_53 : decode cX1_isWord 53 = .ok (.invokevirtual 56, 3) := by decide +kernel
theorem dX1_isWord_56 : decode cX1_isWord 56 = .ok (.ireturn, 1) := by decide +kernel
theorem dX1_isNumber_0 : decode cX1_isNumber 0 = .ok (.aload_n 0, 1) := by decide +kernel
theorem dX1_isNumber_1 : decode cX1_isNumber 1 = .ok (.aload_n 0, 1) := by decide +kernel
theorem dX1_isNumber_2 : decode cX1_isNumber 2 = .ok (.getfield 19, 3) := by decide +kernel
theorem dX1_isNumber_5 : decode cX1_isNumber 5 = .ok (.putfield 32, 3) := by decide +kernel
theorem dX1_isNumber_8 : decode cX1_isNumber 8 = .ok (.aload_n 0, 1) := by decide +kernel
theorem dX1_isNumber_9 : decode cX1_isNumber 9 = .ok (.iconst 0, 1) := by decide +kernel
theorem dX1_isNumber_10 : decode cX1_isNumber 10 = .ok (.putfield 29, 3) := by decide +kernel
theorem dX1_isNumber_13 : decode cX1_isNumber 13 = .ok (.iconst 0, 1) := by decide +kernel
theorem dX1_isNumber_14 : decode cX1_isNumber 14 = .ok (.istore_n 3, 1) := by decide +kernel
theorem dX1_isNumber_15 : decode cX1_isNumber 15 = .ok (.iload_n 3, 1) := by decide +kernel
theorem dX1_isNumber_16 : decode cX1_isNumber 16 = .ok (.iconst 4, 1) := by decide +kernel
theorem dX1_isNumber_17 : decode cX1_isNumber 17 = .ok (.if_icmp .ge 45, 3) := by decide +kernel
theorem dX1_isNumber_20 : decode cX1_isNumber 20 = .ok (.aload_n 0, 1) := by decide +kernel
theorem dX1_isNumber_21 : decode cX1_isNumber 21 = .ok (.invokevirtual 69, 3) := by decide +kernel
theorem dX1_isNumber_24 : decode cX1_isNumber 24 = .ok (.ifCond .eq 38, 3) := by decide +kernel
theorem dX1_isNumber_27 : decode cX1_isNumber 27 = .ok (.aload_n 0, 1) := by decide +kernel
theorem dX1_isNumber_28 : decode cX1_isNumber 28 = .ok (.bipush 10, 2) := by decide +kernel
theorem dX1_isNumber_30 : decode cX1_isNumber 30 = .ok (.aload_n 0, 1) := by decide +kernel
theorem dX1_isNumber_31 : decode cX1_isNumber 31 = .ok (.getfield 29, 3) := by decide +kernel
theorem dX1_isNumber_34 : decode cX1_isNumber 34 = .ok (.imul, 1) := by decide +kernel
theorem dX1_isNumber_35 : decode cX1_isNumber 35 = .ok (.aload_n 0, 1) := by decide +kernel
theorem dX1_isNumber_36 : decode cX1_isNumber 36 = .ok (.invokevirtual 52, 3) := by decide +kernel
theorem dX1_isNumber_39 : decode cX1_isNumber 39 = .ok (.iadd, 1) := by decide +kernel
theorem dX1_isNumber_40 : decode cX1_isNumber 40 = .ok (.bipush 48, 2) := by decide +kernel
theorem dX1_isNumber_42 : decode cX1_isNumber 42 = .ok (.isub, 1) := by decide +kernel
theorem dX1_isNumber_43 : decode cX1_isNumber 43 = .ok (.putfield 29, 3) := by decide +kernel
theorem dX1_isNumber_46 : decode cX1_isNumber 46 = .ok (.aload_n 0, 1) := by decide +kernel
theorem dX1_isNumber_47 : decode cX1_isNumber 47 = .ok (.dup, 1) := by decide +kernel
theorem dX1_isNumber_48 : decode cX1_isNumber 48 = .ok (.getfield 19, 3) := by decide +kernel
theorem dX1_isNumber_51 : decode cX1_isNumber 51 = .ok (.iconst 1, 1) := by decide +kernel
theorem dX1_isNumber_52 : decode cX1_isNumber 52 = .ok (.iadd, 1) := by decide +kernel
theorem dX1_isNumber_53 : decode cX1_isNumber 53 = .ok (.putfield 19, 3) := by decide +kernel
theorem dX1_isNumber_56 : decode cX1_isNumber 56 = .ok (.iinc 3 1, 3) := by decide +kernel
theorem dX1_isNumber_59 : decode cX1_isNumber 59 = .ok (.goto (-44), 3) := by decide +kernel
theorem dX1_isNumber_62 : decode cX1_isNumber 62 = .ok (.aload_n 0, 1) := by decide +kernel
theorem dX1_isNumber_63 : decode cX1_isNumber 63 = .ok (.getfield 19, 3) := by decide +kernel
theorem dX1_isNumber_66 : decode cX1_isNumber 66 = .ok (.aload_n 0, 1) := by decide +kernel
theorem dX1_isNumber_67 : decode cX1_isNumber 67 = .ok (.getfield 32, 3) := by decide +kernel
theorem dX1_isNumber_70 : decode cX1_isNumber 70 = .ok (.if_icmp .le 19, 3) := by decide +kernel
theorem dX1_isNumber_73 : decode cX1_isNumber 73 = .ok (.aload_n 0, 1) := by decide +kernel
theorem dX1_isNumber_74 : decode cX1_isNumber 74 = .ok (.getfield 29, 3) := by decide +kernel
theorem dX1_isNumber_77 : decode cX1_isNumber 77 = .ok (.iload_n 1, 1) := by decide +kernel
theorem dX1_isNumber_78 : decode cX1_isNumber 78 = .ok (.if_icmp .lt 11, 3) := by decide +kernel
theorem dX1_isNumber_81 : decode cX1_isNumber 81 = .ok (.aload_n 0, 1) := by decide +kernel
theorem dX1_isNumber_82 : decode cX1_isNumber 82 = .ok (.getfield 29, 3) := by decide +kernel
theorem dX1_isNumber_85 : decode cX1_isNumber 85 = .ok (.iload_n 2, 1) := by decide +kernel
theorem dX1_isNumber_86 : decode cX1_isNumber 86 = .ok (.if_icmp .le 14, 3) := by decide +kernel
theorem dX1_isNumber_89 : decode cX1_isNumber 89 = .ok (.aload_n 0, 1) := by decide +kernel
theorem dX1_isNumber_90 : decode cX1_isNumber 90 = .ok (.aload_n 0, 1) := by decide +kernel
theorem dX1_isNumber_91 : decode cX1_isNumber 91 = .ok (.getfield 32, 3) := by decide +kernel
theorem dX1_isNumber_94 : decode cX1_isNumber 94 = .ok (.invokevirtual 56, 3) := by decide +kernel
theorem dX1_isNumber_97 : decode cX1_isNumber 97 = .ok (.ifCond .eq 7, 3) := by decide +kernel
theorem dX1_isNumber_100 : decode cX1_isNumber 100 = .ok (.iconst 1, 1) := by decide +kernel
theorem dX1_isNumber_101 : decode cX1_isNumber 101 = .ok (.goto 4, 3) := by decide +kernel
theorem dX1_isNumber_104 : decode cX1_isNumber 104 = .ok (.iconst 0, 1) := by decide +kernel
theorem dX1_isNumber_105 : decode cX1_isNumber 105 = .ok (.ireturn, 1) := by decide +kernel
theorem dX1_isDigit_0 : decode cX1_isDigit 0 = .ok (.aload_n 0, 1) := by decide +kernel
theorem dX1_isDigit_1 : decode cX1_isDigit 1 = .ok (.invokevirtual 52, 3) := by decide +kernel
theorem dX1_isDigit_4 : decode cX1_isDigit 4 = .ok (.bipush 48, 2) := by decide +kernel
theorem dX1_isDigit_6 : decode cX1_isDigit 6 = .ok (.if_icmp .lt 16, 3) := by decide +kernel
theorem dX1_isDigit_9 : decode cX1_isDigit 9 = .ok (.aload_n 0, 1) := by decide +kernel
theorem dX1_isDigit_10 : decode cX1_isDigit 10 = .ok (.invokevirtual 52, 3) := by decide +kernel
theorem dX1_isDigit_13 : decode cX1_isDigit 13 = .ok (.bipush 57, 2) := by decide +kernel
theorem dX1_isDigit_15 : decode cX1_isDigit 15 = .ok (.if_icmp .gt 7, 3) := by decide +kernel
theorem dX1_isDigit_18 : decode cX1_isDigit 18 = .ok (.iconst 1, 1) := by decide +kernel
theorem dX1_isDigit_19 : decode cX1_isDigit 19 = .ok (.goto 4, 3) := by decide +kernel
theorem dX1_isDigit_22 : decode cX1_isDigit 22 = .ok (.iconst 0, 1) := by decide +kernel
theorem dX1_isDigit_23 : decode cX1_isDigit 23 = .ok (.ireturn, 1) := by decide +kernel
theorem dX1_readItem_0 : decode cX1_readItem 0 = .ok (.aload_n 0, 1) := by decide +kernel
theorem dX1_readItem_1 : decode cX1_readItem 1 = .ok (.invokevirtual 52, 3) := by decide +kernel
theorem dX1_readItem_4 : decode cX1_readItem 4 = .ok (.tableswitch 112 102 115 #[72, 112, 112, 112, 112, 104, 88, 80, 112, 112, 112, 112, 112, 96], 72) := by decide +kernel
theorem dX1_readItem_76 : decode cX1_readItem 76 = .ok (.aload_n 0, 1) := by decide +kernel
theorem dX1_readItem_77 : decode cX1_readItem 77 = .ok (.invokevirtual 72, 3) := by decide +kernel
theorem dX1_readItem_80 : decode cX1_readItem 80 = .ok (.istore_n 1, 1) := by decide +kernel
theorem dX1_readItem_81 : decode cX1_readItem 81 = .ok (.goto 44, 3) := by decide +kernel
theorem dX1_readItem_84 : decode cX1_readItem 84 = .ok (.aload_n 0, 1) := by decide +kernel
theorem dX1_readItem_85 : decode cX1_readItem 85 = .ok (.invokevirtual 75, 3) := by decide +kernel
theorem dX1_readItem_88 : decode cX1_readItem 88 = .ok (.istore_n 1, 1) := by decide +kernel
theorem dX1_readItem_89 : decode cX1_readItem 89 = .ok (.goto 36, 3) := by decide +kernel
theorem dX1_readItem_92 : decode cX1_readItem 92 = .ok (.aload_n 0, 1) := by decide +kernel
theorem dX1_readItem_93 : decode cX1_readItem 93 = .ok (.invokevirtual 78, 3) := by decide +kernel
theorem dX1_readItem_96 : decode cX1_readItem 96 = .ok (.istore_n 1, 1) := by decide +kernel
theorem dX1_readItem_97 : decode cX1_readItem 97 = .ok (.goto 28, 3) := by decide +kernel
theorem dX1_readItem_100 : decode cX1_readItem 100 = .ok (.aload_n 0, 1) := by decide +kernel
theorem dX1_readItem_101 : decode cX1_readItem 101 = .ok (.invokevirtual 81, 3) := by decide +kernel
theorem dX1_readItem_104 : decode cX1_readItem 104 = .ok (.istore_n 1, 1) := by decide +kernel
theorem dX1_readItem_105 : decode cX1_readItem 105 = .ok (.goto 20, 3) := by decide +kernel
theorem dX1_readItem_108 : decode cX1_readItem 108 = .ok (.aload_n 0, 1) := by decide +kernel
theorem dX1_readItem_109 : decode cX1_readItem 109 = .ok (.invokevirtual 84, 3) := by decide +kernel
theorem dX1_readItem_112 : decode cX1_readItem 112 = .ok (.istore_n 1, 1) := by decide +kernel
theorem dX1_readItem_113 : decode cX1_readItem 113 = .ok (.goto 12, 3) := by decide +kernel
theorem dX1_readItem_116 : decode cX1_readItem 116 = .ok (.aload_n 0, 1) := by decide +kernel
theorem dX1_readItem_117 : decode cX1_readItem 117 = .ok (.aload_n 0, 1) := by decide +kernel
theorem dX1_readItem_118 : decode cX1_readItem 118 = .ok (.getfield 19, 3) := by decide +kernel
theorem dX1_readItem_121 : decode cX1_readItem 121 = .ok (.invokevirtual 56, 3) := by decide +kernel
theorem dX1_readItem_124 : decode cX1_readItem 124 = .ok (.istore_n 1, 1) := by decide +kernel
theorem dX1_readItem_125 : decode cX1_readItem 125 = .ok (.aload_n 0, 1) := by decide +kernel
theorem dX1_readItem_126 : decode cX1_readItem 126 = .ok (.dup, 1) := by decide +kernel
theorem dX1_readItem_127 : decode cX1_readItem 127 = .ok (.getfield 26, 3) := by decide +kernel
theorem dX1_readItem_130 : decode cX1_readItem 130 = .ok (.iconst 1, 1) := by decide +kernel
theorem dX1_readItem_131 : decode cX1_readItem 131 = .ok (.iadd, 1) := by decide +kernel
theorem dX1_readItem_132 : decode cX1_readItem 132 = .ok (.putfield 26, 3) := by decide +kernel
theorem dX1_readItem_135 : decode cX1_readItem 135 = .ok (.iload_n 1, 1) := by decide +kernel
theorem dX1_readItem_136 : decode cX1_readItem 136 = .ok (.ireturn, 1) := by decide +kernel
theorem dX1_readFact_0 : decode cX1_readFact 0 = .ok (.aload_n 0, 1) := by decide +kernel
theorem dX1_readFact_1 : decode cX1_readFact 1 = .ok (.ldc 87, 2) := by decide +kernel
theorem dX1_readFact_3 : decode cX1_readFact 3 = .ok (.aload_n 0, 1) := by decide +kernel
theorem dX1_readFact_4 : decode cX1_readFact 4 = .ok (.getfield 15, 3) := by decide +kernel
theorem dX1_readFact_7 : decode cX1_readFact 7 = .ok (.getfield 89, 3) := by decide +kernel
theorem dX1_readFact_10 : decode cX1_readFact 10 = .ok (.bipush 6, 2) := by decide +kernel
theorem dX1_readFact_12 : decode cX1_readFact 12 = .ok (.if_icmp .ge 7, 3) := by decide +kernel
theorem dX1_readFact_15 : decode cX1_readFact 15 = .ok (.iconst 1, 1) := by decide +kernel
theorem dX1_readFact_16 : decode cX1_readFact 16 = .ok (.goto 4, 3) := by decide +kernel
theorem dX1_readFact_19 : decode cX1_readFact 19 = .ok (.iconst 0, 1) := by decide +kernel
theorem dX1_readFact_20 : decode cX1_readFact 20 = .ok (.invokevirtual 94, 3) := by decide +kernel
theorem dX1_readFact_23 : decode cX1_readFact 23 = .ok (.ifCond .eq 13, 3) := by decide +kernel
theorem dX1_readFact_26 : decode cX1_readFact 26 = .ok (.aload_n 0, 1) := by decide +kernel
theorem dX1_readFact_27 : decode cX1_readFact 27 = .ok (.iconst 0, 1) := by decide +kernel
theorem dX1_readFact_28 : decode cX1_readFact 28 = .ok (.bipush 99, 2) := by decide +kernel
theorem dX1_readFact_30 : decode cX1_readFact 30 = .ok (.invokevirtual 98, 3) := by decide +kernel
theorem dX1_readFact_33 : decode cX1_readFact 33 = .ok (.ifCond .ne 5, 3) := by decide +kernel
theorem dX1_readFact_36 : decode cX1_readFact 36 = .ok (.iconst 0, 1) := by decide +kernel
theorem dX1_readFact_37 : decode cX1_readFact 37 = .ok (.ireturn, 1) := by decide +kernel
theorem dX1_readFact_38 : decode cX1_readFact 38 = .ok (.aload_n 0, 1) := by decide +kernel
theorem dX1_readFact_39 : decode cX1_readFact 39 = .ok (.getfield 15, 3) := by decide +kernel
theorem dX1_readFact_42 : decode cX1_readFact 42 = .ok (.aload_n 0, 1) := by decide +kernel
theorem dX1_readFact_43 : decode cX1_readFact 43 = .ok (.getfield 29, 3) := by decide +kernel
theorem dX1_readFact_46 : decode cX1_readFact 46 = .ok (.invokevirtual 102, 3) := by decide +kernel
theorem dX1_readFact_49 : decode cX1_readFact 49 = .ok (.iconst 1, 1) := by decide +kernel
theorem dX1_readFact_50 : decode cX1_readFact 50 = .ok (.ireturn, 1) := by decide +kernel
theorem dX1_readMan_0 : decode cX1_readMan 0 = .ok (.aload_n 0, 1) := by decide +kernel
theorem dX1_readMan_1 : decode cX1_readMan 1 = .ok (.ldc 106, 2) := by decide +kernel
theorem dX1_readMan_3 : decode cX1_readMan 3 = .ok (.aload_n 0, 1) := by decide +kernel
theorem dX1_readMan_4 : decode cX1_readMan 4 = .ok (.getfield 15, 3) := by decide +kernel
theorem dX1_readMan_7 : decode cX1_readMan 7 = .ok (.getfield 108, 3) := by decide +kernel
theorem dX1_readMan_10 : decode cX1_readMan 10 = .ok (.bipush 6, 2) := by decide +kernel
theorem dX1_readMan_12 : decode cX1_readMan 12 = .ok (.if_icmp .ge 7, 3) := by decide +kernel
theorem dX1_readMan_15 : decode cX1_readMan 15 = .ok (.iconst 1, 1) := by decide +kernel
theorem dX1_readMan_16 : decode cX1_readMan 16 = .ok (.goto 4, 3) := by decide +kernel
theorem dX1_readMan_19 : decode cX1_readMan 19 = .ok (.iconst 0, 1) := by decide +kernel
theorem dX1_readMan_20 : decode cX1_readMan 20 = .ok (.invokevirtual 94, 3) := by decide +kernel
theorem dX1_readMan_23 : decode cX1_readMan 23 = .ok (.ifCond .eq 13, 3) := by decide +kernel
theorem dX1_readMan_26 : decode cX1_readMan 26 = .ok (.aload_n 0, 1) := by decide +kernel
theorem dX1_readMan_27 : decode cX1_readMan 27 = .ok (.iconst 0, 1) := by decide +kernel
theorem dX1_readMan_28 : decode cX1_readMan 28 = .ok (.bipush 6, 2) := by decide +kernel
theorem dX1_readMan_30 : decode cX1_readMan 30 = .ok (.invokevirtual 98, 3) := by decide +kernel
theorem dX1_readMan_33 : decode cX1_readMan 33 = .ok (.ifCond .ne 5, 3) := by decide +kernel
theorem dX1_readMan_36 : decode cX1_readMan 36 = .ok (.iconst 0, 1) := by decide +kernel
theorem dX1_readMan_37 : decode cX1_readMan 37 = .ok (.ireturn, 1) := by decide +kernel
theorem dX1_readMan_38 : decode cX1_readMan 38 = .ok (.aload_n 0, 1) := by decide +kernel
theorem dX1_readMan_39 : decode cX1_readMan 39 = .ok (.getfield 29, 3) := by decide +kernel
theorem dX1_readMan_42 : decode cX1_readMan 42 = .ok (.istore_n 1, 1) := by decide +kernel
theorem dX1_readMan_43 : decode cX1_readMan 43 = .ok (.aload_n 0, 1) := by decide +kernel
theorem dX1_readMan_44 : decode cX1_readMan 44 = .ok (.bipush 32, 2) := by decide +kernel
theorem dX1_readMan_46 : decode cX1_readMan 46 = .ok (.invokevirtual 44, 3) := by decide +kernel
theorem dX1_readMan_49 : decode cX1_readMan 49 = .ok (.ifCond .eq 14, 3) := by decide +kernel
theorem dX1_readMan_52 : decode cX1_readMan 52 = .ok (.aload_n 0, 1) := by decide +kernel
theorem dX1_readMan_53 : decode cX1_readMan 53 = .ok (.iconst 0, 1) := by decide +kernel
theorem dX1_readMan_54 : decode cX1_readMan 54 = .ok (.sipush 1023, 3) := by decide +kernel
theorem dX1_readMan_57 : decode cX1_readMan 57 = .ok (.invokevirtual 98, 3) := by decide +kernel
theorem dX1_readMan_60 : decode cX1_readMan 60 = .ok (.ifCond .ne 5, 3) := by decide +kernel
theorem dX1_readMan_63 : decode cX1_readMan 63 = .ok (.iconst 0, 1) := by decide +kernel
theorem dX1_readMan_64 : decode cX1_readMan 64 = .ok (.ireturn, 1) := by decide +kernel
theorem dX1_readMan_65 : decode cX1_readMan 65 = .ok (.aload_n 0, 1) := by decide +kernel
theorem dX1_readMan_66 : decode cX1_readMan 66 = .ok (.getfield 15, 3) := by decide +kernel
theorem dX1_readMan_69 : decode cX1_readMan 69 = .ok (.iload_n 1, 1) := by decide +kernel
theorem dX1_readMan_70 : decode cX1_readMan 70 = .ok (.aload_n 0, 1) := by decide +kernel
theorem dX1_readMan_71 : decode cX1_readMan 71 = .ok (.getfield 29, 3) := by decide +kernel
theorem dX1_readMan_74 : decode cX1_readMan 74 = .ok (.invokevirtual 111, 3) := by decide +kernel
theorem dX1_readMan_77 : decode cX1_readMan 77 = .ok (.iconst 1, 1) := by decide +kernel
theorem dX1_readMan_78 : decode cX1_readMan 78 = .ok (.ireturn, 1) := by decide +kernel
theorem dX1_readLaw_0 : decode cX1_readLaw 0 = .ok (.aload_n 0, 1) := by decide +kernel
theorem dX1_readLaw_1 : decode cX1_readLaw 1 = .ok (.ldc 115, 2) := by decide +kernel
theorem dX1_readLaw_3 : decode cX1_readLaw 3 = .ok (.aload_n 0, 1) := by decide +kernel
theorem dX1_readLaw_4 : decode cX1_readLaw 4 = .ok (.getfield 15, 3) := by decide +kernel
theorem dX1_readLaw_7 : decode cX1_readLaw 7 = .ok (.getfield 117, 3) := by decide +kernel
theorem dX1_readLaw_10 : decode cX1_readLaw 10 = .ok (.ifCond .ne 7, 3) := by decide +kernel
theorem dX1_readLaw_13 : decode cX1_readLaw 13 = .ok (.iconst 1, 1) := by decide +kernel
theorem dX1_readLaw_14 : decode cX1_readLaw 14 = .ok (.goto 4, 3) := by decide +kernel
theorem dX1_readLaw_17 : decode cX1_readLaw 17 = .ok (.iconst 0, 1) := by decide +kernel
theorem dX1_readLaw_18 : decode cX1_readLaw 18 = .ok (.invokevirtual 94, 3) := by decide +kernel
theorem dX1_readLaw_21 : decode cX1_readLaw 21 = .ok (.ifCond .eq 13, 3) := by decide +kernel
theorem dX1_readLaw_24 : decode cX1_readLaw 24 = .ok (.aload_n 0, 1) := by decide +kernel
theorem dX1_readLaw_25 : decode cX1_readLaw 25 = .ok (.iconst 2, 1) := by decide +kernel
theorem dX1_readLaw_26 : decode cX1_readLaw 26 = .ok (.bipush 10, 2) := by decide +kernel
theorem dX1_readLaw_28 : decode cX1_readLaw 28 = .ok (.invokevirtual 98, 3) := by decide +kernel
theorem dX1_readLaw_31 : decode cX1_readLaw 31 = .ok (.ifCond .ne 5, 3) := by decide +kernel
theorem dX1_readLaw_34 : decode cX1_readLaw 34 = .ok (.iconst 0, 1) := by decide +kernel
theorem dX1_readLaw_35 : decode cX1_readLaw 35 = .ok (.ireturn, 1) := by decide +kernel
theorem dX1_readLaw_36 : decode cX1_readLaw 36 = .ok (.aload_n 0, 1) := by decide +kernel
theorem dX1_readLaw_37 : decode cX1_readLaw 37 = .ok (.getfield 29, 3) := by decide +kernel
theorem dX1_readLaw_40 : decode cX1_readLaw 40 = .ok (.istore_n 1, 1) := by decide +kernel
theorem dX1_readLaw_41 : decode cX1_readLaw 41 = .ok (.aload_n 0, 1) := by decide +kernel
theorem dX1_readLaw_42 : decode cX1_readLaw 42 = .ok (.bipush 32, 2) := by decide +kernel
theorem dX1_readLaw_44 : decode cX1_readLaw 44 = .ok (.invokevirtual 44, 3) := by decide +kernel
theorem dX1_readLaw_47 : decode cX1_readLaw 47 = .ok (.ifCond .eq 12, 3) := by decide +kernel
theorem dX1_readLaw_50 : decode cX1_readLaw 50 = .ok (.aload_n 0, 1) := by decide +kernel
theorem dX1_readLaw_51 : decode cX1_readLaw 51 = .ok (.iconst 0, 1) := by decide +kernel
theorem dX1_readLaw_52 : decode cX1_readLaw 52 = .ok (.iload_n 1, 1) := by decide +kernel
theorem dX1_readLaw_53 : decode cX1_readLaw 53 = .ok (.invokevirtual 98, 3) := by decide +kernel
theorem dX1_readLaw_56 : decode cX1_readLaw 56 = .ok (.ifCond .ne 5, 3) := by decide +kernel
theorem dX1_readLaw_59 : decode cX1_readLaw 59 = .ok (.iconst 0, 1) := by decide +kernel
theorem dX1_readLaw_60 : decode cX1_readLaw 60 = .ok (.ireturn, 1) := by decide +kernel
theorem dX1_readLaw_61 : decode cX1_readLaw 61 = .ok (.aload_n 0, 1) := by decide +kernel
theorem dX1_readLaw_62 : decode cX1_readLaw 62 = .ok (.getfield 15, 3) := by decide +kernel
theorem dX1_readLaw_65 : decode cX1_readLaw 65 = .ok (.iload_n 1, 1) := by decide +kernel
theorem dX1_readLaw_66 : decode cX1_readLaw 66 = .ok (.putfield 120, 3) := by decide +kernel
theorem dX1_readLaw_69 : decode cX1_readLaw 69 = .ok (.aload_n 0, 1) := by decide +kernel
theorem dX1_readLaw_70 : decode cX1_readLaw 70 = .ok (.getfield 15, 3) := by decide +kernel
theorem dX1_readLaw_73 : decode cX1_readLaw 73 = .ok (.aload_n 0, 1) := by decide +kernel
theorem dX1_readLaw_74 : decode cX1_readLaw 74 = .ok (.getfield 29, 3) := by decide +kernel
theorem dX1_readLaw_77 : decode cX1_readLaw 77 = .ok (.putfield 123, 3) := by decide +kernel
theorem dX1_readLaw_80 : decode cX1_readLaw 80 = .ok (.iconst 1, 1) := by decide +kernel
theorem dX1_readLaw_81 : decode cX1_readLaw 81 = .ok (.ireturn, 1) := by decide +kernel
theorem dX1_readSays_0 : decode cX1_readSays 0 = .ok (.aload_n 0, 1) := by decide +kernel
theorem dX1_readSays_1 : decode cX1_readSays 1 = .ok (.ldc 126, 2) := by decide +kernel
theorem dX1_readSays_3 : decode cX1_readSays 3 = .ok (.aload_n 0, 1) := by decide +kernel
theorem dX1_readSays_4 : decode cX1_readSays 4 = .ok (.getfield 15, 3) := by decide +kernel
theorem dX1_readSays_7 : decode cX1_readSays 7 = .ok (.getfield 117, 3) := by decide +kernel
theorem dX1_readSays_10 : decode cX1_readSays 10 = .ok (.bipush 24, 2) := by decide +kernel
theorem dX1_readSays_12 : decode cX1_readSays 12 = .ok (.if_icmp .ge 7, 3) := by decide +kernel
theorem dX1_readSays_15 : decode cX1_readSays 15 = .ok (.iconst 1, 1) := by decide +kernel
theorem dX1_readSays_16 : decode cX1_readSays 16 = .ok (.goto 4, 3) := by decide +kernel
theorem dX1_readSays_19 : decode cX1_readSays 19 = .ok (.iconst 0, 1) := by decide +kernel
theorem dX1_readSays_20 : decode cX1_readSays 20 = .ok (.invokevirtual 94, 3) := by decide +kernel
theorem dX1_readSays_23 : decode cX1_readSays 23 = .ok (.ifCond .eq 20, 3) := by decide +kernel
theorem dX1_readSays_26 : decode cX1_readSays 26 = .ok (.aload_n 0, 1) := by decide +kernel
theorem dX1_readSays_27 : decode cX1_readSays 27 = .ok (.iconst 0, 1) := by decide +kernel
theorem dX1_readSays_28 : decode cX1_readSays 28 = .ok (.aload_n 0, 1) := by decide +kernel
theorem dX1_readSays_29 : decode cX1_readSays 29 = .ok (.getfield 15, 3) := by decide +kernel
theorem dX1_readSays_32 : decode cX1_readSays 32 = .ok (.getfield 108, 3) := by decide +kernel
theorem dX1_readSays_35 : decode cX1_readSays 35 = .ok (.iconst 1, 1) := by decide +kernel
theorem dX1_readSays_36 : decode cX1_readSays 36 = .ok (.isub, 1) := by decide +kernel
theorem dX1_readSays_37 : decode cX1_readSays 37 = .ok (.invokevirtual 98, 3) := by decide +kernel
theorem dX1_readSays_40 : decode cX1_readSays 40 = .ok (.ifCond .ne 5, 3) := by decide +kernel
theorem dX1_readSays_43 : decode cX1_readSays 43 = .ok (.iconst 0, 1) := by decide +kernel
theorem dX1_readSays_44 : decode cX1_readSays 44 = .ok (.ireturn, 1) := by decide +kernel
theorem dX1_readSays_45 : decode cX1_readSays 45 = .ok (.aload_n 0, 1) := by decide +kernel
theorem dX1_readSays_46 : decode cX1_readSays 46 = .ok (.getfield 29, 3) := by decide +kernel
theorem dX1_readSays_49 : decode cX1_readSays 49 = .ok (.istore_n 1, 1) := by decide +kernel
theorem dX1_readSays_50 : decode cX1_readSays 50 = .ok (.aload_n 0, 1) := by decide +kernel
theorem dX1_readSays_51 : decode cX1_readSays 51 = .ok (.getfield 15, 3) := by decide +kernel
theorem dX1_readSays_54 : decode cX1_readSays 54 = .ok (.iload_n 1, 1) := by decide +kernel
theorem dX1_readSays_55 : decode cX1_readSays 55 = .ok (.invokevirtual 128, 3) := by decide +kernel
theorem dX1_readSays_58 : decode cX1_readSays 58 = .ok (.ifCond .eq 12, 3) := by decide +kernel
theorem dX1_readSays_61 : decode cX1_readSays 61 = .ok (.aload_n 0, 1) := by decide +kernel
theorem dX1_readSays_62 : decode cX1_readSays 62 = .ok (.aload_n 0, 1) := by decide +kernel
theorem dX1_readSays_63 : decode cX1_readSays 63 = .ok (.getfield 32, 3) := by decide +kernel
theorem dX1_readSays_66 : decode cX1_readSays 66 = .ok (.invokevirtual 56, 3) := by decide +kernel
theorem dX1_readSays_69 : decode cX1_readSays 69 = .ok (.ireturn, 1) := by decide +kernel
theorem dX1_readSays_70 : decode cX1_readSays 70 = .ok (.aload_n 0, 1) := by decide +kernel
theorem dX1_readSays_71 : decode cX1_readSays 71 = .ok (.bipush 32, 2) := by decide +kernel
theorem dX1_readSays_73 : decode cX1_readSays 73 = .ok (.invokevirtual 44, 3) := by decide +kernel
theorem dX1_readSays_76 : decode cX1_readSays 76 = .ok (.ifCond .eq 20, 3) := by decide +kernel
theorem dX1_readSays_79 : decode cX1_readSays 79 = .ok (.aload_n 0, 1) := by decide +kernel
theorem dX1_readSays_80 : decode cX1_readSays 80 = .ok (.iconst 0, 1) := by decide +kernel
theorem dX1_readSays_81 : decode cX1_readSays 81 = .ok (.aload_n 0, 1) := by decide +kernel
theorem dX1_readSays_82 : decode cX1_readSays 82 = .ok (.getfield 15, 3) := by decide +kernel
theorem dX1_readSays_85 : decode cX1_readSays 85 = .ok (.getfield 89, 3) := by decide +kernel
theorem dX1_readSays_88 : decode cX1_readSays 88 = .ok (.iconst 1, 1) := by decide +kernel
theorem dX1_readSays_89 : decode cX1_readSays 89 = .ok (.isub, 1) := by decide +kernel
theorem dX1_readSays_90 : decode cX1_readSays 90 = .ok (.invokevirtual 98, 3) := by decide +kernel
theorem dX1_readSays_93 : decode cX1_readSays 93 = .ok (.ifCond .ne 5, 3) := by decide +kernel
theorem dX1_readSays_96 : decode cX1_readSays 96 = .ok (.iconst 0, 1) := by decide +kernel
theorem dX1_readSays_97 : decode cX1_readSays 97 = .ok (.ireturn, 1) := by decide +kernel
theorem dX1_readSays_98 : decode cX1_readSays 98 = .ok (.aload_n 0, 1) := by decide +kernel
theorem dX1_readSays_99 : decode cX1_readSays 99 = .ok (.getfield 29, 3) := by decide +kernel
theorem dX1_readSays_102 : decode cX1_readSays 102 = .ok (.istore_n 2, 1) := by decide +kernel
theorem dX1_readSays_103 : decode cX1_readSays 103 = .ok (.aload_n 0, 1) := by decide +kernel
theorem dX1_readSays_104 : decode cX1_readSays 104 = .ok (.bipush 32, 2) := by decide +kernel
theorem dX1_readSays_106 : decode cX1_readSays 106 = .ok (.invokevirtual 44, 3) := by decide +kernel
theorem dX1_readSays_109 : decode cX1_readSays 109 = .ok (.ifCond .eq 12, 3) := by decide +kernel
theorem dX1_readSays_112 : decode cX1_readSays 112 = .ok (.aload_n 0, 1) := by decide +kernel
theorem dX1_readSays_113 : decode cX1_readSays 113 = .ok (.iconst 0, 1) := by decide +kernel
theorem dX1_readSays_114 : decode cX1_readSays 114 = .ok (.iconst 1, 1) := by decide +kernel
theorem dX1_readSays_115 : decode cX1_readSays 115 = .ok (.invokevirtual 98, 3) := by decide +kernel
theorem dX1_readSays_118 : decode cX1_readSays 118 = .ok (.ifCond .ne 5, 3) := by decide +kernel
theorem dX1_readSays_121 : decode cX1_readSays 121 = .ok (.iconst 0, 1) := by decide +kernel
theorem dX1_readSays_122 : decode cX1_readSays 122 = .ok (.ireturn, 1) := by decide +kernel
theorem dX1_readSays_123 : decode cX1_readSays 123 = .ok (.aload_n 0, 1) := by decide +kernel
theorem dX1_readSays_124 : decode cX1_readSays 124 = .ok (.getfield 29, 3) := by decide +kernel
theorem dX1_readSays_127 : decode cX1_readSays 127 = .ok (.iconst 1, 1) := by decide +kernel
theorem dX1_readSays_128 : decode cX1_readSays 128 = .ok (.if_icmp .ne 7, 3) := by decide +kernel
theorem dX1_readSays_131 : decode cX1_readSays 131 = .ok (.iconst 1, 1) := by decide +kernel
theorem dX1_readSays_132 : decode cX1_readSays 132 = .ok (.goto 4, 3) := by decide +kernel
theorem dX1_readSays_135 : decode cX1_readSays 135 = .ok (.iconst 0, 1) := by decide +kernel
theorem dX1_readSays_136 : decode cX1_readSays 136 = .ok (.istore_n 3, 1) := by decide +kernel
theorem dX1_readSays_137 : decode cX1_readSays 137 = .ok (.aload_n 0, 1) := by decide +kernel
theorem dX1_readSays_138 : decode cX1_readSays 138 = .ok (.getfield 15, 3) := by decide +kernel
theorem dX1_readSays_141 : decode cX1_readSays 141 = .ok (.iload_n 1, 1) := by decide +kernel
theorem dX1_readSays_142 : decode cX1_readSays 142 = .ok (.iload_n 2, 1) := by decide +kernel
theorem dX1_readSays_143 : decode cX1_readSays 143 = .ok (.iload_n 3, 1) := by decide +kernel
theorem dX1_readSays_144 : decode cX1_readSays 144 = .ok (.aload_n 0, 1) := by decide +kernel
theorem dX1_readSays_145 : decode cX1_readSays 145 = .ok (.getfield 15, 3) := by decide +kernel
theorem dX1_readSays_148 : decode cX1_readSays 148 = .ok (.ldc2_w 131, 3) := by decide +kernel
theorem dX1_readSays_151 : decode cX1_readSays 151 = .ok (.invokevirtual 133, 3) := by decide +kernel
theorem dX1_readSays_154 : decode cX1_readSays 154 = .ok (.invokevirtual 137, 3) := by decide +kernel
theorem dX1_readSays_157 : decode cX1_readSays 157 = .ok (.lconst 0, 1) := by decide +kernel
theorem dX1_readSays_158 : decode cX1_readSays 158 = .ok (.lcmp, 1) := by decide +kernel
theorem dX1_readSays_159 : decode cX1_readSays 159 = .ok (.ifCond .ne 12, 3) := by decide +kernel
theorem dX1_readSays_162 : decode cX1_readSays 162 = .ok (.aload_n 0, 1) := by decide +kernel
theorem dX1_readSays_163 : decode cX1_readSays 163 = .ok (.aload_n 0, 1) := by decide +kernel
theorem dX1_readSays_164 : decode cX1_readSays 164 = .ok (.getfield 32, 3) := by decide +kernel
theorem dX1_readSays_167 : decode cX1_readSays 167 = .ok (.invokevirtual 56, 3) := by decide +kernel
theorem dX1_readSays_170 : decode cX1_readSays 170 = .ok (.ireturn, 1) := by decide +kernel
theorem dX1_readSays_171 : decode cX1_readSays 171 = .ok (.aload_n 0, 1) := by decide +kernel
theorem dX1_readSays_172 : decode cX1_readSays 172 = .ok (.getfield 15, 3) := by decide +kernel
theorem dX1_readSays_175 : decode cX1_readSays 175 = .ok (.iload_n 1, 1) := by decide +kernel
theorem dX1_readSays_176 : decode cX1_readSays 176 = .ok (.iload_n 2, 1) := by decide +kernel
theorem dX1_readSays_177 : decode cX1_readSays 177 = .ok (.iload_n 3, 1) := by decide +kernel
theorem dX1_readSays_178 : decode cX1_readSays 178 = .ok (.invokevirtual 141, 3) := by decide +kernel
theorem dX1_readSays_181 : decode cX1_readSays 181 = .ok (.iconst 1, 1) := by decide +kernel
theorem dX1_readSays_182 : decode cX1_readSays 182 = .ok (.ireturn, 1) := by decide +kernel
theorem dX1_readKnown_0 : decode cX1_readKnown 0 = .ok (.aload_n 0, 1) := by decide +kernel
theorem dX1_readKnown_1 : decode cX1_readKnown 1 = .ok (.ldc 145, 2) := by decide +kernel
theorem dX1_readKnown_3 : decode cX1_readKnown 3 = .ok (.iconst 1, 1) := by decide +kernel
theorem dX1_readKnown_4 : decode cX1_readKnown 4 = .ok (.invokevirtual 94, 3) := by decide +kernel
theorem dX1_readKnown_7 : decode cX1_readKnown 7 = .ok (.ifCond .eq 20, 3) := by decide +kernel
theorem dX1_readKnown_10 : decode cX1_readKnown 10 = .ok (.aload_n 0, 1) := by decide +kernel
theorem dX1_readKnown_11 : decode cX1_readKnown 11 = .ok (.iconst 0, 1) := by decide +kernel
theorem dX1_readKnown_12 : decode cX1_readKnown 12 = .ok (.aload_n 0, 1) := by decide +kernel
theorem dX1_readKnown_13 : decode cX1_readKnown 13 = .ok (.getfield 15, 3) := by decide +kernel
theorem dX1_readKnown_16 : decode cX1_readKnown 16 = .ok (.getfield 89, 3) := by decide +kernel
theorem dX1_readKnown_19 : decode cX1_readKnown 19 = .ok (.iconst 1, 1) := by decide +kernel
theorem dX1_readKnown_20 : decode cX1_readKnown 20 = .ok (.isub, 1) := by decide +kernel
theorem dX1_readKnown_21 : decode cX1_readKnown 21 = .ok (.invokevirtual 98, 3) := by decide +kernel
theorem dX1_readKnown_24 : decode cX1_readKnown 24 = .ok (.ifCond .ne 5, 3) := by decide +kernel
theorem dX1_readKnown_27 : decode cX1_readKnown 27 = .ok (.iconst 0, 1) := by decide +kernel
theorem dX1_readKnown_28 : decode cX1_readKnown 28 = .ok (.ireturn, 1) := by decide +kernel
theorem dX1_readKnown_29 : decode cX1_readKnown 29 = .ok (.aload_n 0, 1) := by decide +kernel
theorem dX1_readKnown_30 : decode cX1_readKnown 30 = .ok (.getfield 29, 3) := by decide +kernel
theorem dX1_readKnown_33 : decode cX1_readKnown 33 = .ok (.istore_n 1, 1) := by decide +kernel
theorem dX1_readKnown_34 : decode cX1_readKnown 34 = .ok (.aload_n 0, 1) := by decide +kernel
theorem dX1_readKnown_35 : decode cX1_readKnown 35 = .ok (.bipush 32, 2) := by decide +kernel
theorem dX1_readKnown_37 : decode cX1_readKnown 37 = .ok (.invokevirtual 44, 3) := by decide +kernel
theorem dX1_readKnown_40 : decode cX1_readKnown 40 = .ok (.ifCond .eq 12, 3) := by decide +kernel
theorem dX1_readKnown_43 : decode cX1_readKnown 43 = .ok (.aload_n 0, 1) := by decide +kernel
theorem dX1_readKnown_44 : decode cX1_readKnown 44 = .ok (.iconst 0, 1) := by decide +kernel
theorem dX1_readKnown_45 : decode cX1_readKnown 45 = .ok (.iconst 1, 1) := by decide +kernel
theorem dX1_readKnown_46 : decode cX1_readKnown 46 = .ok (.invokevirtual 98, 3) := by decide +kernel
theorem dX1_readKnown_49 : decode cX1_readKnown 49 = .ok (.ifCond .ne 5, 3) := by decide +kernel
theorem dX1_readKnown_52 : decode cX1_readKnown 52 = .ok (.iconst 0, 1) := by decide +kernel
theorem dX1_readKnown_53 : decode cX1_readKnown 53 = .ok (.ireturn, 1) := by decide +kernel
theorem dX1_readKnown_54 : decode cX1_readKnown 54 = .ok (.aload_n 0, 1) := by decide +kernel
theorem dX1_readKnown_55 : decode cX1_readKnown 55 = .ok (.getfield 29, 3) := by decide +kernel
theorem dX1_readKnown_58 : decode cX1_readKnown 58 = .ok (.iconst 1, 1) := by decide +kernel
theorem dX1_readKnown_59 : decode cX1_readKnown 59 = .ok (.if_icmp .ne 7, 3) := by decide +kernel
theorem dX1_readKnown_62 : decode cX1_readKnown 62 = .ok (.iconst 1, 1) := by decide +kernel
theorem dX1_readKnown_63 : decode cX1_readKnown 63 = .ok (.goto 4, 3) := by decide +kernel
theorem dX1_readKnown_66 : decode cX1_readKnown 66 = .ok (.iconst 0, 1) := by decide +kernel
theorem dX1_readKnown_67 : decode cX1_readKnown 67 = .ok (.istore_n 2, 1) := by decide +kernel
theorem dX1_readKnown_68 : decode cX1_readKnown 68 = .ok (.aload_n 0, 1) := by decide +kernel
theorem dX1_readKnown_69 : decode cX1_readKnown 69 = .ok (.getfield 15, 3) := by decide +kernel
theorem dX1_readKnown_72 : decode cX1_readKnown 72 = .ok (.ldc2_w 131, 3) := by decide +kernel
theorem dX1_readKnown_75 : decode cX1_readKnown 75 = .ok (.invokevirtual 133, 3) := by decide +kernel
theorem dX1_readKnown_78 : decode cX1_readKnown 78 = .ok (.iload_n 1, 1) := by decide +kernel
theorem dX1_readKnown_79 : decode cX1_readKnown 79 = .ok (.iload_n 2, 1) := by decide +kernel
theorem dX1_readKnown_80 : decode cX1_readKnown 80 = .ok (.invokestatic 147, 3) := by decide +kernel
theorem dX1_readKnown_83 : decode cX1_readKnown 83 = .ok (.land, 1) := by decide +kernel
theorem dX1_readKnown_84 : decode cX1_readKnown 84 = .ok (.lconst 0, 1) := by decide +kernel
theorem dX1_readKnown_85 : decode cX1_readKnown 85 = .ok (.lcmp, 1) := by decide +kernel
theorem dX1_readKnown_86 : decode cX1_readKnown 86 = .ok (.ifCond .ne 12, 3) := by decide +kernel
theorem dX1_readKnown_89 : decode cX1_readKnown 89 = .ok (.aload_n 0, 1) := by decide +kernel
theorem dX1_readKnown_90 : decode cX1_readKnown 90 = .ok (.aload_n 0, 1) := by decide +kernel
theorem dX1_readKnown_91 : decode cX1_readKnown 91 = .ok (.getfield 32, 3) := by decide +kernel
theorem dX1_readKnown_94 : decode cX1_readKnown 94 = .ok (.invokevirtual 56, 3) := by decide +kernel
theorem dX1_readKnown_97 : decode cX1_readKnown 97 = .ok (.ireturn, 1) := by decide +kernel
theorem dX1_readKnown_98 : decode cX1_readKnown 98 = .ok (.aload_n 0, 1) := by decide +kernel
theorem dX1_readKnown_99 : decode cX1_readKnown 99 = .ok (.getfield 15, 3) := by decide +kernel
theorem dX1_readKnown_102 : decode cX1_readKnown 102 = .ok (.iload_n 1, 1) := by decide +kernel
theorem dX1_readKnown_103 : decode cX1_readKnown 103 = .ok (.iload_n 2, 1) := by decide +kernel
theorem dX1_readKnown_104 : decode cX1_readKnown 104 = .ok (.invokevirtual 151, 3) := by decide +kernel
theorem dX1_readKnown_107 : decode cX1_readKnown 107 = .ok (.iconst 1, 1) := by decide +kernel
theorem dX1_readKnown_108 : decode cX1_readKnown 108 = .ok (.ireturn, 1) := by decide +kernel
theorem dX2_init_0 : decode cX2_init 0 = .ok (.aload_n 0, 1) := by decide +kernel
theorem dX2_init_1 : decode cX2_init 1 = .ok (.invokespecial 3, 3) := by decide +kernel
theorem dX2_init_4 : decode cX2_init 4 = .ok (.aload_n 0, 1) := by decide +kernel
theorem dX2_init_5 : decode cX2_init 5 = .ok (.sipush 160, 3) := by decide +kernel
theorem dX2_init_8 : decode cX2_init 8 = .ok (.newarray .long, 2) := by decide +kernel
theorem dX2_init_10 : decode cX2_init 10 = .ok (.putfield 9, 3) := by decide +kernel
theorem dX2_init_13 : decode cX2_init 13 = .ok (.aload_n 0, 1) := by decide +kernel
theorem dX2_init_14 : decode cX2_init 14 = .ok (.iconst (-1), 1) := by decide +kernel
theorem dX2_init_15 : decode cX2_init 15 = .ok (.putfield 15, 3) := by decide +kernel
theorem dX2_init_18 : decode cX2_init 18 = .ok (.aload_n 0, 1) := by decide +kernel
theorem dX2_init_19 : decode cX2_init 19 = .ok (.iconst 0, 1) := by decide +kernel
theorem dX2_init_20 : decode cX2_init 20 = .ok (.putfield 19, 3) := by decide +kernel
theorem dX2_init_23 : decode cX2_init 23 = .ok (.return_, 1) := by decide +kernel
theorem dX2_isRow_0 : decode cX2_isRow 0 = .ok (.aload_n 0, 1) := by decide +kernel
theorem dX2_isRow_1 : decode cX2_isRow 1 = .ok (.getfield 15, 3) := by decide +kernel
theorem dX2_isRow_4 : decode cX2_isRow 4 = .ok (.bipush 100, 2) := by decide +kernel
theorem dX2_isRow_6 : decode cX2_isRow 6 = .ok (.if_icmp .lt 7, 3) := by decide +kernel
theorem dX2_isRow_9 : decode cX2_isRow 9 = .ok (.iconst 1, 1) := by decide +kernel
theorem dX2_isRow_10 : decode cX2_isRow 10 = .ok (.goto 4, 3) := by decide +kernel
theorem dX2_isRow_13 : decode cX2_isRow 13 = .ok (.iconst 0, 1) := by decide +kernel
theorem dX2_isRow_14 : decode cX2_isRow 14 = .ok (.ireturn, 1) := by decide +kernel
theorem dX2_isSpeaker_0 : decode cX2_isSpeaker 0 = .ok (.aload_n 0, 1) := by decide +kernel
theorem dX2_isSpeaker_1 : decode cX2_isSpeaker 1 = .ok (.getfield 15, 3) := by decide +kernel
theorem dX2_isSpeaker_4 : decode cX2_isSpeaker 4 = .ok (.iconst (-1), 1) := by decide +kernel
theorem dX2_isSpeaker_5 : decode cX2_isSpeaker 5 = .ok (.if_icmp .eq 16, 3) := by decide +kernel
theorem dX2_isSpeaker_8 : decode cX2_isSpeaker 8 = .ok (.aload_n 0, 1) := by decide +kernel
theorem dX2_isSpeaker_9 : decode cX2_isSpeaker 9 = .ok (.getfield 15, 3) := by decide +kernel
theorem dX2_isSpeaker_12 : decode cX2_isSpeaker 12 = .ok (.bipush 100, 2) := by decide +kernel
theorem dX2_isSpeaker_14 : decode cX2_isSpeaker 14 = .ok (.if_icmp .ge 7, 3) := by decide +kernel
theorem dX2_isSpeaker_17 : decode cX2_isSpeaker 17 = .ok (.iconst 1, 1) := by decide +kernel
theorem dX2_isSpeaker_18 : decode cX2_isSpeaker 18 = .ok (.goto 4, 3) := by decide +kernel
theorem dX2_isSpeaker_21 : decode cX2_isSpeaker 21 = .ok (.iconst 0, 1) := by decide +kernel
theorem dX2_isSpeaker_22 : decode cX2_isSpeaker 22 = .ok (.ireturn, 1) := by decide +kernel
theorem dX2_makeRow_0 : decode cX2_makeRow 0 = .ok (.aload_n 0, 1) := by decide +kernel
theorem dX2_makeRow_1 : decode cX2_makeRow 1 = .ok (.bipush 100, 2) := by decide +kernel
theorem dX2_makeRow_3 : decode cX2_makeRow 3 = .ok (.iload_n 1, 1) := by decide +kernel
theorem dX2_makeRow_4 : decode cX2_makeRow 4 = .ok (.iadd, 1) := by decide +kernel
theorem dX2_makeRow_5 : decode cX2_makeRow 5 = .ok (.putfield 15, 3) := by decide +kernel
theorem dX2_makeRow_8 : decode cX2_makeRow 8 = .ok (.aload_n 0, 1) := by decide +kernel
theorem dX2_makeRow_9 : decode cX2_makeRow 9 = .ok (.iload_n 2, 1) := by decide +kernel
theorem dX2_makeRow_10 : decode cX2_makeRow 10 = .ok (.sipush 160, 3) := by decide +kernel
theorem dX2_makeRow_13 : decode cX2_makeRow 13 = .ok (.invokestatic 22, 3) := by decide +kernel
theorem dX2_makeRow_16 : decode cX2_makeRow 16 = .ok (.putfield 19, 3) := by decide +kernel
theorem dX2_makeRow_19 : decode cX2_makeRow 19 = .ok (.iconst 0, 1) := by decide +kernel
theorem dX2_makeRow_20 : decode cX2_makeRow 20 = .ok (.istore_n 3, 1) := by decide +kernel
theorem dX2_makeRow_21 : decode cX2_makeRow 21 = .ok (.iload_n 3, 1) := by decide +kernel
theorem dX2_makeRow_22 : decode cX2_makeRow 22 = .ok (.aload_n 0, 1) := by decide +kernel
theorem dX2_makeRow_23 : decode cX2_makeRow 23 = .ok (.getfield 19, 3) := by decide +kernel
theorem dX2_makeRow_26 : decode cX2_makeRow 26 = .ok (.if_icmp .ge 16, 3) := by decide +kernel
theorem dX2_makeRow_29 : decode cX2_makeRow 29 = .ok (.aload_n 0, 1) := by decide +kernel
theorem dX2_makeRow_30 : decode cX2_makeRow 30 = .ok (.getfield 9, 3) := by decide +kernel
theorem dX2_makeRow_33 : decode cX2_makeRow 33 = .ok (.iload_n 3, 1) := by decide +kernel
theorem dX2_makeRow_34 : decode cX2_makeRow 34 = .ok (.lconst 0, 1) := by decide +kernel
theorem dX2_makeRow_35 : decode cX2_makeRow 35 = .ok (.lastore, 1) := by decide +kernel
theorem dX2_makeRow_36 : decode cX2_makeRow 36 = .ok (.iinc 3 1, 3) := by decide +kernel
theorem dX2_makeRow_39 : decode cX2_makeRow 39 = .ok (.goto (-18), 3) := by decide +kernel
theorem dX2_makeRow_42 : decode cX2_makeRow 42 = .ok (.return_, 1) := by decide +kernel
theorem dX2_has_0 : decode cX2_has 0 = .ok (.aload_n 0, 1) := by decide +kernel
theorem dX2_has_1 : decode cX2_has 1 = .ok (.invokevirtual 28, 3) := by decide +kernel
theorem dX2_has_4 : decode cX2_has 4 = .ok (.ifCond .eq 19, 3) := by decide +kernel
theorem dX2_has_7 : decode cX2_has 7 = .ok (.iload_n 1, 1) := by decide +kernel
theorem dX2_has_8 : decode cX2_has 8 = .ok (.ifCond .lt 15, 3) := by decide +kernel
theorem dX2_has_11 : decode cX2_has 11 = .ok (.iload_n 1, 1) := by decide +kernel
theorem dX2_has_12 : decode cX2_has 12 = .ok (.aload_n 0, 1) := by decide +kernel
theorem dX2_has_13 : decode cX2_has 13 = .ok (.getfield 19, 3) := by decide +kernel
theorem dX2_has_16 : decode cX2_has 16 = .ok (.if_icmp .ge 7, 3) := by decide +kernel
theorem dX2_has_19 : decode cX2_has 19 = .ok (.iconst 1, 1) := by decide +kernel
theorem dX2_has_20 : decode cX2_has 20 = .ok (.goto 4, 3) := by decide +kernel
theorem dX2_has_23 : decode cX2_has 23 = .ok (.iconst 0, 1) := by decide +kernel
theorem dX2_has_24 : decode cX2_has 24 = .ok (.ireturn, 1) := by decide +kernel
theorem dX2_hasPart_0 : decode cX2_hasPart 0 = .ok (.iload_n 1, 1) := by decide +kernel
theorem dX2_hasPart_1 : decode cX2_hasPart 1 = .ok (.ifCond .lt 25, 3) := by decide +kernel
theorem dX2_hasPart_4 : decode cX2_hasPart 4 = .ok (.iload_n 2, 1) := by decide +kernel
theorem dX2_hasPart_5 : decode cX2_hasPart 5 = .ok (.ifCond .lt 21, 3) := by decide +kernel
theorem dX2_hasPart_8 : decode cX2_hasPart 8 = .ok (.iload_n 1, 1) := by decide +kernel
theorem dX2_hasPart_9 : decode cX2_hasPart 9 = .ok (.i2l, 1) := by decide +kernel
theorem dX2_hasPart_10 : decode cX2_hasPart 10 = .ok (.iload_n 2, 1) := by decide +kernel
theorem dX2_hasPart_11 : decode cX2_hasPart 11 = .ok (.i2l, 1) := by decide +kernel
theorem dX2_hasPart_12 : decode cX2_hasPart 12 = .ok (.ladd, 1) := by decide +kernel
theorem dX2_hasPart_13 : decode cX2_hasPart 13 = .ok (.aload_n 0, 1) := by decide +kernel
theorem dX2_hasPart_14 : decode cX2_hasPart 14 = .ok (.getfield 19, 3) := by decide +kernel
theorem dX2_hasPart_17 : decode cX2_hasPart 17 = .ok (.i2l, 1) := by decide +kernel
theorem dX2_hasPart_18 : decode cX2_hasPart 18 = .ok (.lcmp, 1) := by decide +kernel
theorem dX2_hasPart_19 : decode cX2_hasPart 19 = .ok (.ifCond .gt 7, 3) := by decide +kernel
theorem dX2_hasPart_22 : decode cX2_hasPart 22 = .ok (.iconst 1, 1) := by decide +kernel
theorem dX2_hasPart_23 : decode cX2_hasPart 23 = .ok (.goto 4, 3) := by decide +kernel
theorem dX2_hasPart_26 : decode cX2_hasPart 26 = .ok (.iconst 0, 1) := by decide +kernel
theorem dX2_hasPart_27 : decode cX2_hasPart 27 = .ok (.ireturn, 1) := by decide +kernel
theorem dX2_put_0 : decode cX2_put 0 = .ok (.aload_n 0, 1) := by decide +kernel
theorem dX2_put_1 : decode cX2_put 1 = .ok (.getfield 15, 3) := by decide +kernel
theorem dX2_put_4 : decode cX2_put 4 = .ok (.bipush 100, 2) := by decide +kernel
theorem dX2_put_6 : decode cX2_put 6 = .ok (.isub, 1) := by decide +kernel
theorem dX2_put_7 : decode cX2_put 7 = .ok (.tableswitch 63 0 2 #[25, 38, 51], 25) := by decide +kernel
theorem dX2_put_32 : decode cX2_put 32 = .ok (.aload_n 0, 1) := by decide +kernel
theorem dX2_put_33 : decode cX2_put 33 = .ok (.getfield 9, 3) := by decide +kernel
theorem dX2_put_36 : decode cX2_put 36 = .ok (.iload_n 1, 1) := by decide +kernel
theorem dX2_put_37 : decode cX2_put 37 = .ok (.lload_n 2, 1) := by decide +kernel
theorem dX2_put_38 : decode cX2_put 38 = .ok (.l2i, 1) := by decide +kernel
theorem dX2_put_39 : decode cX2_put 39 = .ok (.i2b, 1) := by decide +kernel
theorem dX2_put_40 : decode cX2_put 40 = .ok (.i2l, 1) := by decide +kernel
theorem dX2_put_41 : decode cX2_put 41 = .ok (.lastore, 1) := by decide +kernel
theorem dX2_put_42 : decode cX2_put 42 = .ok (.goto 35, 3) := by decide +kernel
theorem dX2_put_45 : decode cX2_put 45 = .ok (.aload_n 0, 1) := by decide +kernel
theorem dX2_put_46 : decode cX2_put 46 = .ok (.getfield 9, 3) := by decide +kernel
theorem dX2_put_49 : decode cX2_put 49 = .ok (.iload_n 1, 1) := by decide +kernel
theorem dX2_put_50 : decode cX2_put 50 = .ok (.lload_n 2, 1) := by decide +kernel
theorem dX2_put_51 : decode cX2_put 51 = .ok (.l2i, 1) := by decide +kernel
theorem dX2_put_52 : decode cX2_put 52 = .ok (.i2s, 1) := by decide +kernel
theorem dX2_put_53 : decode cX2_put 53 = .ok (.i2l, 1) := by decide +kernel
theorem dX2_put_54 : decode cX2_put 54 = .ok (.lastore, 1) := by decide +kernel
theorem dX2_put_55 : decode cX2_put 55 = .ok (.goto 22, 3) := by decide +kernel
theorem dX2_put_58 : decode cX2_put 58 = .ok (.aload_n 0, 1) := by decide +kernel
theorem dX2_put_59 : decode cX2_put 59 = .ok (.getfield 9, 3) := by decide +kernel
theorem dX2_put_62 : decode cX2_put 62 = .ok (.iload_n 1, 1) := by decide +kernel
theorem dX2_put_63 : decode cX2_put 63 = .ok (.lload_n 2, 1) := by decide +kernel
theorem dX2_put_64 : decode cX2_put 64 = .ok (.l2i, 1) := by decide +kernel
theorem dX2_put_65 : decode cX2_put 65 = .ok (.i2l, 1) := by decide +kernel
theorem dX2_put_66 : decode cX2_put 66 = .ok (.lastore, 1) := by decide +kernel
theorem dX2_put_67 : decode cX2_put 67 = .ok (.goto 10, 3) := by decide +kernel
theorem dX2_put_70 : decode cX2_put 70 = .ok (.aload_n 0, 1) := by decide +kernel
theorem dX2_put_71 : decode cX2_put 71 = .ok (.getfield 9, 3) := by decide +kernel
theorem dX2_put_74 : decode cX2_put 74 = .ok (.iload_n 1, 1) := by decide +kernel
theorem dX2_put_75 : decode cX2_put 75 = .ok (.lload_n 2, 1) := by decide +kernel
theorem dX2_put_76 : decode cX2_put 76 = .ok (.lastore, 1) := by decide +kernel
theorem dX2_put_77 : decode cX2_put 77 = .ok (.return_, 1) := by decide +kernel
theorem dX2_asInt_0 : decode cX2_asInt 0 = .ok (.aload_n 0, 1) := by decide +kernel
theorem dX2_asInt_1 : decode cX2_asInt 1 = .ok (.getfield 9, 3) := by decide +kernel
theorem dX2_asInt_4 : decode cX2_asInt 4 = .ok (.iload_n 1, 1) := by decide +kernel
theorem dX2_asInt_5 : decode cX2_asInt 5 = .ok (.laload, 1) := by decide +kernel
theorem dX2_asInt_6 : decode cX2_asInt 6 = .ok (.l2i, 1) := by decide +kernel
theorem dX2_asInt_7 : decode cX2_asInt 7 = .ok (.ireturn, 1) := by decide +kernel
theorem dX3_init_0 : decode cX3_init 0 = .ok (.aload_n 0, 1) := by decide +kernel
theorem dX3_init_1 : decode cX3_init 1 = .ok (.invokespecial 3, 3) := by decide +kernel
theorem dX3_init_4 : decode cX3_init 4 = .ok (.aload_n 0, 1) := by decide +kernel
theorem dX3_init_5 : decode cX3_init 5 = .ok (.bipush 6, 2) := by decide +kernel
theorem dX3_init_7 : decode cX3_init 7 = .ok (.newarray .int, 2) := by decide +kernel
theorem dX3_init_9 : decode cX3_init 9 = .ok (.putfield 9, 3) := by decide +kernel
theorem dX3_init_12 : decode cX3_init 12 = .ok (.aload_n 0, 1) := by decide +kernel
theorem dX3_init_13 : decode cX3_init 13 = .ok (.bipush 6, 2) := by decide +kernel
theorem dX3_init_15 : decode cX3_init 15 = .ok (.newarray .int, 2) := by decide +kernel
theorem dX3_init_17 : decode cX3_init 17 = .ok (.putfield 15, 3) := by decide +kernel
theorem dX3_init_20 : decode cX3_init 20 = .ok (.aload_n 0, 1) := by decide +kernel
theorem dX3_init_21 : decode cX3_init 21 = .ok (.bipush 6, 2) := by decide +kernel
theorem dX3_init_23 : decode cX3_init 23 = .ok (.newarray .int, 2) := by decide +kernel
theorem dX3_init_25 : decode cX3_init 25 = .ok (.putfield 18, 3) := by decide +kernel
theorem dX3_init_28 : decode cX3_init 28 = .ok (.aload_n 0, 1) := by decide +kernel
theorem dX3_init_29 : decode cX3_init 29 = .ok (.bipush 6, 2) := by decide +kernel
theorem dX3_init_31 : decode cX3_init 31 = .ok (.newarray .int, 2) := by decide +kernel
theorem dX3_init_33 : decode cX3_init 33 = .ok (.putfield 21, 3) := by decide +kernel
theorem dX3_init_36 : decode cX3_init 36 = .ok (.aload_n 0, 1) := by decide +kernel
theorem dX3_init_37 : decode cX3_init 37 = .ok (.bipush 48, 2) := by decide +kernel
theorem dX3_init_39 : decode cX3_init 39 = .ok (.newarray .int, 2) := by decide +kernel
theorem dX3_init_41 : decode cX3_init 41 = .ok (.putfield 24, 3) := by decide +kernel
theorem dX3_init_44 : decode cX3_init 44 = .ok (.aload_n 0, 1) := by decide +kernel
theorem dX3_init_45 : decode cX3_init 45 = .ok (.bipush 48, 2) := by decide +kernel
theorem dX3_init_47 : decode cX3_init 47 = .ok (.newarray .int, 2) := by decide +kernel
theorem dX3_init_49 : decode cX3_init 49 = .ok (.putfield 27, 3) := by decide +kernel
theorem dX3_init_52 : decode cX3_init 52 = .ok (.aload_n 0, 1) := by decide +kernel
theorem dX3_init_53 : decode cX3_init 53 = .ok (.bipush 48, 2) := by decide +kernel
theorem dX3_init_55 : decode cX3_init 55 = .ok (.newarray .int, 2) := by decide +kernel
theorem dX3_init_57 : decode cX3_init 57 = .ok (.putfield 30, 3) := by decide +kernel
theorem dX3_init_60 : decode cX3_init 60 = .ok (.aload_n 0, 1) := by decide +kernel
theorem dX3_init_61 : decode cX3_init 61 = .ok (.bipush 48, 2) := by decide +kernel
theorem dX3_init_63 : decode cX3_init 63 = .ok (.newarray .long, 2) := by decide +kernel
theorem dX3_init_65 : decode cX3_init 65 = .ok (.putfield 33, 3) := by decide +kernel
theorem dX3_init_68 : decode cX3_init 68 = .ok (.aload_n 0, 1) := by decide +kernel
theorem dX3_init_69 : decode cX3_init 69 = .ok (.iconst 0, 1) := by decide +kernel
theorem dX3_init_70 : decode cX3_init 70 = .ok (.putfield 37, 3) := by decide +kernel
theorem dX3_init_73 : decode cX3_init 73 = .ok (.aload_n 0, 1) := by decide +kernel
theorem dX3_init_74 : decode cX3_init 74 = .ok (.iconst 0, 1) := by decide +kernel
theorem dX3_init_75 : decode cX3_init 75 = .ok (.putfield 41, 3) := by decide +kernel
theorem dX3_init_78 : decode cX3_init 78 = .ok (.aload_n 0, 1) := by decide +kernel
theorem dX3_init_79 : decode cX3_init 79 = .ok (.iconst 0, 1) := by decide +kernel
theorem dX3_init_80 : decode cX3_init 80 = .ok (.putfield 44, 3) := by decide +kernel
theorem dX3_init_83 : decode cX3_init 83 = .ok (.aload_n 0, 1) := by decide +kernel
theorem dX3_init_84 : decode cX3_init 84 = .ok (.lconst 1, 1) := by decide +kernel
theorem dX3_init_85 : decode cX3_init 85 = .ok (.putfield 47, 3) := by decide +kernel
theorem dX3_init_88 : decode cX3_init 88 = .ok (.aload_n 0, 1) := by decide +kernel
theorem dX3_init_89 : decode cX3_init 89 = .ok (.iconst 4, 1) := by decide +kernel
theorem dX3_init_90 : decode cX3_init 90 = .ok (.putfield 51, 3) := by decide +kernel
theorem dX3_init_93 : decode cX3_init 93 = .ok (.aload_n 0, 1) := by decide +kernel
theorem dX3_init_94 : decode cX3_init 94 = .ok (.iconst 2, 1) := by decide +kernel
theorem dX3_init_95 : decode cX3_init 95 = .ok (.putfield 54, 3) := by decide +kernel
theorem dX3_init_98 : decode cX3_init 98 = .ok (.aload_n 0, 1) := by decide +kernel
theorem dX3_init_99 : decode cX3_init 99 = .ok (.iconst 0, 1) := by decide +kernel
theorem dX3_init_100 : decode cX3_init 100 = .ok (.putfield 57, 3) := by decide +kernel
theorem dX3_init_103 : decode cX3_init 103 = .ok (.aload_n 0, 1) := by decide +kernel
theorem dX3_init_104 : decode cX3_init 104 = .ok (.iconst 1, 1) := by decide +kernel
theorem dX3_init_105 : decode cX3_init 105 = .ok (.putfield 60, 3) := by decide +kernel
theorem dX3_init_108 : decode cX3_init 108 = .ok (.aload_n 0, 1) := by decide +kernel
theorem dX3_init_109 : decode cX3_init 109 = .ok (.iconst (-1), 1) := by decide +kernel
theorem dX3_init_110 : decode cX3_init 110 = .ok (.putfield 63, 3) := by decide +kernel
theorem dX3_init_113 : decode cX3_init 113 = .ok (.return_, 1) := by decide +kernel
theorem dX3_takeOver_0 : decode cX3_takeOver 0 = .ok (.aload_n 1, 1) := by decide +kernel
theorem dX3_takeOver_1 : decode cX3_takeOver 1 = .ok (.getfield 9, 3) := by decide +kernel
theorem dX3_takeOver_4 : decode cX3_takeOver 4 = .ok (.iconst 0, 1) := by decide +kernel
theorem dX3_takeOver_5 : decode cX3_takeOver 5 = .ok (.aload_n 0, 1) := by decide +kernel
theorem dX3_takeOver_6 : decode cX3_takeOver 6 = .ok (.getfield 9, 3) := by decide +kernel
theorem dX3_takeOver_9 : decode cX3_takeOver 9 = .ok (.iconst 0, 1) := by decide +kernel
theorem dX3_takeOver_10 : decode cX3_takeOver 10 = .ok (.bipush 6, 2) := by decide +kernel
theorem dX3_takeOver_12 : decode cX3_takeOver 12 = .ok (.invokestatic 66, 3) := by decide +kernel
theorem dX3_takeOver_15 : decode cX3_takeOver 15 = .ok (.aload_n 1, 1) := by decide +kernel
theorem dX3_takeOver_16 : decode cX3_takeOver 16 = .ok (.getfield 15, 3) := by decide +kernel
theorem dX3_takeOver_19 : decode cX3_takeOver 19 = .ok (.iconst 0, 1) := by decide +kernel
theorem dX3_takeOver_20 : decode cX3_takeOver 20 = .ok (.aload_n 0, 1) := by decide +kernel
theorem dX3_takeOver_21 : decode cX3_takeOver 21 = .ok (.getfield 15, 3) := by decide +kernel
theorem dX3_takeOver_24 : decode cX3_takeOver 24 = .ok (.iconst 0, 1) := by decide +kernel
theorem dX3_takeOver_25 : decode cX3_takeOver 25 = .ok (.bipush 6, 2) := by decide +kernel
theorem dX3_takeOver_27 : decode cX3_takeOver 27 = .ok (.invokestatic 66, 3) := by decide +kernel
theorem dX3_takeOver_30 : decode cX3_takeOver 30 = .ok (.aload_n 1, 1) := by decide +kernel
theorem dX3_takeOver_31 : decode cX3_takeOver 31 = .ok (.getfield 18, 3) := by decide +kernel
theorem dX3_takeOver_34 : decode cX3_takeOver 34 = .ok (.iconst 0, 1) := by decide +kernel
theorem dX3_takeOver_35 : decode cX3_takeOver 35 = .ok (.aload_n 0, 1) := by decide +kernel
theorem dX3_takeOver_36 : decode cX3_takeOver 36 = .ok (.getfield 18, 3) := by decide +kernel
theorem dX3_takeOver_39 : decode cX3_takeOver 39 = .ok (.iconst 0, 1) := by decide +kernel
theorem dX3_takeOver_40 : decode cX3_takeOver 40 = .ok (.bipush 6, 2) := by decide +kernel
theorem dX3_takeOver_42 : decode cX3_takeOver 42 = .ok (.invokestatic 66, 3) := by decide +kernel
theorem dX3_takeOver_45 : decode cX3_takeOver 45 = .ok (.aload_n 1, 1) := by decide +kernel
theorem dX3_takeOver_46 : decode cX3_takeOver 46 = .ok (.getfield 21, 3) := by decide +kernel
theorem dX3_takeOver_49 : decode cX3_takeOver 49 = .ok (.iconst 0, 1) := by decide +kernel
theorem dX3_takeOver_50 : decode cX3_takeOver 50 = .ok (.aload_n 0, 1) := by decide +kernel
theorem dX3_takeOver_51 : decode cX3_takeOver 51 = .ok (.getfield 21, 3) := by decide +kernel
theorem dX3_takeOver_54 : decode cX3_takeOver 54 = .ok (.iconst 0, 1) := by decide +kernel
theorem dX3_takeOver_55 : decode cX3_takeOver 55 = .ok (.bipush 6, 2) := by decide +kernel
theorem dX3_takeOver_57 : decode cX3_takeOver 57 = .ok (.invokestatic 66, 3) := by decide +kernel
theorem dX3_takeOver_60 : decode cX3_takeOver 60 = .ok (.aload_n 1, 1) := by decide +kernel
theorem dX3_takeOver_61 : decode cX3_takeOver 61 = .ok (.getfield 24, 3) := by decide +kernel
theorem dX3_takeOver_64 : decode cX3_takeOver 64 = .ok (.iconst 0, 1) := by decide +kernel
theorem dX3_takeOver_65 : decode cX3_takeOver 65 = .ok (.aload_n 0, 1) := by decide +kernel
theorem dX3_takeOver_66 : decode cX3_takeOver 66 = .ok (.getfield 24, 3) := by decide +kernel
theorem dX3_takeOver_69 : decode cX3_takeOver 69 = .ok (.iconst 0, 1) := by decide +kernel
theorem dX3_takeOver_70 : decode cX3_takeOver 70 = .ok (.bipush 48, 2) := by decide +kernel
theorem dX3_takeOver_72 : decode cX3_takeOver 72 = .ok (.invokestatic 66, 3) := by decide +kernel
theorem dX3_takeOver_75 : decode cX3_takeOver 75 = .ok (.aload_n 1, 1) := by decide +kernel
theorem dX3_takeOver_76 : decode cX3_takeOver 76 = .ok (.getfield 27, 3) := by decide +kernel
theorem dX3_takeOver_79 : decode cX3_takeOver 79 = .ok (.iconst 0, 1) := by decide +kernel
theorem dX3_takeOver_80 : decode cX3_takeOver 80 = .ok (.aload_n 0, 1) := by decide +kernel
theorem dX3_takeOver_81 : decode cX3_takeOver 81 = .ok (.getfield 27, 3) := by decide +kernel
theorem dX3_takeOver_84 : decode cX3_takeOver 84 = .ok (.iconst 0, 1) := by decide +kernel
theorem dX3_takeOver_85 : decode cX3_takeOver 85 = .ok (.bipush 48, 2) := by decide +kernel
theorem dX3_takeOver_87 : decode cX3_takeOver 87 = .ok (.invokestatic 66, 3) := by decide +kernel
theorem dX3_takeOver_90 : decode cX3_takeOver 90 = .ok (.aload_n 1, 1) := by decide +kernel
theorem dX3_takeOver_91 : decode cX3_takeOver 91 = .ok (.getfield 30, 3) := by decide +kernel
theorem dX3_takeOver_94 : decode cX3_takeOver 94 = .ok (.iconst 0, 1) := by decide +kernel
theorem dX3_takeOver_95 : decode cX3_takeOver 95 = .ok (.aload_n 0, 1) := by decide +kernel
theorem dX3_takeOver_96 : decode cX3_takeOver 96 = .ok (.getfield 30, 3) := by decide +kernel
theorem dX3_takeOver_99 : decode cX3_takeOver 99 = .ok (.iconst 0, 1) := by decide +kernel
theorem dX3_takeOver_100 : decode cX3_takeOver 100 = .ok (.bipush 48, 2) := by decide +kernel
theorem dX3_takeOver_102 : decode cX3_takeOver 102 = .ok (.invokestatic 66, 3) := by decide +kernel
theorem dX3_takeOver_105 : decode cX3_takeOver 105 = .ok (.aload_n 1, 1) := by decide +kernel
theorem dX3_takeOver_106 : decode cX3_takeOver 106 = .ok (.getfield 33, 3) := by decide +kernel
theorem dX3_takeOver_109 : decode cX3_takeOver 109 = .ok (.iconst 0, 1) := by decide +kernel
theorem dX3_takeOver_110 : decode cX3_takeOver 110 = .ok (.aload_n 0, 1) := by decide +kernel
theorem dX3_takeOver_111 : decode cX3_takeOver 111 = .ok (.getfield 33, 3) := by decide +kernel
theorem dX3_takeOver_114 : decode cX3_takeOver 114 = .ok (.iconst 0, 1) := by decide +kernel
theorem dX3_takeOver_115 : decode cX3_takeOver 115 = .ok (.bipush 48, 2) := by decide +kernel
theorem dX3_takeOver_117 : decode cX3_takeOver 117 = .ok (.invokestatic 66, 3) := by decide +kernel
theorem dX3_takeOver_120 : decode cX3_takeOver 120 = .ok (.aload_n 0, 1) := by decide +kernel
theorem dX3_takeOver_121 : decode cX3_takeOver 121 = .ok (.aload_n 1, 1) := by decide +kernel
theorem dX3_takeOver_122 : decode cX3_takeOver 122 = .ok (.getfield 37, 3) := by decide +kernel
theorem dX3_takeOver_125 : decode cX3_takeOver 125 = .ok (.putfield 37, 3) := by decide +kernel
theorem dX3_takeOver_128 : decode cX3_takeOver 128 = .ok (.aload_n 0, 1) := by decide +kernel
theorem dX3_takeOver_129 : decode cX3_takeOver 129 = .ok (.aload_n 1, 1) := by decide +kernel
theorem dX3_takeOver_130 : decode cX3_takeOver 130 = .ok (.getfield 41, 3) := by decide +kernel
theorem dX3_takeOver_133 : decode cX3_takeOver 133 = .ok (.putfield 41, 3) := by decide +kernel
theorem dX3_takeOver_136 : decode cX3_takeOver 136 = .ok (.aload_n 0, 1) := by decide +kernel
theorem dX3_takeOver_137 : decode cX3_takeOver 137 = .ok (.aload_n 1, 1) := by decide +kernel
theorem dX3_takeOver_138 : decode cX3_takeOver 138 = .ok (.getfield 44, 3) := by decide +kernel
theorem dX3_takeOver_141 : decode cX3_takeOver 141 = .ok (.putfield 44, 3) := by decide +kernel
theorem dX3_takeOver_144 : decode cX3_takeOver 144 = .ok (.aload_n 0, 1) := by decide +kernel
theorem dX3_takeOver_145 : decode cX3_takeOver 145 = .ok (.aload_n 1, 1) := by decide +kernel
theorem dX3_takeOver_146 : decode cX3_takeOver 146 = .ok (.getfield 47, 3) := by decide +kernel
theorem dX3_takeOver_149 : decode cX3_takeOver 149 = .ok (.putfield 47, 3) := by decide +kernel
theorem dX3_takeOver_152 : decode cX3_takeOver 152 = .ok (.aload_n 0, 1) := by decide +kernel
theorem dX3_takeOver_153 : decode cX3_takeOver 153 = .ok (.aload_n 1, 1) := by decide +kernel
theorem dX3_takeOver_154 : decode cX3_takeOver 154 = .ok (.getfield 51, 3) := by decide +kernel
theorem dX3_takeOver_157 : decode cX3_takeOver 157 = .ok (.putfield 51, 3) := by decide +kernel
theorem dX3_takeOver_160 : decode cX3_takeOver 160 = .ok (.aload_n 0, 1) := by decide +kernel
theorem dX3_takeOver_161 : decode cX3_takeOver 161 = .ok (.aload_n 1, 1) := by decide +kernel
theorem dX3_takeOver_162 : decode cX3_takeOver 162 = .ok (.getfield 54, 3) := by decide +kernel
theorem dX3_takeOver_165 : decode cX3_takeOver 165 = .ok (.putfield 54, 3) := by decide +kernel
theorem dX3_takeOver_168 : decode cX3_takeOver 168 = .ok (.aload_n 0, 1) := by decide +kernel
theorem dX3_takeOver_169 : decode cX3_takeOver 169 = .ok (.aload_n 1, 1) := by decide +kernel
theorem dX3_takeOver_170 : decode cX3_takeOver 170 = .ok (.getfield 57, 3) := by decide +kernel
theorem dX3_takeOver_173 : decode cX3_takeOver 173 = .ok (.putfield 57, 3) := by decide +kernel
theorem dX3_takeOver_176 : decode cX3_takeOver 176 = .ok (.aload_n 0, 1) := by decide +kernel
theorem dX3_takeOver_177 : decode cX3_takeOver 177 = .ok (.aload_n 1, 1) := by decide +kernel
theorem dX3_takeOver_178 : decode cX3_takeOver 178 = .ok (.getfield 60, 3) := by decide +kernel
theorem dX3_takeOver_181 : decode cX3_takeOver 181 = .ok (.putfield 60, 3) := by decide +kernel
theorem dX3_takeOver_184 : decode cX3_takeOver 184 = .ok (.aload_n 0, 1) := by decide +kernel
theorem dX3_takeOver_185 : decode cX3_takeOver 185 = .ok (.aload_n 1, 1) := by decide +kernel
theorem dX3_takeOver_186 : decode cX3_takeOver 186 = .ok (.getfield 63, 3) := by decide +kernel
theorem dX3_takeOver_189 : decode cX3_takeOver 189 = .ok (.putfield 63, 3) := by decide +kernel
theorem dX3_takeOver_192 : decode cX3_takeOver 192 = .ok (.return_, 1) := by decide +kernel
theorem dX3_isFact_0 : decode cX3_isFact 0 = .ok (.iload_n 1, 1) := by decide +kernel
theorem dX3_isFact_1 : decode cX3_isFact 1 = .ok (.ifCond .lt 15, 3) := by decide +kernel
theorem dX3_isFact_4 : decode cX3_isFact 4 = .ok (.iload_n 1, 1) := by decide +kernel
theorem dX3_isFact_5 : decode cX3_isFact 5 = .ok (.aload_n 0, 1) := by decide +kernel
theorem dX3_isFact_6 : decode cX3_isFact 6 = .ok (.getfield 37, 3) := by decide +kernel
theorem dX3_isFact_9 : decode cX3_isFact 9 = .ok (.if_icmp .ge 7, 3) := by decide +kernel
theorem dX3_isFact_12 : decode cX3_isFact 12 = .ok (.iconst 1, 1) := by decide +kernel
theorem dX3_isFact_13 : decode cX3_isFact 13 = .ok (.goto 4, 3) := by decide +kernel
theorem dX3_isFact_16 : decode cX3_isFact 16 = .ok (.iconst 0, 1) := by decide +kernel
theorem dX3_isFact_17 : decode cX3_isFact 17 = .ok (.ireturn, 1) := by decide +kernel
theorem dX3_isSpeaker_0 : decode cX3_isSpeaker 0 = .ok (.iload_n 1, 1) := by decide +kernel
theorem dX3_isSpeaker_1 : decode cX3_isSpeaker 1 = .ok (.ifCond .lt 15, 3) := by decide +kernel
theorem dX3_isSpeaker_4 : decode cX3_isSpeaker 4 = .ok (.iload_n 1, 1) := by decide +kernel
theorem dX3_isSpeaker_5 : decode cX3_isSpeaker 5 = .ok (.aload_n 0, 1) := by decide +kernel
theorem dX3_isSpeaker_6 : decode cX3_isSpeaker 6 = .ok (.getfield 41, 3) := by decide +kernel
theorem dX3_isSpeaker_9 : decode cX3_isSpeaker 9 = .ok (.if_icmp .ge 7, 3) := by decide +kernel
theorem dX3_isSpeaker_12 : decode cX3_isSpeaker 12 = .ok (.iconst 1, 1) := by decide +kernel
theorem dX3_isSpeaker_13 : decode cX3_isSpeaker 13 = .ok (.goto 4, 3) := by decide +kernel
theorem dX3_isSpeaker_16 : decode cX3_isSpeaker 16 = .ok (.iconst 0, 1) := by decide +kernel
theorem dX3_isSpeaker_17 : decode cX3_isSpeaker 17 = .ok (.ireturn, 1) := by decide +kernel
theorem dX3_isWorld_0 : decode cX3_isWorld 0 = .ok (.iload_n 1, 1) := by decide +kernel
theorem dX3_isWorld_1 : decode cX3_isWorld 1 = .ok (.ifCond .lt 17, 3) := by decide +kernel
theorem dX3_isWorld_4 : decode cX3_isWorld 4 = .ok (.iload_n 1, 1) := by decide +kernel
theorem dX3_isWorld_5 : decode cX3_isWorld 5 = .ok (.iconst 1, 1) := by decide +kernel
theorem dX3_isWorld_6 : decode cX3_isWorld 6 = .ok (.aload_n 0, 1) := by decide +kernel
theorem dX3_isWorld_7 : decode cX3_isWorld 7 = .ok (.getfield 37, 3) := by decide +kernel
theorem dX3_isWorld_10 : decode cX3_isWorld 10 = .ok (.ishl, 1) := by decide +kernel
theorem dX3_isWorld_11 : decode cX3_isWorld 11 = .ok (.if_icmp .ge 7, 3) := by decide +kernel
theorem dX3_isWorld_14 : decode cX3_isWorld 14 = .ok (.iconst 1, 1) := by decide +kernel
theorem dX3_isWorld_15 : decode cX3_isWorld 15 = .ok (.goto 4, 3) := by decide +kernel
theorem dX3_isWorld_18 : decode cX3_isWorld 18 = .ok (.iconst 0, 1) := by decide +kernel
theorem dX3_isWorld_19 : decode cX3_isWorld 19 = .ok (.ireturn, 1) := by decide +kernel
theorem dX3_isFull_0 : decode cX3_isFull 0 = .ok (.aload_n 0, 1) := by decide +kernel
theorem dX3_isFull_1 : decode cX3_isFull 1 = .ok (.getfield 21, 3) := by decide +kernel
theorem dX3_isFull_4 : decode cX3_isFull 4 = .ok (.iload_n 1, 1) := by decide +kernel
theorem dX3_isFull_5 : decode cX3_isFull 5 = .ok (.iaload, 1) := by decide +kernel
theorem dX3_isFull_6 : decode cX3_isFull 6 = .ok (.aload_n 0, 1) := by decide +kernel
theorem dX3_isFull_7 : decode cX3_isFull 7 = .ok (.getfield 51, 3) := by decide +kernel
theorem dX3_isFull_10 : decode cX3_isFull 10 = .ok (.if_icmp .lt 7, 3) := by decide +kernel
theorem dX3_isFull_13 : decode cX3_isFull 13 = .ok (.iconst 1, 1) := by decide +kernel
theorem dX3_isFull_14 : decode cX3_isFull 14 = .ok (.goto 4, 3) := by decide +kernel
theorem dX3_isFull_17 : decode cX3_isFull 17 = .ok (.iconst 0, 1) := by decide +kernel
theorem dX3_isFull_18 : decode cX3_isFull 18 = .ok (.ireturn, 1) := by decide +kernel
theorem dX3_isFree_0 : decode cX3_isFree 0 = .ok (.aload_n 0, 1) := by decide +kernel
theorem dX3_isFree_1 : decode cX3_isFree 1 = .ok (.getfield 15, 3) := by decide +kernel
theorem dX3_isFree_4 : decode cX3_isFree 4 = .ok (.iload_n 1, 1) := by decide +kernel
theorem dX3_isFree_5 : decode cX3_isFree 5 = .ok (.iaload, 1) := by decide +kernel
theorem dX3_isFree_6 : decode cX3_isFree 6 = .ok (.ifCond .eq 14, 3) := by decide +kernel
theorem dX3_isFree_9 : decode cX3_isFree 9 = .ok (.aload_n 0, 1) := by decide +kernel
theorem dX3_isFree_10 : decode cX3_isFree 10 = .ok (.getfield 15, 3) := by decide +kernel
theorem dX3_isFree_13 : decode cX3_isFree 13 = .ok (.iload_n 1, 1) := by decide +kernel
theorem dX3_isFree_14 : decode cX3_isFree 14 = .ok (.iaload, 1) := by decide +kernel
theorem dX3_isFree_15 : decode cX3_isFree 15 = .ok (.bipush 6, 2) := by decide +kernel
theorem dX3_isFree_17 : decode cX3_isFree 17 = .ok (.if_icmp .ne 7, 3) := by decide +kernel
theorem dX3_isFree_20 : decode cX3_isFree 20 = .ok (.iconst 1, 1) := by decide +kernel
theorem dX3_isFree_21 : decode cX3_isFree 21 = .ok (.goto 4, 3) := by decide +kernel
theorem dX3_isFree_24 : decode cX3_isFree 24 = .ok (.iconst 0, 1) := by decide +kernel
theorem dX3_isFree_25 : decode cX3_isFree 25 = .ok (.ireturn, 1) := by decide +kernel
theorem dX3_addFact_0 : decode cX3_addFact 0 = .ok (.aload_n 0, 1) := by decide +kernel
theorem dX3_addFact_1 : decode cX3_addFact 1 = .ok (.getfield 37, 3) := by decide +kernel
theorem dX3_addFact_4 : decode cX3_addFact 4 = .ok (.bipush 6, 2) := by decide +kernel
theorem dX3_addFact_6 : decode cX3_addFact 6 = .ok (.if_icmp .ge 43, 3) := by decide +kernel
theorem dX3_addFact_9 : decode cX3_addFact 9 = .ok (.aload_n 0, 1) := by decide +kernel
theorem dX3_addFact_10 : decode cX3_addFact 10 = .ok (.getfield 9, 3) := by decide +kernel
theorem dX3_addFact_13 : decode cX3_addFact 13 = .ok (.aload_n 0, 1) := by decide +kernel
theorem dX3_addFact_14 : decode cX3_addFact 14 = .ok (.getfield 37, 3) := by decide +kernel
theorem dX3_addFact_17 : decode cX3_addFact 17 = .ok (.iload_n 1, 1) := by decide +kernel
theorem dX3_addFact_18 : decode cX3_addFact 18 = .ok (.iastore, 1) := by decide +kernel
theorem dX3_addFact_19 : decode cX3_addFact 19 = .ok (.aload_n 0, 1) := by decide +kernel
theorem dX3_addFact_20 : decode cX3_addFact 20 = .ok (.dup, 1) := by decide +kernel
theorem dX3_addFact_21 : decode cX3_addFact 21 = .ok (.getfield 47, 3) := by decide +kernel
theorem dX3_addFact_24 : decode cX3_addFact 24 = .ok (.aload_n 0, 1) := by decide +kernel
theorem dX3_addFact_25 : decode cX3_addFact 25 = .ok (.getfield 47, 3) := by decide +kernel
theorem dX3_addFact_28 : decode cX3_addFact 28 = .ok (.iconst 1, 1) := by decide +kernel
theorem dX3_addFact_29 : decode cX3_addFact 29 = .ok (.aload_n 0, 1) := by decide +kernel
theorem dX3_addFact_30 : decode cX3_addFact 30 = .ok (.getfield 37, 3) := by decide +kernel
theorem dX3_addFact_33 : decode cX3_addFact 33 = .ok (.ishl, 1) := by decide +kernel
theorem dX3_addFact_34 : decode cX3_addFact 34 = .ok (.lshl, 1) := by decide +kernel
theorem dX3_addFact_35 : decode cX3_addFact 35 = .ok (.lor, 1) := by decide +kernel
theorem dX3_addFact_36 : decode cX3_addFact 36 = .ok (.putfield 47, 3) := by decide +kernel
theorem dX3_addFact_39 : decode cX3_addFact 39 = .ok (.aload_n 0, 1) := by decide +kernel
theorem dX3_addFact_40 : decode cX3_addFact 40 = .ok (.dup, 1) := by decide +kernel
theorem dX3_addFact_41 : decode cX3_addFact 41 = .ok (.getfield 37, 3) := by decide +kernel
theorem dX3_addFact_44 : decode cX3_addFact 44 = .ok (.iconst 1, 1) := by decide +kernel
theorem dX3_addFact_45 : decode cX3_addFact 45 = .ok (.iadd, 1) := by decide +kernel
theorem dX3_addFact_46 : decode cX3_addFact 46 = .ok (.putfield 37, 3) := by decide +kernel
theorem dX3_addFact_49 : decode cX3_addFact 49 = .ok (.return_, 1) := by decide +kernel
theorem dX3_addSpeaker_0 : decode cX3_addSpeaker 0 = .ok (.aload_n 0, 1) := by decide +kernel
theorem dX3_addSpeaker_1 : decode cX3_addSpeaker 1 = .ok (.getfield 41, 3) := by decide +kernel
theorem dX3_addSpeaker_4 : decode cX3_addSpeaker 4 = .ok (.bipush 6, 2) := by decide +kernel
theorem dX3_addSpeaker_6 : decode cX3_addSpeaker 6 = .ok (.if_icmp .ge 43, 3) := by decide +kernel
theorem dX3_addSpeaker_9 : decode cX3_addSpeaker 9 = .ok (.aload_n 0, 1) := by decide +kernel
theorem dX3_addSpeaker_10 : decode cX3_addSpeaker 10 = .ok (.getfield 15, 3) := by decide +kernel
theorem dX3_addSpeaker_13 : decode cX3_addSpeaker 13 = .ok (.aload_n 0, 1) := by decide +kernel
theorem dX3_addSpeaker_14 : decode cX3_addSpeaker 14 = .ok (.getfield 41, 3) := by decide +kernel
theorem dX3_addSpeaker_17 : decode cX3_addSpeaker 17 = .ok (.iload_n 1, 1) := by decide +kernel
theorem dX3_addSpeaker_18 : decode cX3_addSpeaker 18 = .ok (.iastore, 1) := by decide +kernel
theorem dX3_addSpeaker_19 : decode cX3_addSpeaker 19 = .ok (.aload_n 0, 1) := by decide +kernel
theorem dX3_addSpeaker_20 : decode cX3_addSpeaker 20 = .ok (.getfield 18, 3) := by decide +kernel
theorem dX3_addSpeaker_23 : decode cX3_addSpeaker 23 = .ok (.aload_n 0, 1) := by decide +kernel
theorem dX3_addSpeaker_24 : decode cX3_addSpeaker 24 = .ok (.getfield 41, 3) := by decide +kernel
theorem dX3_addSpeaker_27 : decode cX3_addSpeaker 27 = .ok (.iload_n 2, 1) := by decide +kernel
theorem dX3_addSpeaker_28 : decode cX3_addSpeaker 28 = .ok (.iastore, 1) := by decide +kernel
theorem dX3_addSpeaker_29 : decode cX3_addSpeaker 29 = .ok (.aload_n 0, 1) := by decide +kernel
theorem dX3_addSpeaker_30 : decode cX3_addSpeaker 30 = .ok (.getfield 21, 3) := by decide +kernel
theorem dX3_addSpeaker_33 : decode cX3_addSpeaker 33 = .ok (.aload_n 0, 1) := by decide +kernel
theorem dX3_addSpeaker_34 : decode cX3_addSpeaker 34 = .ok (.getfield 41, 3) := by decide +kernel
theorem dX3_addSpeaker_37 : decode cX3_addSpeaker 37 = .ok (.iconst 0, 1) := by decide +kernel
theorem dX3_addSpeaker_38 : decode cX3_addSpeaker 38 = .ok (.iastore, 1) := by decide +kernel
theorem dX3_addSpeaker_39 : decode cX3_addSpeaker 39 = .ok (.aload_n 0, 1) := by decide +kernel
theorem dX3_addSpeaker_40 : decode cX3_addSpeaker 40 = .ok (.dup, 1) := by decide +kernel
theorem dX3_addSpeaker_41 : decode cX3_addSpeaker 41 = .ok (.getfield 41, 3) := by decide +kernel
theorem dX3_addSpeaker_44 : decode cX3_addSpeaker 44 = .ok (.iconst 1, 1) := by decide +kernel
theorem dX3_addSpeaker_45 : decode cX3_addSpeaker 45 = .ok (.iadd, 1) := by decide +kernel
theorem dX3_addSpeaker_46 : decode cX3_addSpeaker 46 = .ok (.putfield 41, 3) := by decide +kernel
theorem dX3_addSpeaker_49 : decode cX3_addSpeaker 49 = .ok (.return_, 1) := by decide +kernel
theorem dX3_put_0 : decode cX3_put 0 = .ok (.aload_n 0, 1) := by decide +kernel
theorem dX3_put_1 : decode cX3_put 1 = .ok (.iload_n 1, 1) := by decide +kernel
theorem dX3_put_2 : decode cX3_put 2 = .ok (.bipush 100, 2) := by decide +kernel
theorem dX3_put_4 : decode cX3_put 4 = .ok (.iload_n 1, 1) := by decide +kernel
theorem dX3_put_5 : decode cX3_put 5 = .ok (.imul, 1) := by decide +kernel
theorem dX3_put_6 : decode cX3_put 6 = .ok (.bipush 10, 2) := by decide +kernel
theorem dX3_put_8 : decode cX3_put 8 = .ok (.iload_n 2, 1) := by decide +kernel
theorem dX3_put_9 : decode cX3_put 9 = .ok (.imul, 1) := by decide +kernel
theorem dX3_put_10 : decode cX3_put 10 = .ok (.iadd, 1) := by decide +kernel
theorem dX3_put_11 : decode cX3_put 11 = .ok (.iload_n 3, 1) := by decide +kernel
theorem dX3_put_12 : decode cX3_put 12 = .ok (.ifCond .eq 7, 3) := by decide +kernel
theorem dX3_put_15 : decode cX3_put 15 = .ok (.iconst 1, 1) := by decide +kernel
theorem dX3_put_16 : decode cX3_put 16 = .ok (.goto 4, 3) := by decide +kernel
theorem dX3_put_19 : decode cX3_put 19 = .ok (.iconst 0, 1) := by decide +kernel
theorem dX3_put_20 : decode cX3_put 20 = .ok (.iadd, 1) := by decide +kernel
theorem dX3_put_21 : decode cX3_put 21 = .ok (.iload_n 2, 1) := by decide +kernel
theorem dX3_put_22 : decode cX3_put 22 = .ok (.iload_n 3, 1) := by decide +kernel
theorem dX3_put_23 : decode cX3_put 23 = .ok (.invokestatic 72, 3) := by decide +kernel
theorem dX3_put_26 : decode cX3_put 26 = .ok (.invokevirtual 76, 3) := by decide +kernel
theorem dX3_put_29 : decode cX3_put 29 = .ok (.return_, 1) := by decide +kernel
theorem dX3_putTrueIn_0 : decode cX3_putTrueIn 0 = .ok (.aload_n 0, 1) := by decide +kernel
theorem dX3_putTrueIn_1 : decode cX3_putTrueIn 1 = .ok (.getfield 44, 3) := by decide +kernel
theorem dX3_putTrueIn_4 : decode cX3_putTrueIn 4 = .ok (.bipush 48, 2) := by decide +kernel
theorem dX3_putTrueIn_6 : decode cX3_putTrueIn 6 = .ok (.if_icmp .ge 68, 3) := by decide +kernel
theorem dX3_putTrueIn_9 : decode cX3_putTrueIn 9 = .ok (.aload_n 0, 1) := by decide +kernel
theorem dX3_putTrueIn_10 : decode cX3_putTrueIn 10 = .ok (.getfield 24, 3) := by decide +kernel
theorem dX3_putTrueIn_13 : decode cX3_putTrueIn 13 = .ok (.aload_n 0, 1) := by decide +kernel
theorem dX3_putTrueIn_14 : decode cX3_putTrueIn 14 = .ok (.getfield 44, 3) := by decide +kernel
theorem dX3_putTrueIn_17 : decode cX3_putTrueIn 17 = .ok (.iload_n 1, 1) := by decide +kernel
theorem dX3_putTrueIn_18 : decode cX3_putTrueIn 18 = .ok (.iastore, 1) := by decide +kernel
theorem dX3_putTrueIn_19 : decode cX3_putTrueIn 19 = .ok (.aload_n 0, 1) := by decide +kernel
theorem dX3_putTrueIn_20 : decode cX3_putTrueIn 20 = .ok (.getfield 27, 3) := by decide +kernel
theorem dX3_putTrueIn_23 : decode cX3_putTrueIn 23 = .ok (.aload_n 0, 1) := by decide +kernel
theorem dX3_putTrueIn_24 : decode cX3_putTrueIn 24 = .ok (.getfield 44, 3) := by decide +kernel
theorem dX3_putTrueIn_27 : decode cX3_putTrueIn 27 = .ok (.aload_n 0, 1) := by decide +kernel
theorem dX3_putTrueIn_28 : decode cX3_putTrueIn 28 = .ok (.getfield 21, 3) := by decide +kernel
theorem dX3_putTrueIn_31 : decode cX3_putTrueIn 31 = .ok (.iload_n 1, 1) := by decide +kernel
theorem dX3_putTrueIn_32 : decode cX3_putTrueIn 32 = .ok (.iaload, 1) := by decide +kernel
theorem dX3_putTrueIn_33 : decode cX3_putTrueIn 33 = .ok (.iastore, 1) := by decide +kernel
theorem dX3_putTrueIn_34 : decode cX3_putTrueIn 34 = .ok (.aload_n 0, 1) := by decide +kernel
theorem dX3_putTrueIn_35 : decode cX3_putTrueIn 35 = .ok (.getfield 30, 3) := by decide +kernel
theorem dX3_putTrueIn_38 : decode cX3_putTrueIn 38 = .ok (.aload_n 0, 1) := by decide +kernel
theorem dX3_putTrueIn_39 : decode cX3_putTrueIn 39 = .ok (.getfield 44, 3) := by decide +kernel
theorem dX3_putTrueIn_42 : decode cX3_putTrueIn 42 = .ok (.iload_n 2, 1) := by decide +kernel
theorem dX3_putTrueIn_43 : decode cX3_putTrueIn 43 = .ok (.iastore, 1) := by decide +kernel
theorem dX3_putTrueIn_44 : decode cX3_putTrueIn 44 = .ok (.aload_n 0, 1) := by decide +kernel
theorem dX3_putTrueIn_45 : decode cX3_putTrueIn 45 = .ok (.getfield 33, 3) := by decide +kernel
theorem dX3_putTrueIn_48 : decode cX3_putTrueIn 48 = .ok (.aload_n 0, 1) := by decide +kernel
theorem dX3_putTrueIn_49 : decode cX3_putTrueIn 49 = .ok (.getfield 44, 3) := by decide +kernel
theorem dX3_putTrueIn_52 : decode cX3_putTrueIn 52 = .ok (.lload_n 3, 1) := by decide +kernel
theorem dX3_putTrueIn_53 : decode cX3_putTrueIn 53 = .ok (.lastore, 1) := by decide +kernel
theorem dX3_putTrueIn_54 : decode cX3_putTrueIn 54 = .ok (.aload_n 0, 1) := by decide +kernel
theorem dX3_putTrueIn_55 : decode cX3_putTrueIn 55 = .ok (.getfield 21, 3) := by decide +kernel
theorem dX3_putTrueIn_58 : decode cX3_putTrueIn 58 = .ok (.iload_n 1, 1) := by decide +kernel
theorem dX3_putTrueIn_59 : decode cX3_putTrueIn 59 = .ok (.dup2, 1) := by decide +kernel
theorem dX3_putTrueIn_60 : decode cX3_putTrueIn 60 = .ok (.iaload, 1) := by decide +kernel
theorem dX3_putTrueIn_61 : decode cX3_putTrueIn 61 = .ok (.iconst 1, 1) := by decide +kernel
theorem dX3_putTrueIn_62 : decode cX3_putTrueIn 62 = .ok (.iadd, 1) := by decide +kernel
theorem dX3_putTrueIn_63 : decode cX3_putTrueIn 63 = .ok (.iastore, 1) := by decide +kernel
theorem dX3_putTrueIn_64 : decode cX3_putTrueIn 64 = .ok (.aload_n 0, 1) := by decide +kernel
theorem dX3_putTrueIn_65 : decode cX3_putTrueIn 65 = .ok (.dup, 1) := by decide +kernel
theorem dX3_putTrueIn_66 : decode cX3_putTrueIn 66 = .ok (.getfield 44, 3) := by decide +kernel
theorem dX3_putTrueIn_69 : decode cX3_putTrueIn 69 = .ok (.iconst 1, 1) := by decide +kernel
theorem dX3_putTrueIn_70 : decode cX3_putTrueIn 70 = .ok (.iadd, 1) := by decide +kernel
theorem dX3_putTrueIn_71 : decode cX3_putTrueIn 71 = .ok (.putfield 44, 3) := by decide +kernel
theorem dX3_putTrueIn_74 : decode cX3_putTrueIn 74 = .ok (.return_, 1) := by decide +kernel
theorem dX3_takeBack_0 : decode cX3_takeBack 0 = .ok (.aload_n 0, 1) := by decide +kernel
theorem dX3_takeBack_1 : decode cX3_takeBack 1 = .ok (.getfield 44, 3) := by decide +kernel
theorem dX3_takeBack_4 : decode cX3_takeBack 4 = .ok (.ifCond .le 31, 3) := by decide +kernel
theorem dX3_takeBack_7 : decode cX3_takeBack 7 = .ok (.aload_n 0, 1) := by decide +kernel
theorem dX3_takeBack_8 : decode cX3_takeBack 8 = .ok (.dup, 1) := by decide +kernel
theorem dX3_takeBack_9 : decode cX3_takeBack 9 = .ok (.getfield 44, 3) := by decide +kernel
theorem dX3_takeBack_12 : decode cX3_takeBack 12 = .ok (.iconst 1, 1) := by decide +kernel
theorem dX3_takeBack_13 : decode cX3_takeBack 13 = .ok (.isub, 1) := by decide +kernel
theorem dX3_takeBack_14 : decode cX3_takeBack 14 = .ok (.putfield 44, 3) := by decide +kernel
theorem dX3_takeBack_17 : decode cX3_takeBack 17 = .ok (.aload_n 0, 1) := by decide +kernel
theorem dX3_takeBack_18 : decode cX3_takeBack 18 = .ok (.getfield 21, 3) := by decide +kernel
theorem dX3_takeBack_21 : decode cX3_takeBack 21 = .ok (.aload_n 0, 1) := by decide +kernel
theorem dX3_takeBack_22 : decode cX3_takeBack 22 = .ok (.getfield 24, 3) := by decide +kernel
theorem dX3_takeBack_25 : decode cX3_takeBack 25 = .ok (.aload_n 0, 1) := by decide +kernel
theorem dX3_takeBack_26 : decode cX3_takeBack 26 = .ok (.getfield 44, 3) := by decide +kernel
theorem dX3_takeBack_29 : decode cX3_takeBack 29 = .ok (.iaload, 1) := by decide +kernel
theorem dX3_takeBack_30 : decode cX3_takeBack 30 = .ok (.dup2, 1) := by decide +kernel
theorem dX3_takeBack_31 : decode cX3_takeBack 31 = .ok (.iaload, 1) := by decide +kernel
theorem dX3_takeBack_32 : decode cX3_takeBack 32 = .ok (.iconst 1, 1) := by decide +kernel
theorem dX3_takeBack_33 : decode cX3_takeBack 33 = .ok (.isub, 1) := by decide +kernel
theorem dX3_takeBack_34 : decode cX3_takeBack 34 = .ok (.iastore, 1) := by decide +kernel
theorem dX3_takeBack_35 : decode cX3_takeBack 35 = .ok (.return_, 1) := by decide +kernel
theorem dX3_forgetSayings_0 : decode cX3_forgetSayings 0 = .ok (.aload_n 0, 1) := by decide +kernel
theorem dX3_forgetSayings_1 : decode cX3_forgetSayings 1 = .ok (.iconst 0, 1) := by decide +kernel
theorem dX3_forgetSayings_2 : decode cX3_forgetSayings 2 = .ok (.putfield 44, 3) := by decide +kernel
theorem dX3_forgetSayings_5 : decode cX3_forgetSayings 5 = .ok (.iconst 0, 1) := by decide +kernel
theorem dX3_forgetSayings_6 : decode cX3_forgetSayings 6 = .ok (.istore_n 1, 1) := by decide +kernel
theorem dX3_forgetSayings_7 : decode cX3_forgetSayings 7 = .ok (.iload_n 1, 1) := by decide +kernel
theorem dX3_forgetSayings_8 : decode cX3_forgetSayings 8 = .ok (.aload_n 0, 1) := by decide +kernel
theorem dX3_forgetSayings_9 : decode cX3_forgetSayings 9 = .ok (.getfield 41, 3) := by decide +kernel
theorem dX3_forgetSayings_12 : decode cX3_forgetSayings 12 = .ok (.if_icmp .ge 16, 3) := by decide +kernel
theorem dX3_forgetSayings_15 : decode cX3_forgetSayings 15 = .ok (.aload_n 0, 1) := by decide +kernel
theorem dX3_forgetSayings_16 : decode cX3_forgetSayings 16 = .ok (.getfield 21, 3) := by decide +kernel
theorem dX3_forgetSayings_19 : decode cX3_forgetSayings 19 = .ok (.iload_n 1, 1) := by decide +kernel
theorem dX3_forgetSayings_20 : decode cX3_forgetSayings 20 = .ok (.iconst 0, 1) := by decide +kernel
theorem dX3_forgetSayings_21 : decode cX3_forgetSayings 21 = .ok (.iastore, 1) := by decide +kernel
theorem dX3_forgetSayings_22 : decode cX3_forgetSayings 22 = .ok (.iinc 1 1, 3) := by decide +kernel
theorem dX3_forgetSayings_25 : decode cX3_forgetSayings 25 = .ok (.goto (-18), 3) := by decide +kernel
theorem dX3_forgetSayings_28 : decode cX3_forgetSayings 28 = .ok (.return_, 1) := by decide +kernel
theorem dX3_learn_0 : decode cX3_learn 0 = .ok (.aload_n 0, 1) := by decide +kernel
theorem dX3_learn_1 : decode cX3_learn 1 = .ok (.dup, 1) := by decide +kernel
theorem dX3_learn_2 : decode cX3_learn 2 = .ok (.getfield 47, 3) := by decide +kernel
theorem dX3_learn_5 : decode cX3_learn 5 = .ok (.iload_n 1, 1) := by decide +kernel
theorem dX3_learn_6 : decode cX3_learn 6 = .ok (.iload_n 2, 1) := by decide +kernel
theorem dX3_learn_7 : decode cX3_learn 7 = .ok (.invokestatic 72, 3) := by decide +kernel
theorem dX3_learn_10 : decode cX3_learn 10 = .ok (.land, 1) := by decide +kernel
theorem dX3_learn_11 : decode cX3_learn 11 = .ok (.putfield 47, 3) := by decide +kernel
theorem dX3_learn_14 : decode cX3_learn 14 = .ok (.return_, 1) := by decide +kernel
theorem dX3_drawBelow_0 : decode cX3_drawBelow 0 = .ok (.aload_n 0, 1) := by decide +kernel
theorem dX3_drawBelow_1 : decode cX3_drawBelow 1 = .ok (.aload_n 0, 1) := by decide +kernel
theorem dX3_drawBelow_2 : decode cX3_drawBelow 2 = .ok (.getfield 60, 3) := by decide +kernel
theorem dX3_drawBelow_5 : decode cX3_drawBelow 5 = .ok (.ldc 80, 2) := by decide +kernel
theorem dX3_drawBelow_7 : decode cX3_drawBelow 7 = .ok (.imul, 1) := by decide +kernel
theorem dX3_drawBelow_8 : decode cX3_drawBelow 8 = .ok (.sipush 12345, 3) := by decide +kernel
theorem dX3_drawBelow_11 : decode cX3_drawBelow 11 = .ok (.iadd, 1) := by decide +kernel
theorem dX3_drawBelow_12 : decode cX3_drawBelow 12 = .ok (.putfield 60, 3) := by decide +kernel
theorem dX3_drawBelow_15 : decode cX3_drawBelow 15 = .ok (.iload_n 1, 1) := by decide +kernel
theorem dX3_drawBelow_16 : decode cX3_drawBelow 16 = .ok (.ifCond .le 15, 3) := by decide +kernel
theorem dX3_drawBelow_19 : decode cX3_drawBelow 19 = .ok (.aload_n 0, 1) := by decide +kernel
theorem dX3_drawBelow_20 : decode cX3_drawBelow 20 = .ok (.getfield 60, 3) := by decide +kernel
theorem dX3_drawBelow_23 : decode cX3_drawBelow 23 = .ok (.bipush 16, 2) := by decide +kernel
theorem dX3_drawBelow_25 : decode cX3_drawBelow 25 = .ok (.iushr, 1) := by decide +kernel
theorem dX3_drawBelow_26 : decode cX3_drawBelow 26 = .ok (.iload_n 1, 1) := by decide +kernel
theorem dX3_drawBelow_27 : decode cX3_drawBelow 27 = .ok (.irem, 1) := by decide +kernel
theorem dX3_drawBelow_28 : decode cX3_drawBelow 28 = .ok (.goto 4, 3) := by decide +kernel
theorem dX3_drawBelow_31 : decode cX3_drawBelow 31 = .ok (.iconst 0, 1) := by decide +kernel
theorem dX3_drawBelow_32 : decode cX3_drawBelow 32 = .ok (.ireturn, 1) := by decide +kernel
theorem dX3_possible_0 : decode cX3_possible 0 = .ok (.aload_n 0, 1) := by decide +kernel
theorem dX3_possible_1 : decode cX3_possible 1 = .ok (.getfield 47, 3) := by decide +kernel
theorem dX3_possible_4 : decode cX3_possible 4 = .ok (.lstore_n 3, 1) := by decide +kernel
theorem dX3_possible_5 : decode cX3_possible 5 = .ok (.iconst 0, 1) := by decide +kernel
theorem dX3_possible_6 : decode cX3_possible 6 = .ok (.istore 5, 2) := by decide +kernel
theorem dX3_possible_8 : decode cX3_possible 8 = .ok (.iload 5, 2) := by decide +kernel
theorem dX3_possible_10 : decode cX3_possible 10 = .ok (.aload_n 0, 1) := by decide +kernel
theorem dX3_possible_11 : decode cX3_possible 11 = .ok (.getfield 41, 3) := by decide +kernel
theorem dX3_possible_14 : decode cX3_possible 14 = .ok (.if_icmp .ge 19, 3) := by decide +kernel
theorem dX3_possible_17 : decode cX3_possible 17 = .ok (.lload_n 3, 1) := by decide +kernel
theorem dX3_possible_18 : decode cX3_possible 18 = .ok (.aload_n 0, 1) := by decide +kernel
theorem dX3_possible_19 : decode cX3_possible 19 = .ok (.iload 5, 2) := by decide +kernel
theorem dX3_possible_21 : decode cX3_possible 21 = .ok (.lload_n 1, 1) := by decide +kernel
theorem dX3_possible_22 : decode cX3_possible 22 = .ok (.invokevirtual 81, 3) := by decide +kernel
theorem dX3_possible_25 : decode cX3_possible 25 = .ok (.land, 1) := by decide +kernel
theorem dX3_possible_26 : decode cX3_possible 26 = .ok (.lstore_n 3, 1) := by decide +kernel
theorem dX3_possible_27 : decode cX3_possible 27 = .ok (.iinc 5 1, 3) := by decide +kernel
theorem dX3_possible_30 : decode cX3_possible 30 = .ok (.goto (-22), 3) := by decide +kernel
theorem dX3_possible_33 : decode cX3_possible 33 = .ok (.lload_n 3, 1) := by decide +kernel
theorem dX3_possible_34 : decode cX3_possible 34 = .ok (.lreturn, 1) := by decide +kernel
theorem dX3_possibleWithout_0 : decode cX3_possibleWithout 0 = .ok (.aload_n 0, 1) := by decide +kernel
theorem dX3_possibleWithout_1 : decode cX3_possibleWithout 1 = .ok (.getfield 47, 3) := by decide +kernel
theorem dX3_possibleWithout_4 : decode cX3_possibleWithout 4 = .ok (.lstore_n 2, 1) := by decide +kernel
theorem dX3_possibleWithout_5 : decode cX3_possibleWithout 5 = .ok (.iconst 0, 1) := by decide +kernel
theorem dX3_possibleWithout_6 : decode cX3_possibleWithout 6 = .ok (.istore 4, 2) := by decide +kernel
theorem dX3_possibleWithout_8 : decode cX3_possibleWithout 8 = .ok (.iload 4, 2) := by decide +kernel
theorem dX3_possibleWithout_10 : decode cX3_possibleWithout 10 = .ok (.aload_n 0, 1) := by decide +kernel
theorem dX3_possibleWithout_11 : decode cX3_possibleWithout 11 = .ok (.getfield 41, 3) := by decide +kernel
theorem dX3_possibleWithout_14 : decode cX3_possibleWithout 14 = .ok (.if_icmp .ge 27, 3) := by decide +kernel
theorem dX3_possibleWithout_17 : decode cX3_possibleWithout 17 = .ok (.iload 4, 2) := by decide +kernel
theorem dX3_possibleWithout_19 : decode cX3_possibleWithout 19 = .ok (.iload_n 1, 1) := by decide +kernel
theorem dX3_possibleWithout_20 : decode cX3_possibleWithout 20 = .ok (.if_icmp .eq 15, 3) := by decide +kernel
theorem dX3_possibleWithout_23 : decode cX3_possibleWithout 23 = .ok (.lload_n 2, 1) := by decide +kernel
theorem dX3_possibleWithout_24 : decode cX3_possibleWithout 24 = .ok (.aload_n 0, 1) := by decide +kernel
theorem dX3_possibleWithout_25 : decode cX3_possibleWithout 25 = .ok (.iload 4, 2) := by decide +kernel
theorem dX3_possibleWithout_27 : decode cX3_possibleWithout 27 = .ok (.ldc2_w 85, 3) := by decide +kernel
theorem dX3_possibleWithout_30 : decode cX3_possibleWithout 30 = .ok (.invokevirtual 81, 3) := by decide +kernel
theorem dX3_possibleWithout_33 : decode cX3_possibleWithout 33 = .ok (.land, 1) := by decide +kernel
theorem dX3_possibleWithout_34 : decode cX3_possibleWithout 34 = .ok (.lstore_n 2, 1) := by decide +kernel
theorem dX3_possibleWithout_35 : decode cX3_possibleWithout 35 = .ok (.iinc 4 1, 3) := by decide +kernel
theorem dX3_possibleWithout_38 : decode cX3_possibleWithout 38 = .ok (.goto (-30), 3) := by decide +kernel
theorem dX3_possibleWithout_41 : decode cX3_possibleWithout 41 = .ok (.lload_n 2, 1) := by decide +kernel
theorem dX3_possibleWithout_42 : decode cX3_possibleWithout 42 = .ok (.lreturn, 1) := by decide +kernel
theorem dX3_after_0 : decode cX3_after 0 = .ok (.aload_n 0, 1) := by decide +kernel
theorem dX3_after_1 : decode cX3_after 1 = .ok (.iload_n 1, 1) := by decide +kernel
theorem dX3_after_2 : decode cX3_after 2 = .ok (.iload_n 2, 1) := by decide +kernel
theorem dX3_after_3 : decode cX3_after 3 = .ok (.iload_n 3, 1) := by decide +kernel
theorem dX3_after_4 : decode cX3_after 4 = .ok (.invokevirtual 87, 3) := by decide +kernel
theorem dX3_after_7 : decode cX3_after 7 = .ok (.lload 4, 2) := by decide +kernel
theorem dX3_after_9 : decode cX3_after 9 = .ok (.aload_n 0, 1) := by decide +kernel
theorem dX3_after_10 : decode cX3_after 10 = .ok (.iload_n 1, 1) := by decide +kernel
theorem dX3_after_11 : decode cX3_after 11 = .ok (.ldc2_w 85, 3) := by decide +kernel
theorem dX3_after_14 : decode cX3_after 14 = .ok (.invokevirtual 81, 3) := by decide +kernel
theorem dX3_after_17 : decode cX3_after 17 = .ok (.land, 1) := by decide +kernel
theorem dX3_after_18 : decode cX3_after 18 = .ok (.lstore 6, 2) := by decide +kernel
theorem dX3_after_20 : decode cX3_after 20 = .ok (.aload_n 0, 1) := by decide +kernel
theorem dX3_after_21 : decode cX3_after 21 = .ok (.invokevirtual 91, 3) := by decide +kernel
theorem dX3_after_24 : decode cX3_after 24 = .ok (.lload 6, 2) := by decide +kernel
theorem dX3_after_26 : decode cX3_after 26 = .ok (.lreturn, 1) := by decide +kernel
theorem dX3_allowedNext_0 : decode cX3_allowedNext 0 = .ok (.aload_n 0, 1) := by decide +kernel
theorem dX3_allowedNext_1 : decode cX3_allowedNext 1 = .ok (.iload_n 1, 1) := by decide +kernel
theorem dX3_allowedNext_2 : decode cX3_allowedNext 2 = .ok (.iconst 0, 1) := by decide +kernel
theorem dX3_allowedNext_3 : decode cX3_allowedNext 3 = .ok (.iload_n 2, 1) := by decide +kernel
theorem dX3_allowedNext_4 : decode cX3_allowedNext 4 = .ok (.ifCond .eq 9, 3) := by decide +kernel
theorem dX3_allowedNext_7 : decode cX3_allowedNext 7 = .ok (.ldc2_w 85, 3) := by decide +kernel
theorem dX3_allowedNext_10 : decode cX3_allowedNext 10 = .ok (.goto 4, 3) := by decide +kernel
theorem dX3_allowedNext_13 : decode cX3_allowedNext 13 = .ok (.lconst 0, 1) := by decide +kernel
theorem dX3_allowedNext_14 : decode cX3_allowedNext 14 = .ok (.invokevirtual 76, 3) := by decide +kernel
theorem dX3_allowedNext_17 : decode cX3_allowedNext 17 = .ok (.aload_n 0, 1) := by decide +kernel
theorem dX3_allowedNext_18 : decode cX3_allowedNext 18 = .ok (.iload_n 1, 1) := by decide +kernel
theorem dX3_allowedNext_19 : decode cX3_allowedNext 19 = .ok (.ldc2_w 85, 3) := by decide +kernel
theorem dX3_allowedNext_22 : decode cX3_allowedNext 22 = .ok (.invokevirtual 81, 3) := by decide +kernel
theorem dX3_allowedNext_25 : decode cX3_allowedNext 25 = .ok (.lstore_n 3, 1) := by decide +kernel
theorem dX3_allowedNext_26 : decode cX3_allowedNext 26 = .ok (.aload_n 0, 1) := by decide +kernel
theorem dX3_allowedNext_27 : decode cX3_allowedNext 27 = .ok (.invokevirtual 91, 3) := by decide +kernel
theorem dX3_allowedNext_30 : decode cX3_allowedNext 30 = .ok (.lload_n 3, 1) := by decide +kernel
theorem dX3_allowedNext_31 : decode cX3_allowedNext 31 = .ok (.lreturn, 1) := by decide +kernel
theorem dX3_allowed_0 : decode cX3_allowed 0 = .ok (.aload_n 0, 1) := by decide +kernel
theorem dX3_allowed_1 : decode cX3_allowed 1 = .ok (.getfield 15, 3) := by decide +kernel
theorem dX3_allowed_4 : decode cX3_allowed 4 = .ok (.iload_n 1, 1) := by decide +kernel
theorem dX3_allowed_5 : decode cX3_allowed 5 = .ok (.iaload, 1) := by decide +kernel
theorem dX3_allowed_6 : decode cX3_allowed 6 = .ok (.ifCond .ne 10, 3) := by decide +kernel
theorem dX3_allowed_9 : decode cX3_allowed 9 = .ok (.aload_n 0, 1) := by decide +kernel
theorem dX3_allowed_10 : decode cX3_allowed 10 = .ok (.iload_n 1, 1) := by decide +kernel
theorem dX3_allowed_11 : decode cX3_allowed 11 = .ok (.lload_n 2, 1) := by decide +kernel
theorem dX3_allowed_12 : decode cX3_allowed 12 = .ok (.invokevirtual 94, 3) := by decide +kernel
theorem dX3_allowed_15 : decode cX3_allowed 15 = .ok (.lreturn, 1) := by decide +kernel
theorem dX3_allowed_16 : decode cX3_allowed 16 = .ok (.aload_n 0, 1) := by decide +kernel
theorem dX3_allowed_17 : decode cX3_allowed 17 = .ok (.getfield 15, 3) := by decide +kernel
theorem dX3_allowed_20 : decode cX3_allowed 20 = .ok (.iload_n 1, 1) := by decide +kernel
theorem dX3_allowed_21 : decode cX3_allowed 21 = .ok (.iaload, 1) := by decide +kernel
theorem dX3_allowed_22 : decode cX3_allowed 22 = .ok (.bipush 6, 2) := by decide +kernel
theorem dX3_allowed_24 : decode cX3_allowed 24 = .ok (.if_icmp .ne 10, 3) := by decide +kernel
theorem dX3_allowed_27 : decode cX3_allowed 27 = .ok (.aload_n 0, 1) := by decide +kernel
theorem dX3_allowed_28 : decode cX3_allowed 28 = .ok (.iload_n 1, 1) := by decide +kernel
theorem dX3_allowed_29 : decode cX3_allowed 29 = .ok (.lload_n 2, 1) := by decide +kernel
theorem dX3_allowed_30 : decode cX3_allowed 30 = .ok (.invokevirtual 97, 3) := by decide +kernel
theorem dX3_allowed_33 : decode cX3_allowed 33 = .ok (.lreturn, 1) := by decide +kernel
theorem dX3_allowed_34 : decode cX3_allowed 34 = .ok (.ldc2_w 85, 3) := by decide +kernel
theorem dX3_allowed_37 : decode cX3_allowed 37 = .ok (.lstore 4, 2) := by decide +kernel
theorem dX3_allowed_39 : decode cX3_allowed 39 = .ok (.iconst 0, 1) := by decide +kernel
theorem dX3_allowed_40 : decode cX3_allowed 40 = .ok (.istore 6, 2) := by decide +kernel
theorem dX3_allowed_42 : decode cX3_allowed 42 = .ok (.iload 6, 2) := by decide +kernel
theorem dX3_allowed_44 : decode cX3_allowed 44 = .ok (.aload_n 0, 1) := by decide +kernel
theorem dX3_allowed_45 : decode cX3_allowed 45 = .ok (.getfield 44, 3) := by decide +kernel
theorem dX3_allowed_48 : decode cX3_allowed 48 = .ok (.if_icmp .ge 61, 3) := by decide +kernel
theorem dX3_allowed_51 : decode cX3_allowed 51 = .ok (.aload_n 0, 1) := by decide +kernel
theorem dX3_allowed_52 : decode cX3_allowed 52 = .ok (.iload 6, 2) := by decide +kernel
theorem dX3_allowed_54 : decode cX3_allowed 54 = .ok (.iload_n 1, 1) := by decide +kernel
theorem dX3_allowed_55 : decode cX3_allowed 55 = .ok (.lload_n 2, 1) := by decide +kernel
theorem dX3_allowed_56 : decode cX3_allowed 56 = .ok (.invokevirtual 100, 3) := by decide +kernel
theorem dX3_allowed_59 : decode cX3_allowed 59 = .ok (.ifCond .eq 44, 3) := by decide +kernel
theorem dX3_allowed_62 : decode cX3_allowed 62 = .ok (.lload 4, 2) := by decide +kernel
theorem dX3_allowed_64 : decode cX3_allowed 64 = .ok (.aload_n 0, 1) := by decide +kernel
theorem dX3_allowed_65 : decode cX3_allowed 65 = .ok (.iload_n 1, 1) := by decide +kernel
theorem dX3_allowed_66 : decode cX3_allowed 66 = .ok (.aload_n 0, 1) := by decide +kernel
theorem dX3_allowed_67 : decode cX3_allowed 67 = .ok (.getfield 27, 3) := by decide +kernel
theorem dX3_allowed_70 : decode cX3_allowed 70 = .ok (.iload 6, 2) := by decide +kernel
theorem dX3_allowed_72 : decode cX3_allowed 72 = .ok (.iaload, 1) := by decide +kernel
theorem dX3_allowed_73 : decode cX3_allowed 73 = .ok (.invokevirtual 104, 3) := by decide +kernel
theorem dX3_allowed_76 : decode cX3_allowed 76 = .ok (.ifCond .eq 13, 3) := by decide +kernel
theorem dX3_allowed_79 : decode cX3_allowed 79 = .ok (.aload_n 0, 1) := by decide +kernel
theorem dX3_allowed_80 : decode cX3_allowed 80 = .ok (.getfield 33, 3) := by decide +kernel
theorem dX3_allowed_83 : decode cX3_allowed 83 = .ok (.iload 6, 2) := by decide +kernel
theorem dX3_allowed_85 : decode cX3_allowed 85 = .ok (.laload, 1) := by decide +kernel
theorem dX3_allowed_86 : decode cX3_allowed 86 = .ok (.goto 14, 3) := by decide +kernel
theorem dX3_allowed_89 : decode cX3_allowed 89 = .ok (.aload_n 0, 1) := by decide +kernel
theorem dX3_allowed_90 : decode cX3_allowed 90 = .ok (.getfield 33, 3) := by decide +kernel
theorem dX3_allowed_93 : decode cX3_allowed 93 = .ok (.iload 6, 2) := by decide +kernel
theorem dX3_allowed_95 : decode cX3_allowed 95 = .ok (.laload, 1) := by decide +kernel
theorem dX3_allowed_96 : decode cX3_allowed 96 = .ok (.ldc2_w 85, 3) := by decide +kernel
theorem dX3_allowed_99 : decode cX3_allowed 99 = .ok (.lxor, 1) := by decide +kernel
theorem dX3_allowed_100 : decode cX3_allowed 100 = .ok (.land, 1) := by decide +kernel
theorem dX3_allowed_101 : decode cX3_allowed 101 = .ok (.lstore 4, 2) := by decide +kernel
theorem dX3_allowed_103 : decode cX3_allowed 103 = .ok (.iinc 6 1, 3) := by decide +kernel
theorem dX3_allowed_106 : decode cX3_allowed 106 = .ok (.goto (-64), 3) := by decide +kernel
theorem dX3_allowed_109 : decode cX3_allowed 109 = .ok (.lload 4, 2) := by decide +kernel
theorem dX3_allowed_111 : decode cX3_allowed 111 = .ok (.lreturn, 1) := by decide +kernel
theorem dX3_isChosen_0 : decode cX3_isChosen 0 = .ok (.aload_n 0, 1) := by decide +kernel
theorem dX3_isChosen_1 : decode cX3_isChosen 1 = .ok (.getfield 24, 3) := by decide +kernel
theorem dX3_isChosen_4 : decode cX3_isChosen 4 = .ok (.iload_n 1, 1) := by decide +kernel
theorem dX3_isChosen_5 : decode cX3_isChosen 5 = .ok (.iaload, 1) := by decide +kernel
theorem dX3_isChosen_6 : decode cX3_isChosen 6 = .ok (.iload_n 2, 1) := by decide +kernel
theorem dX3_isChosen_7 : decode cX3_isChosen 7 = .ok (.if_icmp .ne 17, 3) := by decide +kernel
theorem dX3_isChosen_10 : decode cX3_isChosen 10 = .ok (.lload_n 3, 1) := by decide +kernel
theorem dX3_isChosen_11 : decode cX3_isChosen 11 = .ok (.iload_n 1, 1) := by decide +kernel
theorem dX3_isChosen_12 : decode cX3_isChosen 12 = .ok (.lushr, 1) := by decide +kernel
theorem dX3_isChosen_13 : decode cX3_isChosen 13 = .ok (.lconst 1, 1) := by decide +kernel
theorem dX3_isChosen_14 : decode cX3_isChosen 14 = .ok (.land, 1) := by decide +kernel
theorem dX3_isChosen_15 : decode cX3_isChosen 15 = .ok (.lconst 1, 1) := by decide +kernel
theorem dX3_isChosen_16 : decode cX3_isChosen 16 = .ok (.lcmp, 1) := by decide +kernel
theorem dX3_isChosen_17 : decode cX3_isChosen 17 = .ok (.ifCond .ne 7, 3) := by decide +kernel
theorem dX3_isChosen_20 : decode cX3_isChosen 20 = .ok (.iconst 1, 1) := by decide +kernel
theorem dX3_isChosen_21 : decode cX3_isChosen 21 = .ok (.goto 4, 3) := by decide +kernel
theorem dX3_isChosen_24 : decode cX3_isChosen 24 = .ok (.iconst 0, 1) := by decide +kernel
theorem dX3_isChosen_25 : decode cX3_isChosen 25 = .ok (.ireturn, 1) := by decide +kernel
theorem dX3_allowedByCount_0 : decode cX3_allowedByCount 0 = .ok (.lconst 0, 1) := by decide +kernel
theorem dX3_allowedByCount_1 : decode cX3_allowedByCount 1 = .ok (.lstore 4, 2) := by decide +kernel
theorem dX3_allowedByCount_3 : decode cX3_allowedByCount 3 = .ok (.lconst 0, 1) := by decide +kernel
theorem dX3_allowedByCount_4 : decode cX3_allowedByCount 4 = .ok (.lstore 6, 2) := by decide +kernel
theorem dX3_allowedByCount_6 : decode cX3_allowedByCount 6 = .ok (.lconst 0, 1) := by decide +kernel
theorem dX3_allowedByCount_7 : decode cX3_allowedByCount 7 = .ok (.lstore 8, 2) := by decide +kernel
theorem dX3_allowedByCount_9 : decode cX3_allowedByCount 9 = .ok (.lconst 0, 1) := by decide +kernel
theorem dX3_allowedByCount_10 : decode cX3_allowedByCount 10 = .ok (.lstore 10, 2) := by decide +kernel
theorem dX3_allowedByCount_12 : decode cX3_allowedByCount 12 = .ok (.iconst 0, 1) := by decide +kernel
theorem dX3_allowedByCount_13 : decode cX3_allowedByCount 13 = .ok (.istore 12, 2) := by decide +kernel
theorem dX3_allowedByCount_15 : decode cX3_allowedByCount 15 = .ok (.iconst 0, 1) := by decide +kernel
theorem dX3_allowedByCount_16 : decode cX3_allowedByCount 16 = .ok (.istore 13, 2) := by decide +kernel
theorem dX3_allowedByCount_18 : decode cX3_allowedByCount 18 = .ok (.iload 13, 2) := by decide +kernel
theorem dX3_allowedByCount_20 : decode cX3_allowedByCount 20 = .ok (.aload_n 0, 1) := by decide +kernel
theorem dX3_allowedByCount_21 : decode cX3_allowedByCount 21 = .ok (.getfield 44, 3) := by decide +kernel
theorem dX3_allowedByCount_24 : decode cX3_allowedByCount 24 = .ok (.if_icmp .ge 78, 3) := by decide +kernel
theorem dX3_allowedByCount_27 : decode cX3_allowedByCount 27 = .ok (.aload_n 0, 1) := by decide +kernel
theorem dX3_allowedByCount_28 : decode cX3_allowedByCount 28 = .ok (.iload 13, 2) := by decide +kernel
theorem dX3_allowedByCount_30 : decode cX3_allowedByCount 30 = .ok (.iload_n 1, 1) := by decide +kernel
theorem dX3_allowedByCount_31 : decode cX3_allowedByCount 31 = .ok (.lload_n 2, 1) := by decide +kernel
theorem dX3_allowedByCount_32 : decode cX3_allowedByCount 32 = .ok (.invokevirtual 100, 3) := by decide +kernel
theorem dX3_allowedByCount_35 : decode cX3_allowedByCount 35 = .ok (.ifCond .eq 61, 3) := by decide +kernel
theorem dX3_allowedByCount_38 : decode cX3_allowedByCount 38 = .ok (.lload 4, 2) := by decide +kernel
theorem dX3_allowedByCount_40 : decode cX3_allowedByCount 40 = .ok (.aload_n 0, 1) := by decide +kernel
theorem dX3_allowedByCount_41 : decode cX3_allowedByCount 41 = .ok (.getfield 33, 3) := by decide +kernel
theorem dX3_allowedByCount_44 : decode cX3_allowedByCount 44 = .ok (.iload 13, 2) := by decide +kernel
theorem dX3_allowedByCount_46 : decode cX3_allowedByCount 46 = .ok (.laload, 1) := by decide +kernel
theorem dX3_allowedByCount_47 : decode cX3_allowedByCount 47 = .ok (.land, 1) := by decide +kernel
theorem dX3_allowedByCount_48 : decode cX3_allowedByCount 48 = .ok (.lstore 14, 2) := by decide +kernel
theorem dX3_allowedByCount_50 : decode cX3_allowedByCount 50 = .ok (.lload 6, 2) := by decide +kernel
theorem dX3_allowedByCount_52 : decode cX3_allowedByCount 52 = .ok (.lload 14, 2) := by decide +kernel
theorem dX3_allowedByCount_54 : decode cX3_allowedByCount 54 = .ok (.land, 1) := by decide +kernel
theorem dX3_allowedByCount_55 : decode cX3_allowedByCount 55 = .ok (.lstore 16, 2) := by decide +kernel
theorem dX3_allowedByCount_57 : decode cX3_allowedByCount 57 = .ok (.lload 4, 2) := by decide +kernel
theorem dX3_allowedByCount_59 : decode cX3_allowedByCount 59 = .ok (.aload_n 0, 1) := by decide +kernel
theorem dX3_allowedByCount_60 : decode cX3_allowedByCount 60 = .ok (.getfield 33, 3) := by decide +kernel
theorem dX3_allowedByCount_63 : decode cX3_allowedByCount 63 = .ok (.iload 13, 2) := by decide +kernel
theorem dX3_allowedByCount_65 : decode cX3_allowedByCount 65 = .ok (.laload, 1) := by decide +kernel
theorem dX3_allowedByCount_66 : decode cX3_allowedByCount 66 = .ok (.lxor, 1) := by decide +kernel
theorem dX3_allowedByCount_67 : decode cX3_allowedByCount 67 = .ok (.lstore 4, 2) := by decide +kernel
theorem dX3_allowedByCount_69 : decode cX3_allowedByCount 69 = .ok (.lload 6, 2) := by decide +kernel
theorem dX3_allowedByCount_71 : decode cX3_allowedByCount 71 = .ok (.lload 14, 2) := by decide +kernel
theorem dX3_allowedByCount_73 : decode cX3_allowedByCount 73 = .ok (.lxor, 1) := by decide +kernel
theorem dX3_allowedByCount_74 : decode cX3_allowedByCount 74 = .ok (.lstore 6, 2) := by decide +kernel
theorem dX3_allowedByCount_76 : decode cX3_allowedByCount 76 = .ok (.lload 10, 2) := by decide +kernel
theorem dX3_allowedByCount_78 : decode cX3_allowedByCount 78 = .ok (.lload 8, 2) := by decide +kernel
theorem dX3_allowedByCount_80 : decode cX3_allowedByCount 80 = .ok (.lload 16, 2) := by decide +kernel
theorem dX3_allowedByCount_82 : decode cX3_allowedByCount 82 = .ok (.land, 1) := by decide +kernel
theorem dX3_allowedByCount_83 : decode cX3_allowedByCount 83 = .ok (.lxor, 1) := by decide +kernel
theorem dX3_allowedByCount_84 : decode cX3_allowedByCount 84 = .ok (.lstore 10, 2) := by decide +kernel
theorem dX3_allowedByCount_86 : decode cX3_allowedByCount 86 = .ok (.lload 8, 2) := by decide +kernel
theorem dX3_allowedByCount_88 : decode cX3_allowedByCount 88 = .ok (.lload 16, 2) := by decide +kernel
theorem dX3_allowedByCount_90 : decode cX3_allowedByCount 90 = .ok (.lxor, 1) := by decide +kernel
theorem dX3_allowedByCount_91 : decode cX3_allowedByCount 91 = .ok (.lstore 8, 2) := by decide +kernel
theorem dX3_allowedByCount_93 : decode cX3_allowedByCount 93 = .ok (.iinc 12 1, 3) := by decide +kernel
theorem dX3_allowedByCount_96 : decode cX3_allowedByCount 96 = .ok (.iinc 13 1, 3) := by decide +kernel
theorem dX3_allowedByCount_99 : decode cX3_allowedByCount 99 = .ok (.goto (-81), 3) := by decide +kernel
theorem dX3_allowedByCount_102 : decode cX3_allowedByCount 102 = .ok (.lconst 0, 1) := by decide +kernel
theorem dX3_allowedByCount_103 : decode cX3_allowedByCount 103 = .ok (.lstore 13, 2) := by decide +kernel
theorem dX3_allowedByCount_105 : decode cX3_allowedByCount 105 = .ok (.aload_n 0, 1) := by decide +kernel
theorem dX3_allowedByCount_106 : decode cX3_allowedByCount 106 = .ok (.getfield 54, 3) := by decide +kernel
theorem dX3_allowedByCount_109 : decode cX3_allowedByCount 109 = .ok (.iload 12, 2) := by decide +kernel
theorem dX3_allowedByCount_111 : decode cX3_allowedByCount 111 = .ok (.invokestatic 108, 3) := by decide +kernel
theorem dX3_allowedByCount_114 : decode cX3_allowedByCount 114 = .ok (.istore 15, 2) := by decide +kernel
theorem dX3_allowedByCount_116 : decode cX3_allowedByCount 116 = .ok (.iconst 0, 1) := by decide +kernel
theorem dX3_allowedByCount_117 : decode cX3_allowedByCount 117 = .ok (.iload 12, 2) := by decide +kernel
theorem dX3_allowedByCount_119 : decode cX3_allowedByCount 119 = .ok (.aload_n 0, 1) := by decide +kernel
theorem dX3_allowedByCount_120 : decode cX3_allowedByCount 120 = .ok (.getfield 51, 3) := by decide +kernel
theorem dX3_allowedByCount_123 : decode cX3_allowedByCount 123 = .ok (.aload_n 0, 1) := by decide +kernel
theorem dX3_allowedByCount_124 : decode cX3_allowedByCount 124 = .ok (.getfield 54, 3) := by decide +kernel
theorem dX3_allowedByCount_127 : decode cX3_allowedByCount 127 = .ok (.isub, 1) := by decide +kernel
theorem dX3_allowedByCount_128 : decode cX3_allowedByCount 128 = .ok (.isub, 1) := by decide +kernel
theorem dX3_allowedByCount_129 : decode cX3_allowedByCount 129 = .ok (.invokestatic 114, 3) := by decide +kernel
theorem dX3_allowedByCount_132 : decode cX3_allowedByCount 132 = .ok (.istore 16, 2) := by decide +kernel
theorem dX3_allowedByCount_134 : decode cX3_allowedByCount 134 = .ok (.iload 16, 2) := by decide +kernel
theorem dX3_allowedByCount_136 : decode cX3_allowedByCount 136 = .ok (.iload 15, 2) := by decide +kernel
theorem dX3_allowedByCount_138 : decode cX3_allowedByCount 138 = .ok (.if_icmp .gt 51, 3) := by decide +kernel
theorem dX3_allowedByCount_141 : decode cX3_allowedByCount 141 = .ok (.lload 13, 2) := by decide +kernel
theorem dX3_allowedByCount_143 : decode cX3_allowedByCount 143 = .ok (.lload 4, 2) := by decide +kernel
theorem dX3_allowedByCount_145 : decode cX3_allowedByCount 145 = .ok (.iload 16, 2) := by decide +kernel
theorem dX3_allowedByCount_147 : decode cX3_allowedByCount 147 = .ok (.invokestatic 117, 3) := by decide +kernel
theorem dX3_allowedByCount_150 : decode cX3_allowedByCount 150 = .ok (.lload 6, 2) := by decide +kernel
theorem dX3_allowedByCount_152 : decode cX3_allowedByCount 152 = .ok (.iload 16, 2) := by decide +kernel
theorem dX3_allowedByCount_154 : decode cX3_allowedByCount 154 = .ok (.iconst 1, 1) := by decide +kernel
theorem dX3_allowedByCount_155 : decode cX3_allowedByCount 155 = .ok (.ishr, 1) := by decide +kernel
theorem dX3_allowedByCount_156 : decode cX3_allowedByCount 156 = .ok (.invokestatic 117, 3) := by decide +kernel
theorem dX3_allowedByCount_159 : decode cX3_allowedByCount 159 = .ok (.land, 1) := by decide +kernel
theorem dX3_allowedByCount_160 : decode cX3_allowedByCount 160 = .ok (.lload 8, 2) := by decide +kernel
theorem dX3_allowedByCount_162 : decode cX3_allowedByCount 162 = .ok (.iload 16, 2) := by decide +kernel
theorem dX3_allowedByCount_164 : decode cX3_allowedByCount 164 = .ok (.iconst 2, 1) := by decide +kernel
theorem dX3_allowedByCount_165 : decode cX3_allowedByCount 165 = .ok (.ishr, 1) := by decide +kernel
theorem dX3_allowedByCount_166 : decode cX3_allowedByCount 166 = .ok (.invokestatic 117, 3) := by decide +kernel
theorem dX3_allowedByCount_169 : decode cX3_allowedByCount 169 = .ok (.land, 1) := by decide +kernel
theorem dX3_allowedByCount_170 : decode cX3_allowedByCount 170 = .ok (.lload 10, 2) := by decide +kernel
theorem dX3_allowedByCount_172 : decode cX3_allowedByCount 172 = .ok (.iload 16, 2) := by decide +kernel
theorem dX3_allowedByCount_174 : decode cX3_allowedByCount 174 = .ok (.iconst 3, 1) := by decide +kernel
theorem dX3_allowedByCount_175 : decode cX3_allowedByCount 175 = .ok (.ishr, 1) := by decide +kernel
theorem dX3_allowedByCount_176 : decode cX3_allowedByCount 176 = .ok (.invokestatic 117, 3) := by decide +kernel
theorem dX3_allowedByCount_179 : decode cX3_allowedByCount 179 = .ok (.land, 1) := by decide +kernel
theorem dX3_allowedByCount_180 : decode cX3_allowedByCount 180 = .ok (.lor, 1) := by decide +kernel
theorem dX3_allowedByCount_181 : decode cX3_allowedByCount 181 = .ok (.lstore 13, 2) := by decide +kernel
theorem dX3_allowedByCount_183 : decode cX3_allowedByCount 183 = .ok (.iinc 16 1, 3) := by decide +kernel
theorem dX3_allowedByCount_186 : decode cX3_allowedByCount 186 = .ok (.goto (-52), 3) := by decide +kernel
theorem dX3_allowedByCount_189 : decode cX3_allowedByCount 189 = .ok (.lload 13, 2) := by decide +kernel
theorem dX3_allowedByCount_191 : decode cX3_allowedByCount 191 = .ok (.lreturn, 1) := by decide +kernel
theorem dX3_digit_0 : decode cX3_digit 0 = .ok (.iload_n 2, 1) := by decide +kernel
theorem dX3_digit_1 : decode cX3_digit 1 = .ok (.iconst 1, 1) := by decide +kernel
theorem dX3_digit_2 : decode cX3_digit 2 = .ok (.iand, 1) := by decide +kernel
theorem dX3_digit_3 : decode cX3_digit 3 = .ok (.iconst 1, 1) := by decide +kernel
theorem dX3_digit_4 : decode cX3_digit 4 = .ok (.if_icmp .ne 7, 3) := by decide +kernel
theorem dX3_digit_7 : decode cX3_digit 7 = .ok (.lload_n 0, 1) := by decide +kernel
theorem dX3_digit_8 : decode cX3_digit 8 = .ok (.goto 8, 3) := by decide +kernel
theorem dX3_digit_11 : decode cX3_digit 11 = .ok (.lload_n 0, 1) := by decide +kernel
theorem dX3_digit_12 : decode cX3_digit 12 = .ok (.ldc2_w 85, 3) := by decide +kernel
theorem dX3_digit_15 : decode cX3_digit 15 = .ok (.lxor, 1) := by decide +kernel
theorem dX3_digit_16 : decode cX3_digit 16 = .ok (.lreturn, 1) := by decide +kernel
theorem dX3_allowedByPairs_0 : decode cX3_allowedByPairs 0 = .ok (.ldc2_w 85, 3) := by decide +kernel
theorem dX3_allowedByPairs_3 : decode cX3_allowedByPairs 3 = .ok (.lstore 4, 2) := by decide +kernel
theorem dX3_allowedByPairs_5 : decode cX3_allowedByPairs 5 = .ok (.iconst (-1), 1) := by decide +kernel
theorem dX3_allowedByPairs_6 : decode cX3_allowedByPairs 6 = .ok (.istore 6, 2) := by decide +kernel
theorem dX3_allowedByPairs_8 : decode cX3_allowedByPairs 8 = .ok (.iconst 0, 1) := by decide +kernel
theorem dX3_allowedByPairs_9 : decode cX3_allowedByPairs 9 = .ok (.istore 7, 2) := by decide +kernel
theorem dX3_allowedByPairs_11 : decode cX3_allowedByPairs 11 = .ok (.iload 7, 2) := by decide +kernel
theorem dX3_allowedByPairs_13 : decode cX3_allowedByPairs 13 = .ok (.aload_n 0, 1) := by decide +kernel
theorem dX3_allowedByPairs_14 : decode cX3_allowedByPairs 14 = .ok (.getfield 44, 3) := by decide +kernel
theorem dX3_allowedByPairs_17 : decode cX3_allowedByPairs 17 = .ok (.if_icmp .ge 82, 3) := by decide +kernel
theorem dX3_allowedByPairs_20 : decode cX3_allowedByPairs 20 = .ok (.aload_n 0, 1) := by decide +kernel
theorem dX3_allowedByPairs_21 : decode cX3_allowedByPairs 21 = .ok (.iload 7, 2) := by decide +kernel
theorem dX3_allowedByPairs_23 : decode cX3_allowedByPairs 23 = .ok (.iload_n 1, 1) := by decide +kernel
theorem dX3_allowedByPairs_24 : decode cX3_allowedByPairs 24 = .ok (.lload_n 2, 1) := by decide +kernel
theorem dX3_allowedByPairs_25 : decode cX3_allowedByPairs 25 = .ok (.invokevirtual 100, 3) := by decide +kernel
theorem dX3_allowedByPairs_28 : decode cX3_allowedByPairs 28 = .ok (.ifCond .eq 65, 3) := by decide +kernel
theorem dX3_allowedByPairs_31 : decode cX3_allowedByPairs 31 = .ok (.iload 6, 2) := by decide +kernel
theorem dX3_allowedByPairs_33 : decode cX3_allowedByPairs 33 = .ok (.iconst (-1), 1) := by decide +kernel
theorem dX3_allowedByPairs_34 : decode cX3_allowedByPairs 34 = .ok (.if_icmp .eq 55, 3) := by decide +kernel
theorem dX3_allowedByPairs_37 : decode cX3_allowedByPairs 37 = .ok (.aload_n 0, 1) := by decide +kernel
theorem dX3_allowedByPairs_38 : decode cX3_allowedByPairs 38 = .ok (.getfield 27, 3) := by decide +kernel
theorem dX3_allowedByPairs_41 : decode cX3_allowedByPairs 41 = .ok (.iload 7, 2) := by decide +kernel
theorem dX3_allowedByPairs_43 : decode cX3_allowedByPairs 43 = .ok (.iaload, 1) := by decide +kernel
theorem dX3_allowedByPairs_44 : decode cX3_allowedByPairs 44 = .ok (.iconst 1, 1) := by decide +kernel
theorem dX3_allowedByPairs_45 : decode cX3_allowedByPairs 45 = .ok (.iand, 1) := by decide +kernel
theorem dX3_allowedByPairs_46 : decode cX3_allowedByPairs 46 = .ok (.iconst 1, 1) := by decide +kernel
theorem dX3_allowedByPairs_47 : decode cX3_allowedByPairs 47 = .ok (.if_icmp .ne 42, 3) := by decide +kernel
theorem dX3_allowedByPairs_50 : decode cX3_allowedByPairs 50 = .ok (.aload_n 0, 1) := by decide +kernel
theorem dX3_allowedByPairs_51 : decode cX3_allowedByPairs 51 = .ok (.getfield 27, 3) := by decide +kernel
theorem dX3_allowedByPairs_54 : decode cX3_allowedByPairs 54 = .ok (.iload 6, 2) := by decide +kernel
theorem dX3_allowedByPairs_56 : decode cX3_allowedByPairs 56 = .ok (.iaload, 1) := by decide +kernel
theorem dX3_allowedByPairs_57 : decode cX3_allowedByPairs 57 = .ok (.aload_n 0, 1) := by decide +kernel
theorem dX3_allowedByPairs_58 : decode cX3_allowedByPairs 58 = .ok (.getfield 27, 3) := by decide +kernel
theorem dX3_allowedByPairs_61 : decode cX3_allowedByPairs 61 = .ok (.iload 7, 2) := by decide +kernel
theorem dX3_allowedByPairs_63 : decode cX3_allowedByPairs 63 = .ok (.iaload, 1) := by decide +kernel
theorem dX3_allowedByPairs_64 : decode cX3_allowedByPairs 64 = .ok (.iconst 1, 1) := by decide +kernel
theorem dX3_allowedByPairs_65 : decode cX3_allowedByPairs 65 = .ok (.isub, 1) := by decide +kernel
theorem dX3_allowedByPairs_66 : decode cX3_allowedByPairs 66 = .ok (.if_icmp .ne 23, 3) := by decide +kernel
theorem dX3_allowedByPairs_69 : decode cX3_allowedByPairs 69 = .ok (.lload 4, 2) := by decide +kernel
theorem dX3_allowedByPairs_71 : decode cX3_allowedByPairs 71 = .ok (.aload_n 0, 1) := by decide +kernel
theorem dX3_allowedByPairs_72 : decode cX3_allowedByPairs 72 = .ok (.getfield 33, 3) := by decide +kernel
