theorem e_Ac_init_0 : decode b_Ac_init 0 = .ok (.aload_n 0, 1) := by decide +kernel
theorem e_Ac_init_1 : decode b_Ac_init 1 = .ok (.invokespecial 3, 3) := by decide +kernel
theorem e_Ac_init_4 : decode b_Ac_init 4 = .ok (.aload_n 0, 1) := by decide +kernel
theorem e_Ac_init_5 : decode b_Ac_init 5 = .ok (.bipush 20, 2) := by decide +kernel
theorem e_Ac_init_7 : decode b_Ac_init 7 = .ok (.newarray .int, 2) := by decide +kernel
theorem e_Ac_init_9 : decode b_Ac_init 9 = .ok (.putfield 9, 3) := by decide +kernel
theorem e_Ac_init_12 : decode b_Ac_init 12 = .ok (.return_, 1) := by decide +kernel
theorem e_Ac_forget_0 : decode b_Ac_forget 0 = .ok (.aload_n 0, 1) := by decide +kernel
theorem e_Ac_forget_1 : decode b_Ac_forget 1 = .ok (.iconst 0, 1) := by decide +kernel
theorem e_Ac_forget_2 : decode b_Ac_forget 2 = .ok (.putfield 15, 3) := by decide +kernel
theorem e_Ac_forget_5 : decode b_Ac_forget 5 = .ok (.return_, 1) := by decide +kernel
theorem e_Ac_bodyAt_0 : decode b_Ac_bodyAt 0 = .ok (.iload_n 1, 1) := by decide +kernel
theorem e_Ac_bodyAt_1 : decode b_Ac_bodyAt 1 = .ok (.ifCond .lt 26, 3) := by decide +kernel
theorem e_Ac_bodyAt_4 : decode b_Ac_bodyAt 4 = .ok (.iload_n 1, 1) := by decide +kernel
theorem e_Ac_bodyAt_5 : decode b_Ac_bodyAt 5 = .ok (.aload_n 0, 1) := by decide +kernel
theorem e_Ac_bodyAt_6 : decode b_Ac_bodyAt 6 = .ok (.getfield 15, 3) := by decide +kernel
theorem e_Ac_bodyAt_9 : decode b_Ac_bodyAt 9 = .ok (.if_icmp .ge 18, 3) := by decide +kernel
theorem e_Ac_bodyAt_12 : decode b_Ac_bodyAt 12 = .ok (.iload_n 1, 1) := by decide +kernel
theorem e_Ac_bodyAt_13 : decode b_Ac_bodyAt 13 = .ok (.bipush 20, 2) := by decide +kernel
theorem e_Ac_bodyAt_15 : decode b_Ac_bodyAt 15 = .ok (.if_icmp .ge 12, 3) := by decide +kernel
theorem e_Ac_bodyAt_18 : decode b_Ac_bodyAt 18 = .ok (.aload_n 0, 1) := by decide +kernel
theorem e_Ac_bodyAt_19 : decode b_Ac_bodyAt 19 = .ok (.getfield 9, 3) := by decide +kernel
theorem e_Ac_bodyAt_22 : decode b_Ac_bodyAt 22 = .ok (.iload_n 1, 1) := by decide +kernel
theorem e_Ac_bodyAt_23 : decode b_Ac_bodyAt 23 = .ok (.iaload, 1) := by decide +kernel
theorem e_Ac_bodyAt_24 : decode b_Ac_bodyAt 24 = .ok (.goto 4, 3) := by decide +kernel
theorem e_Ac_bodyAt_27 : decode b_Ac_bodyAt 27 = .ok (.iconst (-1), 1) := by decide +kernel
theorem e_Ac_bodyAt_28 : decode b_Ac_bodyAt 28 = .ok (.ireturn, 1) := by decide +kernel
theorem e_Ac_perform_0 : decode b_Ac_perform 0 = .ok (.aload_n 0, 1) := by decide +kernel
theorem e_Ac_perform_1 : decode b_Ac_perform 1 = .ok (.aload_n 1, 1) := by decide +kernel
theorem e_Ac_perform_2 : decode b_Ac_perform 2 = .ok (.getfield 19, 3) := by decide +kernel
theorem e_Ac_perform_5 : decode b_Ac_perform 5 = .ok (.putfield 24, 3) := by decide +kernel
theorem e_Ac_perform_8 : decode b_Ac_perform 8 = .ok (.aload_n 0, 1) := by decide +kernel
theorem e_Ac_perform_9 : decode b_Ac_perform 9 = .ok (.aload_n 1, 1) := by decide +kernel
theorem e_Ac_perform_10 : decode b_Ac_perform 10 = .ok (.getfield 25, 3) := by decide +kernel
theorem e_Ac_perform_13 : decode b_Ac_perform 13 = .ok (.putfield 28, 3) := by decide +kernel
theorem e_Ac_perform_16 : decode b_Ac_perform 16 = .ok (.aload_n 0, 1) := by decide +kernel
theorem e_Ac_perform_17 : decode b_Ac_perform 17 = .ok (.aload_n 1, 1) := by decide +kernel
theorem e_Ac_perform_18 : decode b_Ac_perform 18 = .ok (.getfield 29, 3) := by decide +kernel
theorem e_Ac_perform_21 : decode b_Ac_perform 21 = .ok (.putfield 32, 3) := by decide +kernel
theorem e_Ac_perform_24 : decode b_Ac_perform 24 = .ok (.aload_n 0, 1) := by decide +kernel
theorem e_Ac_perform_25 : decode b_Ac_perform 25 = .ok (.aload_n 0, 1) := by decide +kernel
theorem e_Ac_perform_26 : decode b_Ac_perform 26 = .ok (.getfield 24, 3) := by decide +kernel
theorem e_Ac_perform_29 : decode b_Ac_perform 29 = .ok (.iload_n 2, 1) := by decide +kernel
theorem e_Ac_perform_30 : decode b_Ac_perform 30 = .ok (.iload_n 3, 1) := by decide +kernel
theorem e_Ac_perform_31 : decode b_Ac_perform 31 = .ok (.iconst 0, 1) := by decide +kernel
theorem e_Ac_perform_32 : decode b_Ac_perform 32 = .ok (.invokevirtual 33, 3) := by decide +kernel
theorem e_Ac_perform_35 : decode b_Ac_perform 35 = .ok (.ireturn, 1) := by decide +kernel
theorem e_Ac_from_0 : decode b_Ac_from 0 = .ok (.iload 4, 2) := by decide +kernel
theorem e_Ac_from_2 : decode b_Ac_from 2 = .ok (.bipush 20, 2) := by decide +kernel
theorem e_Ac_from_4 : decode b_Ac_from 4 = .ok (.if_icmp .ge 12, 3) := by decide +kernel
theorem e_Ac_from_7 : decode b_Ac_from 7 = .ok (.iload_n 2, 1) := by decide +kernel
theorem e_Ac_from_8 : decode b_Ac_from 8 = .ok (.ifCond .lt 8, 3) := by decide +kernel
theorem e_Ac_from_11 : decode b_Ac_from 11 = .ok (.iload_n 2, 1) := by decide +kernel
theorem e_Ac_from_12 : decode b_Ac_from 12 = .ok (.iconst 3, 1) := by decide +kernel
theorem e_Ac_from_13 : decode b_Ac_from 13 = .ok (.if_icmp .lt 5, 3) := by decide +kernel
theorem e_Ac_from_16 : decode b_Ac_from 16 = .ok (.iconst 0, 1) := by decide +kernel
theorem e_Ac_from_17 : decode b_Ac_from 17 = .ok (.ireturn, 1) := by decide +kernel
theorem e_Ac_from_18 : decode b_Ac_from 18 = .ok (.iload_n 1, 1) := by decide +kernel
theorem e_Ac_from_19 : decode b_Ac_from 19 = .ok (.istore 5, 2) := by decide +kernel
theorem e_Ac_from_21 : decode b_Ac_from 21 = .ok (.iconst 0, 1) := by decide +kernel
theorem e_Ac_from_22 : decode b_Ac_from 22 = .ok (.istore 6, 2) := by decide +kernel
theorem e_Ac_from_24 : decode b_Ac_from 24 = .ok (.iload 6, 2) := by decide +kernel
theorem e_Ac_from_26 : decode b_Ac_from 26 = .ok (.getstatic 37, 3) := by decide +kernel
theorem e_Ac_from_29 : decode b_Ac_from 29 = .ok (.arraylength, 1) := by decide +kernel
theorem e_Ac_from_30 : decode b_Ac_from 30 = .ok (.if_icmp .ge 79, 3) := by decide +kernel
theorem e_Ac_from_33 : decode b_Ac_from 33 = .ok (.iload 5, 2) := by decide +kernel
theorem e_Ac_from_35 : decode b_Ac_from 35 = .ok (.ifCond .lt 74, 3) := by decide +kernel
theorem e_Ac_from_38 : decode b_Ac_from 38 = .ok (.iload 5, 2) := by decide +kernel
theorem e_Ac_from_40 : decode b_Ac_from 40 = .ok (.getstatic 37, 3) := by decide +kernel
theorem e_Ac_from_43 : decode b_Ac_from 43 = .ok (.arraylength, 1) := by decide +kernel
theorem e_Ac_from_44 : decode b_Ac_from 44 = .ok (.if_icmp .ge 65, 3) := by decide +kernel
theorem e_Ac_from_47 : decode b_Ac_from 47 = .ok (.iload 5, 2) := by decide +kernel
theorem e_Ac_from_49 : decode b_Ac_from 49 = .ok (.iconst 3, 1) := by decide +kernel
theorem e_Ac_from_50 : decode b_Ac_from 50 = .ok (.imul, 1) := by decide +kernel
theorem e_Ac_from_51 : decode b_Ac_from 51 = .ok (.iload_n 2, 1) := by decide +kernel
theorem e_Ac_from_52 : decode b_Ac_from 52 = .ok (.iadd, 1) := by decide +kernel
theorem e_Ac_from_53 : decode b_Ac_from 53 = .ok (.istore 7, 2) := by decide +kernel
theorem e_Ac_from_55 : decode b_Ac_from 55 = .ok (.iload 7, 2) := by decide +kernel
theorem e_Ac_from_57 : decode b_Ac_from 57 = .ok (.getstatic 40, 3) := by decide +kernel
theorem e_Ac_from_60 : decode b_Ac_from 60 = .ok (.arraylength, 1) := by decide +kernel
theorem e_Ac_from_61 : decode b_Ac_from 61 = .ok (.if_icmp .ge 34, 3) := by decide +kernel
theorem e_Ac_from_64 : decode b_Ac_from 64 = .ok (.getstatic 40, 3) := by decide +kernel
theorem e_Ac_from_67 : decode b_Ac_from 67 = .ok (.iload 7, 2) := by decide +kernel
theorem e_Ac_from_69 : decode b_Ac_from 69 = .ok (.iaload, 1) := by decide +kernel
theorem e_Ac_from_70 : decode b_Ac_from 70 = .ok (.ifCond .eq 25, 3) := by decide +kernel
theorem e_Ac_from_73 : decode b_Ac_from 73 = .ok (.aload_n 0, 1) := by decide +kernel
theorem e_Ac_from_74 : decode b_Ac_from 74 = .ok (.getstatic 40, 3) := by decide +kernel
theorem e_Ac_from_77 : decode b_Ac_from 77 = .ok (.iload 7, 2) := by decide +kernel
theorem e_Ac_from_79 : decode b_Ac_from 79 = .ok (.iaload, 1) := by decide +kernel
theorem e_Ac_from_80 : decode b_Ac_from 80 = .ok (.getstatic 37, 3) := by decide +kernel
theorem e_Ac_from_83 : decode b_Ac_from 83 = .ok (.iload 5, 2) := by decide +kernel
theorem e_Ac_from_85 : decode b_Ac_from 85 = .ok (.iaload, 1) := by decide +kernel
theorem e_Ac_from_86 : decode b_Ac_from 86 = .ok (.iload_n 3, 1) := by decide +kernel
theorem e_Ac_from_87 : decode b_Ac_from 87 = .ok (.iload 4, 2) := by decide +kernel
theorem e_Ac_from_89 : decode b_Ac_from 89 = .ok (.iconst 1, 1) := by decide +kernel
theorem e_Ac_from_90 : decode b_Ac_from 90 = .ok (.iadd, 1) := by decide +kernel
theorem e_Ac_from_91 : decode b_Ac_from 91 = .ok (.invokevirtual 43, 3) := by decide +kernel
theorem e_Ac_from_94 : decode b_Ac_from 94 = .ok (.ireturn, 1) := by decide +kernel
theorem e_Ac_from_95 : decode b_Ac_from 95 = .ok (.getstatic 37, 3) := by decide +kernel
theorem e_Ac_from_98 : decode b_Ac_from 98 = .ok (.iload 5, 2) := by decide +kernel
theorem e_Ac_from_100 : decode b_Ac_from 100 = .ok (.iaload, 1) := by decide +kernel
theorem e_Ac_from_101 : decode b_Ac_from 101 = .ok (.istore 5, 2) := by decide +kernel
theorem e_Ac_from_103 : decode b_Ac_from 103 = .ok (.iinc 6 1, 3) := by decide +kernel
theorem e_Ac_from_106 : decode b_Ac_from 106 = .ok (.goto (-82), 3) := by decide +kernel
theorem e_Ac_from_109 : decode b_Ac_from 109 = .ok (.iconst 0, 1) := by decide +kernel
theorem e_Ac_from_110 : decode b_Ac_from 110 = .ok (.ireturn, 1) := by decide +kernel
theorem e_Ac_body_0 : decode b_Ac_body 0 = .ok (.aload_n 0, 1) := by decide +kernel
theorem e_Ac_body_1 : decode b_Ac_body 1 = .ok (.getfield 15, 3) := by decide +kernel
theorem e_Ac_body_4 : decode b_Ac_body 4 = .ok (.ifCond .lt 22, 3) := by decide +kernel
theorem e_Ac_body_7 : decode b_Ac_body 7 = .ok (.aload_n 0, 1) := by decide +kernel
theorem e_Ac_body_8 : decode b_Ac_body 8 = .ok (.getfield 15, 3) := by decide +kernel
theorem e_Ac_body_11 : decode b_Ac_body 11 = .ok (.bipush 20, 2) := by decide +kernel
theorem e_Ac_body_13 : decode b_Ac_body 13 = .ok (.if_icmp .ge 13, 3) := by decide +kernel
theorem e_Ac_body_16 : decode b_Ac_body 16 = .ok (.aload_n 0, 1) := by decide +kernel
theorem e_Ac_body_17 : decode b_Ac_body 17 = .ok (.getfield 9, 3) := by decide +kernel
theorem e_Ac_body_20 : decode b_Ac_body 20 = .ok (.aload_n 0, 1) := by decide +kernel
theorem e_Ac_body_21 : decode b_Ac_body 21 = .ok (.getfield 15, 3) := by decide +kernel
theorem e_Ac_body_24 : decode b_Ac_body 24 = .ok (.iload_n 1, 1) := by decide +kernel
theorem e_Ac_body_25 : decode b_Ac_body 25 = .ok (.iastore, 1) := by decide +kernel
theorem e_Ac_body_26 : decode b_Ac_body 26 = .ok (.aload_n 0, 1) := by decide +kernel
theorem e_Ac_body_27 : decode b_Ac_body 27 = .ok (.dup, 1) := by decide +kernel
theorem e_Ac_body_28 : decode b_Ac_body 28 = .ok (.getfield 15, 3) := by decide +kernel
theorem e_Ac_body_31 : decode b_Ac_body 31 = .ok (.iconst 1, 1) := by decide +kernel
theorem e_Ac_body_32 : decode b_Ac_body 32 = .ok (.iadd, 1) := by decide +kernel
theorem e_Ac_body_33 : decode b_Ac_body 33 = .ok (.putfield 15, 3) := by decide +kernel
theorem e_Ac_body_36 : decode b_Ac_body 36 = .ok (.iload_n 1, 1) := by decide +kernel
theorem e_Ac_body_37 : decode b_Ac_body 37 = .ok (.lookupswitch 260 #[(10, 99), (11, 106), (12, 124), (20, 139), (30, 152), (40, 164), (50, 187), (51, 198), (60, 210), (70, 225), (71, 245)], 99) := by decide +kernel
theorem e_Ac_body_136 : decode b_Ac_body 136 = .ok (.iload_n 3, 1) := by decide +kernel
theorem e_Ac_body_137 : decode b_Ac_body 137 = .ok (.aload_n 0, 1) := by decide +kernel
theorem e_Ac_body_138 : decode b_Ac_body 138 = .ok (.getfield 28, 3) := by decide +kernel
theorem e_Ac_body_141 : decode b_Ac_body 141 = .ok (.iadd, 1) := by decide +kernel
theorem e_Ac_body_142 : decode b_Ac_body 142 = .ok (.ireturn, 1) := by decide +kernel
theorem e_Ac_body_143 : decode b_Ac_body 143 = .ok (.aload_n 0, 1) := by decide +kernel
theorem e_Ac_body_144 : decode b_Ac_body 144 = .ok (.aload_n 0, 1) := by decide +kernel
theorem e_Ac_body_145 : decode b_Ac_body 145 = .ok (.getfield 24, 3) := by decide +kernel
theorem e_Ac_body_148 : decode b_Ac_body 148 = .ok (.iconst 0, 1) := by decide +kernel
theorem e_Ac_body_149 : decode b_Ac_body 149 = .ok (.iload_n 3, 1) := by decide +kernel
theorem e_Ac_body_150 : decode b_Ac_body 150 = .ok (.iload 4, 2) := by decide +kernel
theorem e_Ac_body_152 : decode b_Ac_body 152 = .ok (.invokevirtual 33, 3) := by decide +kernel
theorem e_Ac_body_155 : decode b_Ac_body 155 = .ok (.aload_n 0, 1) := by decide +kernel
theorem e_Ac_body_156 : decode b_Ac_body 156 = .ok (.getfield 32, 3) := by decide +kernel
theorem e_Ac_body_159 : decode b_Ac_body 159 = .ok (.isub, 1) := by decide +kernel
theorem e_Ac_body_160 : decode b_Ac_body 160 = .ok (.ireturn, 1) := by decide +kernel
theorem e_Ac_body_161 : decode b_Ac_body 161 = .ok (.aload_n 0, 1) := by decide +kernel
theorem e_Ac_body_162 : decode b_Ac_body 162 = .ok (.aload_n 0, 1) := by decide +kernel
theorem e_Ac_body_163 : decode b_Ac_body 163 = .ok (.getfield 24, 3) := by decide +kernel
theorem e_Ac_body_166 : decode b_Ac_body 166 = .ok (.iconst 1, 1) := by decide +kernel
theorem e_Ac_body_167 : decode b_Ac_body 167 = .ok (.iload_n 3, 1) := by decide +kernel
theorem e_Ac_body_168 : decode b_Ac_body 168 = .ok (.iload 4, 2) := by decide +kernel
theorem e_Ac_body_170 : decode b_Ac_body 170 = .ok (.invokevirtual 33, 3) := by decide +kernel
theorem e_Ac_body_173 : decode b_Ac_body 173 = .ok (.iconst 2, 1) := by decide +kernel
theorem e_Ac_body_174 : decode b_Ac_body 174 = .ok (.imul, 1) := by decide +kernel
theorem e_Ac_body_175 : decode b_Ac_body 175 = .ok (.ireturn, 1) := by decide +kernel
theorem e_Ac_body_176 : decode b_Ac_body 176 = .ok (.aload_n 0, 1) := by decide +kernel
theorem e_Ac_body_177 : decode b_Ac_body 177 = .ok (.iload_n 2, 1) := by decide +kernel
theorem e_Ac_body_178 : decode b_Ac_body 178 = .ok (.iconst 1, 1) := by decide +kernel
theorem e_Ac_body_179 : decode b_Ac_body 179 = .ok (.iload_n 3, 1) := by decide +kernel
theorem e_Ac_body_180 : decode b_Ac_body 180 = .ok (.iload 4, 2) := by decide +kernel
theorem e_Ac_body_182 : decode b_Ac_body 182 = .ok (.invokevirtual 33, 3) := by decide +kernel
theorem e_Ac_body_185 : decode b_Ac_body 185 = .ok (.bipush 6, 2) := by decide +kernel
theorem e_Ac_body_187 : decode b_Ac_body 187 = .ok (.ixor, 1) := by decide +kernel
theorem e_Ac_body_188 : decode b_Ac_body 188 = .ok (.ireturn, 1) := by decide +kernel
theorem e_Ac_body_189 : decode b_Ac_body 189 = .ok (.aload_n 0, 1) := by decide +kernel
theorem e_Ac_body_190 : decode b_Ac_body 190 = .ok (.iload_n 2, 1) := by decide +kernel
theorem e_Ac_body_191 : decode b_Ac_body 191 = .ok (.iconst 0, 1) := by decide +kernel
theorem e_Ac_body_192 : decode b_Ac_body 192 = .ok (.iload_n 3, 1) := by decide +kernel
theorem e_Ac_body_193 : decode b_Ac_body 193 = .ok (.iconst 3, 1) := by decide +kernel
theorem e_Ac_body_194 : decode b_Ac_body 194 = .ok (.imul, 1) := by decide +kernel
theorem e_Ac_body_195 : decode b_Ac_body 195 = .ok (.iload 4, 2) := by decide +kernel
theorem e_Ac_body_197 : decode b_Ac_body 197 = .ok (.invokevirtual 33, 3) := by decide +kernel
theorem e_Ac_body_200 : decode b_Ac_body 200 = .ok (.ireturn, 1) := by decide +kernel
theorem e_Ac_body_201 : decode b_Ac_body 201 = .ok (.aload_n 0, 1) := by decide +kernel
theorem e_Ac_body_202 : decode b_Ac_body 202 = .ok (.iload_n 2, 1) := by decide +kernel
theorem e_Ac_body_203 : decode b_Ac_body 203 = .ok (.iconst 2, 1) := by decide +kernel
theorem e_Ac_body_204 : decode b_Ac_body 204 = .ok (.iload_n 3, 1) := by decide +kernel
theorem e_Ac_body_205 : decode b_Ac_body 205 = .ok (.iload 4, 2) := by decide +kernel
theorem e_Ac_body_207 : decode b_Ac_body 207 = .ok (.invokevirtual 33, 3) := by decide +kernel
theorem e_Ac_body_210 : decode b_Ac_body 210 = .ok (.aload_n 0, 1) := by decide +kernel
theorem e_Ac_body_211 : decode b_Ac_body 211 = .ok (.aload_n 0, 1) := by decide +kernel
theorem e_Ac_body_212 : decode b_Ac_body 212 = .ok (.getfield 24, 3) := by decide +kernel
theorem e_Ac_body_215 : decode b_Ac_body 215 = .ok (.iconst 1, 1) := by decide +kernel
theorem e_Ac_body_216 : decode b_Ac_body 216 = .ok (.iconst 1, 1) := by decide +kernel
theorem e_Ac_body_217 : decode b_Ac_body 217 = .ok (.iload 4, 2) := by decide +kernel
theorem e_Ac_body_219 : decode b_Ac_body 219 = .ok (.invokevirtual 33, 3) := by decide +kernel
theorem e_Ac_body_222 : decode b_Ac_body 222 = .ok (.iadd, 1) := by decide +kernel
theorem e_Ac_body_223 : decode b_Ac_body 223 = .ok (.ireturn, 1) := by decide +kernel
theorem e_Ac_body_224 : decode b_Ac_body 224 = .ok (.aload_n 0, 1) := by decide +kernel
theorem e_Ac_body_225 : decode b_Ac_body 225 = .ok (.iload_n 2, 1) := by decide +kernel
theorem e_Ac_body_226 : decode b_Ac_body 226 = .ok (.iconst 0, 1) := by decide +kernel
theorem e_Ac_body_227 : decode b_Ac_body 227 = .ok (.iload_n 3, 1) := by decide +kernel
theorem e_Ac_body_228 : decode b_Ac_body 228 = .ok (.iload 4, 2) := by decide +kernel
theorem e_Ac_body_230 : decode b_Ac_body 230 = .ok (.invokevirtual 33, 3) := by decide +kernel
theorem e_Ac_body_233 : decode b_Ac_body 233 = .ok (.ineg, 1) := by decide +kernel
theorem e_Ac_body_234 : decode b_Ac_body 234 = .ok (.ireturn, 1) := by decide +kernel
theorem e_Ac_body_235 : decode b_Ac_body 235 = .ok (.aload_n 0, 1) := by decide +kernel
theorem e_Ac_body_236 : decode b_Ac_body 236 = .ok (.iload_n 2, 1) := by decide +kernel
theorem e_Ac_body_237 : decode b_Ac_body 237 = .ok (.iconst 1, 1) := by decide +kernel
theorem e_Ac_body_238 : decode b_Ac_body 238 = .ok (.iload_n 3, 1) := by decide +kernel
theorem e_Ac_body_239 : decode b_Ac_body 239 = .ok (.iconst 1, 1) := by decide +kernel
theorem e_Ac_body_240 : decode b_Ac_body 240 = .ok (.iadd, 1) := by decide +kernel
theorem e_Ac_body_241 : decode b_Ac_body 241 = .ok (.iload 4, 2) := by decide +kernel
theorem e_Ac_body_243 : decode b_Ac_body 243 = .ok (.invokevirtual 33, 3) := by decide +kernel
theorem e_Ac_body_246 : decode b_Ac_body 246 = .ok (.ireturn, 1) := by decide +kernel
theorem e_Ac_body_247 : decode b_Ac_body 247 = .ok (.aload_n 0, 1) := by decide +kernel
theorem e_Ac_body_248 : decode b_Ac_body 248 = .ok (.iload_n 2, 1) := by decide +kernel
theorem e_Ac_body_249 : decode b_Ac_body 249 = .ok (.iconst 2, 1) := by decide +kernel
theorem e_Ac_body_250 : decode b_Ac_body 250 = .ok (.iload_n 3, 1) := by decide +kernel
theorem e_Ac_body_251 : decode b_Ac_body 251 = .ok (.aload_n 0, 1) := by decide +kernel
theorem e_Ac_body_252 : decode b_Ac_body 252 = .ok (.getfield 28, 3) := by decide +kernel
theorem e_Ac_body_255 : decode b_Ac_body 255 = .ok (.isub, 1) := by decide +kernel
theorem e_Ac_body_256 : decode b_Ac_body 256 = .ok (.iload 4, 2) := by decide +kernel
theorem e_Ac_body_258 : decode b_Ac_body 258 = .ok (.invokevirtual 33, 3) := by decide +kernel
theorem e_Ac_body_261 : decode b_Ac_body 261 = .ok (.ireturn, 1) := by decide +kernel
theorem e_Ac_body_262 : decode b_Ac_body 262 = .ok (.aload_n 0, 1) := by decide +kernel
theorem e_Ac_body_263 : decode b_Ac_body 263 = .ok (.iload_n 2, 1) := by decide +kernel
theorem e_Ac_body_264 : decode b_Ac_body 264 = .ok (.iconst 1, 1) := by decide +kernel
theorem e_Ac_body_265 : decode b_Ac_body 265 = .ok (.iload_n 3, 1) := by decide +kernel
theorem e_Ac_body_266 : decode b_Ac_body 266 = .ok (.iload 4, 2) := by decide +kernel
theorem e_Ac_body_268 : decode b_Ac_body 268 = .ok (.invokevirtual 33, 3) := by decide +kernel
theorem e_Ac_body_271 : decode b_Ac_body 271 = .ok (.aload_n 0, 1) := by decide +kernel
theorem e_Ac_body_272 : decode b_Ac_body 272 = .ok (.iload_n 2, 1) := by decide +kernel
theorem e_Ac_body_273 : decode b_Ac_body 273 = .ok (.iconst 0, 1) := by decide +kernel
theorem e_Ac_body_274 : decode b_Ac_body 274 = .ok (.iconst 2, 1) := by decide +kernel
theorem e_Ac_body_275 : decode b_Ac_body 275 = .ok (.iload 4, 2) := by decide +kernel
theorem e_Ac_body_277 : decode b_Ac_body 277 = .ok (.invokevirtual 33, 3) := by decide +kernel
theorem e_Ac_body_280 : decode b_Ac_body 280 = .ok (.iadd, 1) := by decide +kernel
theorem e_Ac_body_281 : decode b_Ac_body 281 = .ok (.ireturn, 1) := by decide +kernel
theorem e_Ac_body_282 : decode b_Ac_body 282 = .ok (.aload_n 0, 1) := by decide +kernel
theorem e_Ac_body_283 : decode b_Ac_body 283 = .ok (.iload_n 2, 1) := by decide +kernel
theorem e_Ac_body_284 : decode b_Ac_body 284 = .ok (.iconst 0, 1) := by decide +kernel
theorem e_Ac_body_285 : decode b_Ac_body 285 = .ok (.iload_n 3, 1) := by decide +kernel
theorem e_Ac_body_286 : decode b_Ac_body 286 = .ok (.iload 4, 2) := by decide +kernel
theorem e_Ac_body_288 : decode b_Ac_body 288 = .ok (.invokevirtual 33, 3) := by decide +kernel
theorem e_Ac_body_291 : decode b_Ac_body 291 = .ok (.aload_n 0, 1) := by decide +kernel
theorem e_Ac_body_292 : decode b_Ac_body 292 = .ok (.getfield 32, 3) := by decide +kernel
theorem e_Ac_body_295 : decode b_Ac_body 295 = .ok (.ixor, 1) := by decide +kernel
theorem e_Ac_body_296 : decode b_Ac_body 296 = .ok (.ireturn, 1) := by decide +kernel
theorem e_Ac_body_297 : decode b_Ac_body 297 = .ok (.iconst 0, 1) := by decide +kernel
theorem e_Ac_body_298 : decode b_Ac_body 298 = .ok (.ireturn, 1) := by decide +kernel
theorem e_As_init_0 : decode b_As_init 0 = .ok (.aload_n 0, 1) := by decide +kernel
theorem e_As_init_1 : decode b_As_init 1 = .ok (.invokespecial 3, 3) := by decide +kernel
theorem e_As_init_4 : decode b_As_init 4 = .ok (.aload_n 0, 1) := by decide +kernel
theorem e_As_init_5 : decode b_As_init 5 = .ok (.iconst 3, 1) := by decide +kernel
theorem e_As_init_6 : decode b_As_init 6 = .ok (.newarray .int, 2) := by decide +kernel
theorem e_As_init_8 : decode b_As_init 8 = .ok (.putfield 9, 3) := by decide +kernel
theorem e_As_init_11 : decode b_As_init 11 = .ok (.aload_n 0, 1) := by decide +kernel
theorem e_As_init_12 : decode b_As_init 12 = .ok (.iconst 3, 1) := by decide +kernel
theorem e_As_init_13 : decode b_As_init 13 = .ok (.newarray .int, 2) := by decide +kernel
theorem e_As_init_15 : decode b_As_init 15 = .ok (.putfield 15, 3) := by decide +kernel
theorem e_As_init_18 : decode b_As_init 18 = .ok (.aload_n 0, 1) := by decide +kernel
theorem e_As_init_19 : decode b_As_init 19 = .ok (.aload_n 1, 1) := by decide +kernel
theorem e_As_init_20 : decode b_As_init 20 = .ok (.putfield 18, 3) := by decide +kernel
theorem e_As_init_23 : decode b_As_init 23 = .ok (.aload_n 0, 1) := by decide +kernel
theorem e_As_init_24 : decode b_As_init 24 = .ok (.new 22, 3) := by decide +kernel
theorem e_As_init_27 : decode b_As_init 27 = .ok (.dup, 1) := by decide +kernel
theorem e_As_init_28 : decode b_As_init 28 = .ok (.aload_n 2, 1) := by decide +kernel
theorem e_As_init_29 : decode b_As_init 29 = .ok (.invokespecial 24, 3) := by decide +kernel
theorem e_As_init_32 : decode b_As_init 32 = .ok (.putfield 27, 3) := by decide +kernel
theorem e_As_init_35 : decode b_As_init 35 = .ok (.return_, 1) := by decide +kernel
theorem e_As_behind_0 : decode b_As_behind 0 = .ok (.aload_n 0, 1) := by decide +kernel
theorem e_As_behind_1 : decode b_As_behind 1 = .ok (.getfield 27, 3) := by decide +kernel
theorem e_As_behind_4 : decode b_As_behind 4 = .ok (.aload_n 0, 1) := by decide +kernel
theorem e_As_behind_5 : decode b_As_behind 5 = .ok (.getfield 18, 3) := by decide +kernel
theorem e_As_behind_8 : decode b_As_behind 8 = .ok (.getfield 31, 3) := by decide +kernel
theorem e_As_behind_11 : decode b_As_behind 11 = .ok (.invokevirtual 36, 3) := by decide +kernel
theorem e_As_behind_14 : decode b_As_behind 14 = .ok (.aload_n 0, 1) := by decide +kernel
theorem e_As_behind_15 : decode b_As_behind 15 = .ok (.getfield 27, 3) := by decide +kernel
theorem e_As_behind_18 : decode b_As_behind 18 = .ok (.iload_n 1, 1) := by decide +kernel
theorem e_As_behind_19 : decode b_As_behind 19 = .ok (.invokevirtual 40, 3) := by decide +kernel
theorem e_As_behind_22 : decode b_As_behind 22 = .ok (.iload_n 2, 1) := by decide +kernel
theorem e_As_behind_23 : decode b_As_behind 23 = .ok (.ifCond .eq 11, 3) := by decide +kernel
theorem e_As_behind_26 : decode b_As_behind 26 = .ok (.aload_n 0, 1) := by decide +kernel
theorem e_As_behind_27 : decode b_As_behind 27 = .ok (.getfield 27, 3) := by decide +kernel
theorem e_As_behind_30 : decode b_As_behind 30 = .ok (.getfield 44, 3) := by decide +kernel
theorem e_As_behind_33 : decode b_As_behind 33 = .ok (.ireturn, 1) := by decide +kernel
theorem e_As_behind_34 : decode b_As_behind 34 = .ok (.aload_n 0, 1) := by decide +kernel
theorem e_As_behind_35 : decode b_As_behind 35 = .ok (.getfield 27, 3) := by decide +kernel
theorem e_As_behind_38 : decode b_As_behind 38 = .ok (.getfield 48, 3) := by decide +kernel
theorem e_As_behind_41 : decode b_As_behind 41 = .ok (.ifCond .eq 7, 3) := by decide +kernel
theorem e_As_behind_44 : decode b_As_behind 44 = .ok (.iconst 1, 1) := by decide +kernel
theorem e_As_behind_45 : decode b_As_behind 45 = .ok (.goto 4, 3) := by decide +kernel
theorem e_As_behind_48 : decode b_As_behind 48 = .ok (.iconst 0, 1) := by decide +kernel
theorem e_As_behind_49 : decode b_As_behind 49 = .ok (.ireturn, 1) := by decide +kernel
theorem e_As_sets_0 : decode b_As_sets 0 = .ok (.aload_n 0, 1) := by decide +kernel
theorem e_As_sets_1 : decode b_As_sets 1 = .ok (.getfield 27, 3) := by decide +kernel
theorem e_As_sets_4 : decode b_As_sets 4 = .ok (.aload_n 0, 1) := by decide +kernel
theorem e_As_sets_5 : decode b_As_sets 5 = .ok (.getfield 18, 3) := by decide +kernel
theorem e_As_sets_8 : decode b_As_sets 8 = .ok (.getfield 31, 3) := by decide +kernel
theorem e_As_sets_11 : decode b_As_sets 11 = .ok (.invokevirtual 36, 3) := by decide +kernel
theorem e_As_sets_14 : decode b_As_sets 14 = .ok (.aload_n 0, 1) := by decide +kernel
theorem e_As_sets_15 : decode b_As_sets 15 = .ok (.invokevirtual 52, 3) := by decide +kernel
theorem e_As_sets_18 : decode b_As_sets 18 = .ok (.istore_n 1, 1) := by decide +kernel
theorem e_As_sets_19 : decode b_As_sets 19 = .ok (.iload_n 1, 1) := by decide +kernel
theorem e_As_sets_20 : decode b_As_sets 20 = .ok (.bipush 61, 2) := by decide +kernel
theorem e_As_sets_22 : decode b_As_sets 22 = .ok (.if_icmp .ne 8, 3) := by decide +kernel
theorem e_As_sets_25 : decode b_As_sets 25 = .ok (.bipush (-5), 2) := by decide +kernel
theorem e_As_sets_27 : decode b_As_sets 27 = .ok (.goto 4, 3) := by decide +kernel
theorem e_As_sets_30 : decode b_As_sets 30 = .ok (.iload_n 1, 1) := by decide +kernel
theorem e_As_sets_31 : decode b_As_sets 31 = .ok (.ireturn, 1) := by decide +kernel
theorem e_As_minutesToSet_0 : decode b_As_minutesToSet 0 = .ok (.iconst 0, 1) := by decide +kernel
theorem e_As_minutesToSet_1 : decode b_As_minutesToSet 1 = .ok (.istore_n 1, 1) := by decide +kernel
theorem e_As_minutesToSet_2 : decode b_As_minutesToSet 2 = .ok (.iload_n 1, 1) := by decide +kernel
theorem e_As_minutesToSet_3 : decode b_As_minutesToSet 3 = .ok (.bipush 60, 2) := by decide +kernel
theorem e_As_minutesToSet_5 : decode b_As_minutesToSet 5 = .ok (.if_icmp .gt 28, 3) := by decide +kernel
theorem e_As_minutesToSet_8 : decode b_As_minutesToSet 8 = .ok (.aload_n 0, 1) := by decide +kernel
theorem e_As_minutesToSet_9 : decode b_As_minutesToSet 9 = .ok (.getfield 27, 3) := by decide +kernel
theorem e_As_minutesToSet_12 : decode b_As_minutesToSet 12 = .ok (.getfield 48, 3) := by decide +kernel
theorem e_As_minutesToSet_15 : decode b_As_minutesToSet 15 = .ok (.ifCond .eq 5, 3) := by decide +kernel
theorem e_As_minutesToSet_18 : decode b_As_minutesToSet 18 = .ok (.iload_n 1, 1) := by decide +kernel
theorem e_As_minutesToSet_19 : decode b_As_minutesToSet 19 = .ok (.ireturn, 1) := by decide +kernel
theorem e_As_minutesToSet_20 : decode b_As_minutesToSet 20 = .ok (.aload_n 0, 1) := by decide +kernel
theorem e_As_minutesToSet_21 : decode b_As_minutesToSet 21 = .ok (.getfield 27, 3) := by decide +kernel
theorem e_As_minutesToSet_24 : decode b_As_minutesToSet 24 = .ok (.invokevirtual 56, 3) := by decide +kernel
theorem e_As_minutesToSet_27 : decode b_As_minutesToSet 27 = .ok (.iinc 1 1, 3) := by decide +kernel
theorem e_As_minutesToSet_30 : decode b_As_minutesToSet 30 = .ok (.goto (-28), 3) := by decide +kernel
theorem e_As_minutesToSet_33 : decode b_As_minutesToSet 33 = .ok (.bipush 61, 2) := by decide +kernel
theorem e_As_minutesToSet_35 : decode b_As_minutesToSet 35 = .ok (.ireturn, 1) := by decide +kernel
theorem e_As_word_0 : decode b_As_word 0 = .ok (.aload_n 0, 1) := by decide +kernel
theorem e_As_word_1 : decode b_As_word 1 = .ok (.getfield 27, 3) := by decide +kernel
theorem e_As_word_4 : decode b_As_word 4 = .ok (.aload_n 0, 1) := by decide +kernel
theorem e_As_word_5 : decode b_As_word 5 = .ok (.getfield 18, 3) := by decide +kernel
theorem e_As_word_8 : decode b_As_word 8 = .ok (.getfield 31, 3) := by decide +kernel
theorem e_As_word_11 : decode b_As_word 11 = .ok (.invokevirtual 36, 3) := by decide +kernel
theorem e_As_word_14 : decode b_As_word 14 = .ok (.aload_n 0, 1) := by decide +kernel
theorem e_As_word_15 : decode b_As_word 15 = .ok (.invokevirtual 52, 3) := by decide +kernel
theorem e_As_word_18 : decode b_As_word 18 = .ok (.istore_n 1, 1) := by decide +kernel
theorem e_As_word_19 : decode b_As_word 19 = .ok (.bipush (-5), 2) := by decide +kernel
theorem e_As_word_21 : decode b_As_word 21 = .ok (.istore_n 2, 1) := by decide +kernel
theorem e_As_word_22 : decode b_As_word 22 = .ok (.iconst 0, 1) := by decide +kernel
theorem e_As_word_23 : decode b_As_word 23 = .ok (.istore_n 3, 1) := by decide +kernel
theorem e_As_word_24 : decode b_As_word 24 = .ok (.iload_n 3, 1) := by decide +kernel
theorem e_As_word_25 : decode b_As_word 25 = .ok (.bipush 6, 2) := by decide +kernel
theorem e_As_word_27 : decode b_As_word 27 = .ok (.if_icmp .ge 73, 3) := by decide +kernel
theorem e_As_word_30 : decode b_As_word 30 = .ok (.aload_n 0, 1) := by decide +kernel
theorem e_As_word_31 : decode b_As_word 31 = .ok (.getfield 27, 3) := by decide +kernel
theorem e_As_word_34 : decode b_As_word 34 = .ok (.aload_n 0, 1) := by decide +kernel
theorem e_As_word_35 : decode b_As_word 35 = .ok (.getfield 18, 3) := by decide +kernel
theorem e_As_word_38 : decode b_As_word 38 = .ok (.getfield 31, 3) := by decide +kernel
theorem e_As_word_41 : decode b_As_word 41 = .ok (.invokevirtual 36, 3) := by decide +kernel
theorem e_As_word_44 : decode b_As_word 44 = .ok (.aload_n 0, 1) := by decide +kernel
theorem e_As_word_45 : decode b_As_word 45 = .ok (.getfield 27, 3) := by decide +kernel
theorem e_As_word_48 : decode b_As_word 48 = .ok (.iload_n 3, 1) := by decide +kernel
theorem e_As_word_49 : decode b_As_word 49 = .ok (.invokevirtual 59, 3) := by decide +kernel
theorem e_As_word_52 : decode b_As_word 52 = .ok (.astore 4, 2) := by decide +kernel
theorem e_As_word_54 : decode b_As_word 54 = .ok (.aload 4, 2) := by decide +kernel
theorem e_As_word_56 : decode b_As_word 56 = .ok (.ifnull 38, 3) := by decide +kernel
theorem e_As_word_59 : decode b_As_word 59 = .ok (.aload 4, 2) := by decide +kernel
theorem e_As_word_61 : decode b_As_word 61 = .ok (.getfield 63, 3) := by decide +kernel
theorem e_As_word_64 : decode b_As_word 64 = .ok (.iconst 2, 1) := by decide +kernel
theorem e_As_word_65 : decode b_As_word 65 = .ok (.if_icmp .eq 29, 3) := by decide +kernel
theorem e_As_word_68 : decode b_As_word 68 = .ok (.aload_n 0, 1) := by decide +kernel
theorem e_As_word_69 : decode b_As_word 69 = .ok (.getfield 27, 3) := by decide +kernel
theorem e_As_word_72 : decode b_As_word 72 = .ok (.aload 4, 2) := by decide +kernel
theorem e_As_word_74 : decode b_As_word 74 = .ok (.invokevirtual 68, 3) := by decide +kernel
theorem e_As_word_77 : decode b_As_word 77 = .ok (.aload_n 0, 1) := by decide +kernel
theorem e_As_word_78 : decode b_As_word 78 = .ok (.invokevirtual 52, 3) := by decide +kernel
theorem e_As_word_81 : decode b_As_word 81 = .ok (.istore 5, 2) := by decide +kernel
theorem e_As_word_83 : decode b_As_word 83 = .ok (.iload 5, 2) := by decide +kernel
theorem e_As_word_85 : decode b_As_word 85 = .ok (.iload_n 1, 1) := by decide +kernel
theorem e_As_word_86 : decode b_As_word 86 = .ok (.if_icmp .le 8, 3) := by decide +kernel
theorem e_As_word_89 : decode b_As_word 89 = .ok (.iload 5, 2) := by decide +kernel
theorem e_As_word_91 : decode b_As_word 91 = .ok (.istore_n 1, 1) := by decide +kernel
theorem e_As_word_92 : decode b_As_word 92 = .ok (.iload_n 3, 1) := by decide +kernel
theorem e_As_word_93 : decode b_As_word 93 = .ok (.istore_n 2, 1) := by decide +kernel
theorem e_As_word_94 : decode b_As_word 94 = .ok (.iinc 3 1, 3) := by decide +kernel
theorem e_As_word_97 : decode b_As_word 97 = .ok (.goto (-73), 3) := by decide +kernel
theorem e_As_word_100 : decode b_As_word 100 = .ok (.iload_n 2, 1) := by decide +kernel
theorem e_As_word_101 : decode b_As_word 101 = .ok (.ireturn, 1) := by decide +kernel
theorem e_As_bestRow_0 : decode b_As_bestRow 0 = .ok (.iconst 1, 1) := by decide +kernel
theorem e_As_bestRow_1 : decode b_As_bestRow 1 = .ok (.istore_n 3, 1) := by decide +kernel
theorem e_As_bestRow_2 : decode b_As_bestRow 2 = .ok (.iconst 0, 1) := by decide +kernel
theorem e_As_bestRow_3 : decode b_As_bestRow 3 = .ok (.istore 4, 2) := by decide +kernel
theorem e_As_bestRow_5 : decode b_As_bestRow 5 = .ok (.iload 4, 2) := by decide +kernel
theorem e_As_bestRow_7 : decode b_As_bestRow 7 = .ok (.iload_n 1, 1) := by decide +kernel
theorem e_As_bestRow_8 : decode b_As_bestRow 8 = .ok (.if_icmp .ge 14, 3) := by decide +kernel
theorem e_As_bestRow_11 : decode b_As_bestRow 11 = .ok (.iload_n 3, 1) := by decide +kernel
theorem e_As_bestRow_12 : decode b_As_bestRow 12 = .ok (.bipush 6, 2) := by decide +kernel
theorem e_As_bestRow_14 : decode b_As_bestRow 14 = .ok (.imul, 1) := by decide +kernel
theorem e_As_bestRow_15 : decode b_As_bestRow 15 = .ok (.istore_n 3, 1) := by decide +kernel
theorem e_As_bestRow_16 : decode b_As_bestRow 16 = .ok (.iinc 4 1, 3) := by decide +kernel
theorem e_As_bestRow_19 : decode b_As_bestRow 19 = .ok (.goto (-14), 3) := by decide +kernel
theorem e_As_bestRow_22 : decode b_As_bestRow 22 = .ok (.bipush (-5), 2) := by decide +kernel
theorem e_As_bestRow_24 : decode b_As_bestRow 24 = .ok (.istore 4, 2) := by decide +kernel
theorem e_As_bestRow_26 : decode b_As_bestRow 26 = .ok (.iconst 0, 1) := by decide +kernel
theorem e_As_bestRow_27 : decode b_As_bestRow 27 = .ok (.istore 5, 2) := by decide +kernel
theorem e_As_bestRow_29 : decode b_As_bestRow 29 = .ok (.iload 5, 2) := by decide +kernel
theorem e_As_bestRow_31 : decode b_As_bestRow 31 = .ok (.iload_n 3, 1) := by decide +kernel
theorem e_As_bestRow_32 : decode b_As_bestRow 32 = .ok (.if_icmp .ge 43, 3) := by decide +kernel
theorem e_As_bestRow_35 : decode b_As_bestRow 35 = .ok (.aload_n 0, 1) := by decide +kernel
theorem e_As_bestRow_36 : decode b_As_bestRow 36 = .ok (.iload 5, 2) := by decide +kernel
theorem e_As_bestRow_38 : decode b_As_bestRow 38 = .ok (.iload_n 1, 1) := by decide +kernel
theorem e_As_bestRow_39 : decode b_As_bestRow 39 = .ok (.invokevirtual 72, 3) := by decide +kernel
theorem e_As_bestRow_42 : decode b_As_bestRow 42 = .ok (.istore 6, 2) := by decide +kernel
theorem e_As_bestRow_44 : decode b_As_bestRow 44 = .ok (.iload 6, 2) := by decide +kernel
theorem e_As_bestRow_46 : decode b_As_bestRow 46 = .ok (.iload 4, 2) := by decide +kernel
theorem e_As_bestRow_48 : decode b_As_bestRow 48 = .ok (.if_icmp .le 21, 3) := by decide +kernel
theorem e_As_bestRow_51 : decode b_As_bestRow 51 = .ok (.iload 6, 2) := by decide +kernel
theorem e_As_bestRow_53 : decode b_As_bestRow 53 = .ok (.istore 4, 2) := by decide +kernel
theorem e_As_bestRow_55 : decode b_As_bestRow 55 = .ok (.aload_n 0, 1) := by decide +kernel
theorem e_As_bestRow_56 : decode b_As_bestRow 56 = .ok (.getfield 9, 3) := by decide +kernel
theorem e_As_bestRow_59 : decode b_As_bestRow 59 = .ok (.iconst 0, 1) := by decide +kernel
theorem e_As_bestRow_60 : decode b_As_bestRow 60 = .ok (.aload_n 0, 1) := by decide +kernel
theorem e_As_bestRow_61 : decode b_As_bestRow 61 = .ok (.getfield 15, 3) := by decide +kernel
theorem e_As_bestRow_64 : decode b_As_bestRow 64 = .ok (.iconst 0, 1) := by decide +kernel
theorem e_As_bestRow_65 : decode b_As_bestRow 65 = .ok (.iconst 3, 1) := by decide +kernel
theorem e_As_bestRow_66 : decode b_As_bestRow 66 = .ok (.invokestatic 76, 3) := by decide +kernel
theorem e_As_bestRow_69 : decode b_As_bestRow 69 = .ok (.iinc 5 1, 3) := by decide +kernel
theorem e_As_bestRow_72 : decode b_As_bestRow 72 = .ok (.goto (-43), 3) := by decide +kernel
theorem e_As_bestRow_75 : decode b_As_bestRow 75 = .ok (.iload_n 2, 1) := by decide +kernel
theorem e_As_bestRow_76 : decode b_As_bestRow 76 = .ok (.iconst (-1), 1) := by decide +kernel
theorem e_As_bestRow_77 : decode b_As_bestRow 77 = .ok (.if_icmp .eq 10, 3) := by decide +kernel
theorem e_As_bestRow_80 : decode b_As_bestRow 80 = .ok (.iload 4, 2) := by decide +kernel
theorem e_As_bestRow_82 : decode b_As_bestRow 82 = .ok (.bipush (-5), 2) := by decide +kernel
theorem e_As_bestRow_84 : decode b_As_bestRow 84 = .ok (.if_icmp .ne 6, 3) := by decide +kernel
theorem e_As_bestRow_87 : decode b_As_bestRow 87 = .ok (.iload 4, 2) := by decide +kernel
theorem e_As_bestRow_89 : decode b_As_bestRow 89 = .ok (.ireturn, 1) := by decide +kernel
theorem e_As_bestRow_90 : decode b_As_bestRow 90 = .ok (.iload_n 2, 1) := by decide +kernel
theorem e_As_bestRow_91 : decode b_As_bestRow 91 = .ok (.ifCond .lt 22, 3) := by decide +kernel
theorem e_As_bestRow_94 : decode b_As_bestRow 94 = .ok (.iload_n 2, 1) := by decide +kernel
theorem e_As_bestRow_95 : decode b_As_bestRow 95 = .ok (.iload_n 1, 1) := by decide +kernel
theorem e_As_bestRow_96 : decode b_As_bestRow 96 = .ok (.if_icmp .ge 17, 3) := by decide +kernel
theorem e_As_bestRow_99 : decode b_As_bestRow 99 = .ok (.iload_n 2, 1) := by decide +kernel
theorem e_As_bestRow_100 : decode b_As_bestRow 100 = .ok (.iconst 3, 1) := by decide +kernel
theorem e_As_bestRow_101 : decode b_As_bestRow 101 = .ok (.if_icmp .ge 12, 3) := by decide +kernel
theorem e_As_bestRow_104 : decode b_As_bestRow 104 = .ok (.aload_n 0, 1) := by decide +kernel
theorem e_As_bestRow_105 : decode b_As_bestRow 105 = .ok (.getfield 15, 3) := by decide +kernel
theorem e_As_bestRow_108 : decode b_As_bestRow 108 = .ok (.iload_n 2, 1) := by decide +kernel
theorem e_As_bestRow_109 : decode b_As_bestRow 109 = .ok (.iaload, 1) := by decide +kernel
theorem e_As_bestRow_110 : decode b_As_bestRow 110 = .ok (.goto 5, 3) := by decide +kernel
theorem e_As_bestRow_113 : decode b_As_bestRow 113 = .ok (.bipush (-5), 2) := by decide +kernel
theorem e_As_bestRow_115 : decode b_As_bestRow 115 = .ok (.ireturn, 1) := by decide +kernel
theorem e_As_colourOfRow_0 : decode b_As_colourOfRow 0 = .ok (.iload_n 1, 1) := by decide +kernel
theorem e_As_colourOfRow_1 : decode b_As_colourOfRow 1 = .ok (.istore_n 3, 1) := by decide +kernel
theorem e_As_colourOfRow_2 : decode b_As_colourOfRow 2 = .ok (.iload_n 2, 1) := by decide +kernel
theorem e_As_colourOfRow_3 : decode b_As_colourOfRow 3 = .ok (.iconst 3, 1) := by decide +kernel
theorem e_As_colourOfRow_4 : decode b_As_colourOfRow 4 = .ok (.invokestatic 82, 3) := by decide +kernel
theorem e_As_colourOfRow_7 : decode b_As_colourOfRow 7 = .ok (.iconst 1, 1) := by decide +kernel
theorem e_As_colourOfRow_8 : decode b_As_colourOfRow 8 = .ok (.isub, 1) := by decide +kernel
theorem e_As_colourOfRow_9 : decode b_As_colourOfRow 9 = .ok (.istore 4, 2) := by decide +kernel
theorem e_As_colourOfRow_11 : decode b_As_colourOfRow 11 = .ok (.iload 4, 2) := by decide +kernel
theorem e_As_colourOfRow_13 : decode b_As_colourOfRow 13 = .ok (.ifCond .lt 25, 3) := by decide +kernel
theorem e_As_colourOfRow_16 : decode b_As_colourOfRow 16 = .ok (.aload_n 0, 1) := by decide +kernel
theorem e_As_colourOfRow_17 : decode b_As_colourOfRow 17 = .ok (.getfield 9, 3) := by decide +kernel
theorem e_As_colourOfRow_20 : decode b_As_colourOfRow 20 = .ok (.iload 4, 2) := by decide +kernel
theorem e_As_colourOfRow_22 : decode b_As_colourOfRow 22 = .ok (.iload_n 3, 1) := by decide +kernel
theorem e_As_colourOfRow_23 : decode b_As_colourOfRow 23 = .ok (.bipush 6, 2) := by decide +kernel
theorem e_As_colourOfRow_25 : decode b_As_colourOfRow 25 = .ok (.irem, 1) := by decide +kernel
theorem e_As_colourOfRow_26 : decode b_As_colourOfRow 26 = .ok (.iastore, 1) := by decide +kernel
theorem e_As_colourOfRow_27 : decode b_As_colourOfRow 27 = .ok (.iload_n 3, 1) := by decide +kernel
theorem e_As_colourOfRow_28 : decode b_As_colourOfRow 28 = .ok (.bipush 6, 2) := by decide +kernel
theorem e_As_colourOfRow_30 : decode b_As_colourOfRow 30 = .ok (.idiv, 1) := by decide +kernel
theorem e_As_colourOfRow_31 : decode b_As_colourOfRow 31 = .ok (.istore_n 3, 1) := by decide +kernel
theorem e_As_colourOfRow_32 : decode b_As_colourOfRow 32 = .ok (.iinc 4 (-1), 3) := by decide +kernel
theorem e_As_colourOfRow_35 : decode b_As_colourOfRow 35 = .ok (.goto (-24), 3) := by decide +kernel
theorem e_As_colourOfRow_38 : decode b_As_colourOfRow 38 = .ok (.aload_n 0, 1) := by decide +kernel
theorem e_As_colourOfRow_39 : decode b_As_colourOfRow 39 = .ok (.getfield 27, 3) := by decide +kernel
theorem e_As_colourOfRow_42 : decode b_As_colourOfRow 42 = .ok (.aload_n 0, 1) := by decide +kernel
theorem e_As_colourOfRow_43 : decode b_As_colourOfRow 43 = .ok (.getfield 18, 3) := by decide +kernel
theorem e_As_colourOfRow_46 : decode b_As_colourOfRow 46 = .ok (.getfield 31, 3) := by decide +kernel
theorem e_As_colourOfRow_49 : decode b_As_colourOfRow 49 = .ok (.invokevirtual 36, 3) := by decide +kernel
theorem e_As_colourOfRow_52 : decode b_As_colourOfRow 52 = .ok (.iconst 0, 1) := by decide +kernel
theorem e_As_colourOfRow_53 : decode b_As_colourOfRow 53 = .ok (.istore 4, 2) := by decide +kernel
theorem e_As_colourOfRow_55 : decode b_As_colourOfRow 55 = .ok (.iload 4, 2) := by decide +kernel
theorem e_As_colourOfRow_57 : decode b_As_colourOfRow 57 = .ok (.iload_n 2, 1) := by decide +kernel
theorem e_As_colourOfRow_58 : decode b_As_colourOfRow 58 = .ok (.if_icmp .ge 59, 3) := by decide +kernel
theorem e_As_colourOfRow_61 : decode b_As_colourOfRow 61 = .ok (.iload 4, 2) := by decide +kernel
theorem e_As_colourOfRow_63 : decode b_As_colourOfRow 63 = .ok (.iconst 3, 1) := by decide +kernel
theorem e_As_colourOfRow_64 : decode b_As_colourOfRow 64 = .ok (.if_icmp .ge 53, 3) := by decide +kernel
theorem e_As_colourOfRow_67 : decode b_As_colourOfRow 67 = .ok (.aload_n 0, 1) := by decide +kernel
theorem e_As_colourOfRow_68 : decode b_As_colourOfRow 68 = .ok (.getfield 27, 3) := by decide +kernel
theorem e_As_colourOfRow_71 : decode b_As_colourOfRow 71 = .ok (.aload_n 0, 1) := by decide +kernel
theorem e_As_colourOfRow_72 : decode b_As_colourOfRow 72 = .ok (.getfield 9, 3) := by decide +kernel
theorem e_As_colourOfRow_75 : decode b_As_colourOfRow 75 = .ok (.iload 4, 2) := by decide +kernel
theorem e_As_colourOfRow_77 : decode b_As_colourOfRow 77 = .ok (.iaload, 1) := by decide +kernel
theorem e_As_colourOfRow_78 : decode b_As_colourOfRow 78 = .ok (.invokevirtual 59, 3) := by decide +kernel
theorem e_As_colourOfRow_81 : decode b_As_colourOfRow 81 = .ok (.astore 5, 2) := by decide +kernel
theorem e_As_colourOfRow_83 : decode b_As_colourOfRow 83 = .ok (.aload 5, 2) := by decide +kernel
theorem e_As_colourOfRow_85 : decode b_As_colourOfRow 85 = .ok (.ifnull 11, 3) := by decide +kernel
theorem e_As_colourOfRow_88 : decode b_As_colourOfRow 88 = .ok (.aload 5, 2) := by decide +kernel
theorem e_As_colourOfRow_90 : decode b_As_colourOfRow 90 = .ok (.getfield 63, 3) := by decide +kernel
theorem e_As_colourOfRow_93 : decode b_As_colourOfRow 93 = .ok (.ifCond .eq 6, 3) := by decide +kernel
theorem e_As_colourOfRow_96 : decode b_As_colourOfRow 96 = .ok (.bipush (-5), 2) := by decide +kernel
theorem e_As_colourOfRow_98 : decode b_As_colourOfRow 98 = .ok (.ireturn, 1) := by decide +kernel
theorem e_As_colourOfRow_99 : decode b_As_colourOfRow 99 = .ok (.aload 5, 2) := by decide +kernel
theorem e_As_colourOfRow_101 : decode b_As_colourOfRow 101 = .ok (.invokevirtual 87, 3) := by decide +kernel
theorem e_As_colourOfRow_104 : decode b_As_colourOfRow 104 = .ok (.aload_n 0, 1) := by decide +kernel
theorem e_As_colourOfRow_105 : decode b_As_colourOfRow 105 = .ok (.getfield 27, 3) := by decide +kernel
theorem e_As_colourOfRow_108 : decode b_As_colourOfRow 108 = .ok (.invokevirtual 56, 3) := by decide +kernel
theorem e_As_colourOfRow_111 : decode b_As_colourOfRow 111 = .ok (.iinc 4 1, 3) := by decide +kernel
theorem e_As_colourOfRow_114 : decode b_As_colourOfRow 114 = .ok (.goto (-59), 3) := by decide +kernel
theorem e_As_colourOfRow_117 : decode b_As_colourOfRow 117 = .ok (.aload_n 0, 1) := by decide +kernel
theorem e_As_colourOfRow_118 : decode b_As_colourOfRow 118 = .ok (.getfield 27, 3) := by decide +kernel
theorem e_As_colourOfRow_121 : decode b_As_colourOfRow 121 = .ok (.getfield 44, 3) := by decide +kernel
theorem e_As_colourOfRow_124 : decode b_As_colourOfRow 124 = .ok (.ireturn, 1) := by decide +kernel
theorem e_As_fewest_0 : decode b_As_fewest 0 = .ok (.aload_n 0, 1) := by decide +kernel
theorem e_As_fewest_1 : decode b_As_fewest 1 = .ok (.getfield 18, 3) := by decide +kernel
theorem e_As_fewest_4 : decode b_As_fewest 4 = .ok (.getfield 31, 3) := by decide +kernel
theorem e_As_fewest_7 : decode b_As_fewest 7 = .ok (.iconst 0, 1) := by decide +kernel
theorem e_As_fewest_8 : decode b_As_fewest 8 = .ok (.invokevirtual 90, 3) := by decide +kernel
theorem e_As_fewest_11 : decode b_As_fewest 11 = .ok (.istore_n 2, 1) := by decide +kernel
theorem e_As_fewest_12 : decode b_As_fewest 12 = .ok (.bipush 7, 2) := by decide +kernel
theorem e_As_fewest_14 : decode b_As_fewest 14 = .ok (.istore_n 3, 1) := by decide +kernel
theorem e_As_fewest_15 : decode b_As_fewest 15 = .ok (.bipush (-5), 2) := by decide +kernel
theorem e_As_fewest_17 : decode b_As_fewest 17 = .ok (.istore 4, 2) := by decide +kernel
theorem e_As_fewest_19 : decode b_As_fewest 19 = .ok (.iconst 0, 1) := by decide +kernel
theorem e_As_fewest_20 : decode b_As_fewest 20 = .ok (.istore 5, 2) := by decide +kernel
theorem e_As_fewest_22 : decode b_As_fewest 22 = .ok (.iload 5, 2) := by decide +kernel
theorem e_As_fewest_24 : decode b_As_fewest 24 = .ok (.bipush 64, 2) := by decide +kernel
theorem e_As_fewest_26 : decode b_As_fewest 26 = .ok (.if_icmp .ge 48, 3) := by decide +kernel
theorem e_As_fewest_29 : decode b_As_fewest 29 = .ok (.iload 5, 2) := by decide +kernel
theorem e_As_fewest_31 : decode b_As_fewest 31 = .ok (.invokestatic 94, 3) := by decide +kernel
theorem e_As_fewest_34 : decode b_As_fewest 34 = .ok (.istore 6, 2) := by decide +kernel
theorem e_As_fewest_36 : decode b_As_fewest 36 = .ok (.iload 5, 2) := by decide +kernel
theorem e_As_fewest_38 : decode b_As_fewest 38 = .ok (.iload_n 2, 1) := by decide +kernel
theorem e_As_fewest_39 : decode b_As_fewest 39 = .ok (.iconst (-1), 1) := by decide +kernel
theorem e_As_fewest_40 : decode b_As_fewest 40 = .ok (.ixor, 1) := by decide +kernel
theorem e_As_fewest_41 : decode b_As_fewest 41 = .ok (.iand, 1) := by decide +kernel
theorem e_As_fewest_42 : decode b_As_fewest 42 = .ok (.ifCond .ne 26, 3) := by decide +kernel
theorem e_As_fewest_45 : decode b_As_fewest 45 = .ok (.iload 6, 2) := by decide +kernel
theorem e_As_fewest_47 : decode b_As_fewest 47 = .ok (.iload_n 3, 1) := by decide +kernel
theorem e_As_fewest_48 : decode b_As_fewest 48 = .ok (.if_icmp .ge 20, 3) := by decide +kernel
theorem e_As_fewest_51 : decode b_As_fewest 51 = .ok (.aload_n 0, 1) := by decide +kernel
theorem e_As_fewest_52 : decode b_As_fewest 52 = .ok (.iload 5, 2) := by decide +kernel
theorem e_As_fewest_54 : decode b_As_fewest 54 = .ok (.iload_n 1, 1) := by decide +kernel
theorem e_As_fewest_55 : decode b_As_fewest 55 = .ok (.invokevirtual 99, 3) := by decide +kernel
theorem e_As_fewest_58 : decode b_As_fewest 58 = .ok (.ifCond .eq 10, 3) := by decide +kernel
theorem e_As_fewest_61 : decode b_As_fewest 61 = .ok (.iload 6, 2) := by decide +kernel
theorem e_As_fewest_63 : decode b_As_fewest 63 = .ok (.istore_n 3, 1) := by decide +kernel
theorem e_As_fewest_64 : decode b_As_fewest 64 = .ok (.iload 5, 2) := by decide +kernel
theorem e_As_fewest_66 : decode b_As_fewest 66 = .ok (.istore 4, 2) := by decide +kernel
theorem e_As_fewest_68 : decode b_As_fewest 68 = .ok (.iinc 5 1, 3) := by decide +kernel
theorem e_As_fewest_71 : decode b_As_fewest 71 = .ok (.goto (-49), 3) := by decide +kernel
theorem e_As_fewest_74 : decode b_As_fewest 74 = .ok (.iload 4, 2) := by decide +kernel
theorem e_As_fewest_76 : decode b_As_fewest 76 = .ok (.ireturn, 1) := by decide +kernel
theorem e_As_setsWith_0 : decode b_As_setsWith 0 = .ok (.aload_n 0, 1) := by decide +kernel
theorem e_As_setsWith_1 : decode b_As_setsWith 1 = .ok (.getfield 27, 3) := by decide +kernel
theorem e_As_setsWith_4 : decode b_As_setsWith 4 = .ok (.aload_n 0, 1) := by decide +kernel
theorem e_As_setsWith_5 : decode b_As_setsWith 5 = .ok (.getfield 18, 3) := by decide +kernel
theorem e_As_setsWith_8 : decode b_As_setsWith 8 = .ok (.getfield 31, 3) := by decide +kernel
theorem e_As_setsWith_11 : decode b_As_setsWith 11 = .ok (.invokevirtual 36, 3) := by decide +kernel
theorem e_As_setsWith_14 : decode b_As_setsWith 14 = .ok (.iconst 0, 1) := by decide +kernel
theorem e_As_setsWith_15 : decode b_As_setsWith 15 = .ok (.istore_n 3, 1) := by decide +kernel
theorem e_As_setsWith_16 : decode b_As_setsWith 16 = .ok (.iload_n 3, 1) := by decide +kernel
theorem e_As_setsWith_17 : decode b_As_setsWith 17 = .ok (.bipush 6, 2) := by decide +kernel
theorem e_As_setsWith_19 : decode b_As_setsWith 19 = .ok (.if_icmp .ge 38, 3) := by decide +kernel
theorem e_As_setsWith_22 : decode b_As_setsWith 22 = .ok (.aload_n 0, 1) := by decide +kernel
theorem e_As_setsWith_23 : decode b_As_setsWith 23 = .ok (.getfield 27, 3) := by decide +kernel
theorem e_As_setsWith_26 : decode b_As_setsWith 26 = .ok (.iload_n 3, 1) := by decide +kernel
theorem e_As_setsWith_27 : decode b_As_setsWith 27 = .ok (.invokevirtual 59, 3) := by decide +kernel
theorem e_As_setsWith_30 : decode b_As_setsWith 30 = .ok (.astore 4, 2) := by decide +kernel
theorem e_As_setsWith_32 : decode b_As_setsWith 32 = .ok (.aload 4, 2) := by decide +kernel
theorem e_As_setsWith_34 : decode b_As_setsWith 34 = .ok (.ifnull 17, 3) := by decide +kernel
theorem e_As_setsWith_37 : decode b_As_setsWith 37 = .ok (.iload_n 1, 1) := by decide +kernel
theorem e_As_setsWith_38 : decode b_As_setsWith 38 = .ok (.iload_n 3, 1) := by decide +kernel
theorem e_As_setsWith_39 : decode b_As_setsWith 39 = .ok (.ishr, 1) := by decide +kernel
theorem e_As_setsWith_40 : decode b_As_setsWith 40 = .ok (.iconst 1, 1) := by decide +kernel
theorem e_As_setsWith_41 : decode b_As_setsWith 41 = .ok (.iand, 1) := by decide +kernel
theorem e_As_setsWith_42 : decode b_As_setsWith 42 = .ok (.iconst 1, 1) := by decide +kernel
theorem e_As_setsWith_43 : decode b_As_setsWith 43 = .ok (.if_icmp .ne 8, 3) := by decide +kernel
theorem e_As_setsWith_46 : decode b_As_setsWith 46 = .ok (.aload 4, 2) := by decide +kernel
theorem e_As_setsWith_48 : decode b_As_setsWith 48 = .ok (.invokevirtual 87, 3) := by decide +kernel
theorem e_As_setsWith_51 : decode b_As_setsWith 51 = .ok (.iinc 3 1, 3) := by decide +kernel
theorem e_As_setsWith_54 : decode b_As_setsWith 54 = .ok (.goto (-38), 3) := by decide +kernel
theorem e_As_setsWith_57 : decode b_As_setsWith 57 = .ok (.iconst 0, 1) := by decide +kernel
theorem e_As_setsWith_58 : decode b_As_setsWith 58 = .ok (.istore_n 3, 1) := by decide +kernel
theorem e_As_setsWith_59 : decode b_As_setsWith 59 = .ok (.iload_n 3, 1) := by decide +kernel
theorem e_As_setsWith_60 : decode b_As_setsWith 60 = .ok (.iload_n 2, 1) := by decide +kernel
theorem e_As_setsWith_61 : decode b_As_setsWith 61 = .ok (.if_icmp .ge 26, 3) := by decide +kernel
theorem e_As_setsWith_64 : decode b_As_setsWith 64 = .ok (.aload_n 0, 1) := by decide +kernel
theorem e_As_setsWith_65 : decode b_As_setsWith 65 = .ok (.getfield 27, 3) := by decide +kernel
theorem e_As_setsWith_68 : decode b_As_setsWith 68 = .ok (.getfield 48, 3) := by decide +kernel
theorem e_As_setsWith_71 : decode b_As_setsWith 71 = .ok (.ifCond .ne 16, 3) := by decide +kernel
theorem e_As_setsWith_74 : decode b_As_setsWith 74 = .ok (.aload_n 0, 1) := by decide +kernel
theorem e_As_setsWith_75 : decode b_As_setsWith 75 = .ok (.getfield 27, 3) := by decide +kernel
theorem e_As_setsWith_78 : decode b_As_setsWith 78 = .ok (.invokevirtual 56, 3) := by decide +kernel
theorem e_As_setsWith_81 : decode b_As_setsWith 81 = .ok (.iinc 3 1, 3) := by decide +kernel
theorem e_As_setsWith_84 : decode b_As_setsWith 84 = .ok (.goto (-25), 3) := by decide +kernel
theorem e_As_setsWith_87 : decode b_As_setsWith 87 = .ok (.aload_n 0, 1) := by decide +kernel
theorem e_As_setsWith_88 : decode b_As_setsWith 88 = .ok (.getfield 27, 3) := by decide +kernel
theorem e_As_setsWith_91 : decode b_As_setsWith 91 = .ok (.getfield 48, 3) := by decide +kernel
theorem e_As_setsWith_94 : decode b_As_setsWith 94 = .ok (.ireturn, 1) := by decide +kernel
theorem e_As_nearestFire_0 : decode b_As_nearestFire 0 = .ok (.iconst 0, 1) := by decide +kernel
theorem e_As_nearestFire_1 : decode b_As_nearestFire 1 = .ok (.istore_n 3, 1) := by decide +kernel
theorem e_As_nearestFire_2 : decode b_As_nearestFire 2 = .ok (.ldc 103, 2) := by decide +kernel
theorem e_As_nearestFire_4 : decode b_As_nearestFire 4 = .ok (.istore 4, 2) := by decide +kernel
theorem e_As_nearestFire_6 : decode b_As_nearestFire 6 = .ok (.iconst 0, 1) := by decide +kernel
theorem e_As_nearestFire_7 : decode b_As_nearestFire 7 = .ok (.istore 5, 2) := by decide +kernel
theorem e_As_nearestFire_9 : decode b_As_nearestFire 9 = .ok (.iload 5, 2) := by decide +kernel
theorem e_As_nearestFire_11 : decode b_As_nearestFire 11 = .ok (.bipush 9, 2) := by decide +kernel
theorem e_As_nearestFire_13 : decode b_As_nearestFire 13 = .ok (.if_icmp .gt 68, 3) := by decide +kernel
theorem e_As_nearestFire_16 : decode b_As_nearestFire 16 = .ok (.aload_n 0, 1) := by decide +kernel
theorem e_As_nearestFire_17 : decode b_As_nearestFire 17 = .ok (.getfield 27, 3) := by decide +kernel
theorem e_As_nearestFire_20 : decode b_As_nearestFire 20 = .ok (.aload_n 0, 1) := by decide +kernel
theorem e_As_nearestFire_21 : decode b_As_nearestFire 21 = .ok (.getfield 18, 3) := by decide +kernel
theorem e_As_nearestFire_24 : decode b_As_nearestFire 24 = .ok (.getfield 31, 3) := by decide +kernel
theorem e_As_nearestFire_27 : decode b_As_nearestFire 27 = .ok (.invokevirtual 36, 3) := by decide +kernel
theorem e_As_nearestFire_30 : decode b_As_nearestFire 30 = .ok (.aload_n 0, 1) := by decide +kernel
theorem e_As_nearestFire_31 : decode b_As_nearestFire 31 = .ok (.getfield 27, 3) := by decide +kernel
theorem e_As_nearestFire_34 : decode b_As_nearestFire 34 = .ok (.iload 5, 2) := by decide +kernel
theorem e_As_nearestFire_36 : decode b_As_nearestFire 36 = .ok (.putfield 104, 3) := by decide +kernel
theorem e_As_nearestFire_39 : decode b_As_nearestFire 39 = .ok (.aload_n 0, 1) := by decide +kernel
theorem e_As_nearestFire_40 : decode b_As_nearestFire 40 = .ok (.getfield 27, 3) := by decide +kernel
theorem e_As_nearestFire_43 : decode b_As_nearestFire 43 = .ok (.iload_n 1, 1) := by decide +kernel
theorem e_As_nearestFire_44 : decode b_As_nearestFire 44 = .ok (.invokevirtual 40, 3) := by decide +kernel
theorem e_As_nearestFire_47 : decode b_As_nearestFire 47 = .ok (.aload_n 0, 1) := by decide +kernel
theorem e_As_nearestFire_48 : decode b_As_nearestFire 48 = .ok (.getfield 27, 3) := by decide +kernel
theorem e_As_nearestFire_51 : decode b_As_nearestFire 51 = .ok (.getfield 44, 3) := by decide +kernel
theorem e_As_nearestFire_54 : decode b_As_nearestFire 54 = .ok (.iload_n 2, 1) := by decide +kernel
theorem e_As_nearestFire_55 : decode b_As_nearestFire 55 = .ok (.isub, 1) := by decide +kernel
theorem e_As_nearestFire_56 : decode b_As_nearestFire 56 = .ok (.invokestatic 107, 3) := by decide +kernel
theorem e_As_nearestFire_59 : decode b_As_nearestFire 59 = .ok (.istore 6, 2) := by decide +kernel
theorem e_As_nearestFire_61 : decode b_As_nearestFire 61 = .ok (.iload 6, 2) := by decide +kernel
theorem e_As_nearestFire_63 : decode b_As_nearestFire 63 = .ok (.iload 4, 2) := by decide +kernel
theorem e_As_nearestFire_65 : decode b_As_nearestFire 65 = .ok (.if_icmp .ge 10, 3) := by decide +kernel
theorem e_As_nearestFire_68 : decode b_As_nearestFire 68 = .ok (.iload 6, 2) := by decide +kernel
theorem e_As_nearestFire_70 : decode b_As_nearestFire 70 = .ok (.istore 4, 2) := by decide +kernel
theorem e_As_nearestFire_72 : decode b_As_nearestFire 72 = .ok (.iload 5, 2) := by decide +kernel
theorem e_As_nearestFire_74 : decode b_As_nearestFire 74 = .ok (.istore_n 3, 1) := by decide +kernel
theorem e_As_nearestFire_75 : decode b_As_nearestFire 75 = .ok (.iinc 5 1, 3) := by decide +kernel
theorem e_As_nearestFire_78 : decode b_As_nearestFire 78 = .ok (.goto (-69), 3) := by decide +kernel
theorem e_As_nearestFire_81 : decode b_As_nearestFire 81 = .ok (.iload_n 3, 1) := by decide +kernel
theorem e_As_nearestFire_82 : decode b_As_nearestFire 82 = .ok (.ireturn, 1) := by decide +kernel
theorem e_As_weights_0 : decode b_As_weights 0 = .ok (.iconst 0, 1) := by decide +kernel
theorem e_As_weights_1 : decode b_As_weights 1 = .ok (.istore_n 2, 1) := by decide +kernel
theorem e_As_weights_2 : decode b_As_weights 2 = .ok (.iconst 0, 1) := by decide +kernel
theorem e_As_weights_3 : decode b_As_weights 3 = .ok (.istore_n 3, 1) := by decide +kernel
theorem e_As_weights_4 : decode b_As_weights 4 = .ok (.iload_n 3, 1) := by decide +kernel
theorem e_As_weights_5 : decode b_As_weights 5 = .ok (.bipush 20, 2) := by decide +kernel
theorem e_As_weights_7 : decode b_As_weights 7 = .ok (.if_icmp .gt 61, 3) := by decide +kernel
theorem e_As_weights_10 : decode b_As_weights 10 = .ok (.aload_n 0, 1) := by decide +kernel
theorem e_As_weights_11 : decode b_As_weights 11 = .ok (.getfield 27, 3) := by decide +kernel
theorem e_As_weights_14 : decode b_As_weights 14 = .ok (.aload_n 0, 1) := by decide +kernel
theorem e_As_weights_15 : decode b_As_weights 15 = .ok (.getfield 18, 3) := by decide +kernel
theorem e_As_weights_18 : decode b_As_weights 18 = .ok (.getfield 31, 3) := by decide +kernel
theorem e_As_weights_21 : decode b_As_weights 21 = .ok (.invokevirtual 36, 3) := by decide +kernel
theorem e_As_weights_24 : decode b_As_weights 24 = .ok (.aload_n 0, 1) := by decide +kernel
theorem e_As_weights_25 : decode b_As_weights 25 = .ok (.getfield 27, 3) := by decide +kernel
theorem e_As_weights_28 : decode b_As_weights 28 = .ok (.iload_n 1, 1) := by decide +kernel
theorem e_As_weights_29 : decode b_As_weights 29 = .ok (.invokevirtual 59, 3) := by decide +kernel
theorem e_As_weights_32 : decode b_As_weights 32 = .ok (.astore 4, 2) := by decide +kernel
theorem e_As_weights_34 : decode b_As_weights 34 = .ok (.aload 4, 2) := by decide +kernel
theorem e_As_weights_36 : decode b_As_weights 36 = .ok (.ifnull 26, 3) := by decide +kernel
theorem e_As_weights_39 : decode b_As_weights 39 = .ok (.aload 4, 2) := by decide +kernel
theorem e_As_weights_41 : decode b_As_weights 41 = .ok (.iload_n 3, 1) := by decide +kernel
theorem e_As_weights_42 : decode b_As_weights 42 = .ok (.putfield 110, 3) := by decide +kernel
theorem e_As_weights_45 : decode b_As_weights 45 = .ok (.iload_n 2, 1) := by decide +kernel
theorem e_As_weights_46 : decode b_As_weights 46 = .ok (.aload_n 0, 1) := by decide +kernel
theorem e_As_weights_47 : decode b_As_weights 47 = .ok (.invokevirtual 113, 3) := by decide +kernel
theorem e_As_weights_50 : decode b_As_weights 50 = .ok (.ifCond .eq 9, 3) := by decide +kernel
theorem e_As_weights_53 : decode b_As_weights 53 = .ok (.iconst 1, 1) := by decide +kernel
theorem e_As_weights_54 : decode b_As_weights 54 = .ok (.iload_n 3, 1) := by decide +kernel
theorem e_As_weights_55 : decode b_As_weights 55 = .ok (.ishl, 1) := by decide +kernel
theorem e_As_weights_56 : decode b_As_weights 56 = .ok (.goto 4, 3) := by decide +kernel
theorem e_As_weights_59 : decode b_As_weights 59 = .ok (.iconst 0, 1) := by decide +kernel
theorem e_As_weights_60 : decode b_As_weights 60 = .ok (.ior, 1) := by decide +kernel
theorem e_As_weights_61 : decode b_As_weights 61 = .ok (.istore_n 2, 1) := by decide +kernel
theorem e_As_weights_62 : decode b_As_weights 62 = .ok (.iinc 3 1, 3) := by decide +kernel
theorem e_As_weights_65 : decode b_As_weights 65 = .ok (.goto (-61), 3) := by decide +kernel
theorem e_As_weights_68 : decode b_As_weights 68 = .ok (.iload_n 2, 1) := by decide +kernel
theorem e_As_weights_69 : decode b_As_weights 69 = .ok (.ireturn, 1) := by decide +kernel
theorem e_As_firmness_0 : decode b_As_firmness 0 = .ok (.iconst 0, 1) := by decide +kernel
theorem e_As_firmness_1 : decode b_As_firmness 1 = .ok (.istore_n 3, 1) := by decide +kernel
theorem e_As_firmness_2 : decode b_As_firmness 2 = .ok (.bipush (-5), 2) := by decide +kernel
theorem e_As_firmness_4 : decode b_As_firmness 4 = .ok (.istore 4, 2) := by decide +kernel
theorem e_As_firmness_6 : decode b_As_firmness 6 = .ok (.bipush 9, 2) := by decide +kernel
theorem e_As_firmness_8 : decode b_As_firmness 8 = .ok (.istore 5, 2) := by decide +kernel
theorem e_As_firmness_10 : decode b_As_firmness 10 = .ok (.iload 5, 2) := by decide +kernel
theorem e_As_firmness_12 : decode b_As_firmness 12 = .ok (.ifCond .lt 59, 3) := by decide +kernel
theorem e_As_firmness_15 : decode b_As_firmness 15 = .ok (.aload_n 0, 1) := by decide +kernel
theorem e_As_firmness_16 : decode b_As_firmness 16 = .ok (.getfield 27, 3) := by decide +kernel
theorem e_As_firmness_19 : decode b_As_firmness 19 = .ok (.aload_n 0, 1) := by decide +kernel
theorem e_As_firmness_20 : decode b_As_firmness 20 = .ok (.getfield 18, 3) := by decide +kernel
theorem e_As_firmness_23 : decode b_As_firmness 23 = .ok (.getfield 31, 3) := by decide +kernel
theorem e_As_firmness_26 : decode b_As_firmness 26 = .ok (.invokevirtual 36, 3) := by decide +kernel
theorem e_As_firmness_29 : decode b_As_firmness 29 = .ok (.aload_n 0, 1) := by decide +kernel
theorem e_As_firmness_30 : decode b_As_firmness 30 = .ok (.getfield 27, 3) := by decide +kernel
theorem e_As_firmness_33 : decode b_As_firmness 33 = .ok (.iload_n 1, 1) := by decide +kernel
theorem e_As_firmness_34 : decode b_As_firmness 34 = .ok (.invokevirtual 59, 3) := by decide +kernel
theorem e_As_firmness_37 : decode b_As_firmness 37 = .ok (.astore 6, 2) := by decide +kernel
theorem e_As_firmness_39 : decode b_As_firmness 39 = .ok (.aload 6, 2) := by decide +kernel
theorem e_As_firmness_41 : decode b_As_firmness 41 = .ok (.ifnull 24, 3) := by decide +kernel
theorem e_As_firmness_44 : decode b_As_firmness 44 = .ok (.aload 6, 2) := by decide +kernel
theorem e_As_firmness_46 : decode b_As_firmness 46 = .ok (.iload 5, 2) := by decide +kernel
theorem e_As_firmness_48 : decode b_As_firmness 48 = .ok (.putfield 117, 3) := by decide +kernel
theorem e_As_firmness_51 : decode b_As_firmness 51 = .ok (.aload_n 0, 1) := by decide +kernel
theorem e_As_firmness_52 : decode b_As_firmness 52 = .ok (.invokevirtual 113, 3) := by decide +kernel
theorem e_As_firmness_55 : decode b_As_firmness 55 = .ok (.ifCond .eq 10, 3) := by decide +kernel
theorem e_As_firmness_58 : decode b_As_firmness 58 = .ok (.iinc 3 1, 3) := by decide +kernel
theorem e_As_firmness_61 : decode b_As_firmness 61 = .ok (.iload 5, 2) := by decide +kernel
theorem e_As_firmness_63 : decode b_As_firmness 63 = .ok (.istore 4, 2) := by decide +kernel
theorem e_As_firmness_65 : decode b_As_firmness 65 = .ok (.iinc 5 (-1), 3) := by decide +kernel
theorem e_As_firmness_68 : decode b_As_firmness 68 = .ok (.goto (-58), 3) := by decide +kernel
theorem e_As_firmness_71 : decode b_As_firmness 71 = .ok (.iload_n 2, 1) := by decide +kernel
theorem e_As_firmness_72 : decode b_As_firmness 72 = .ok (.ifCond .eq 7, 3) := by decide +kernel
theorem e_As_firmness_75 : decode b_As_firmness 75 = .ok (.iload_n 3, 1) := by decide +kernel
theorem e_As_firmness_76 : decode b_As_firmness 76 = .ok (.goto 5, 3) := by decide +kernel
theorem e_As_firmness_79 : decode b_As_firmness 79 = .ok (.iload 4, 2) := by decide +kernel
theorem e_As_firmness_81 : decode b_As_firmness 81 = .ok (.ireturn, 1) := by decide +kernel
theorem e_As_isAsSeen_0 : decode b_As_isAsSeen 0 = .ok (.aload_n 0, 1) := by decide +kernel
theorem e_As_isAsSeen_1 : decode b_As_isAsSeen 1 = .ok (.getfield 18, 3) := by decide +kernel
theorem e_As_isAsSeen_4 : decode b_As_isAsSeen 4 = .ok (.getfield 120, 3) := by decide +kernel
theorem e_As_isAsSeen_7 : decode b_As_isAsSeen 7 = .ok (.astore_n 1, 1) := by decide +kernel
theorem e_As_isAsSeen_8 : decode b_As_isAsSeen 8 = .ok (.iconst 0, 1) := by decide +kernel
theorem e_As_isAsSeen_9 : decode b_As_isAsSeen 9 = .ok (.istore_n 2, 1) := by decide +kernel
theorem e_As_isAsSeen_10 : decode b_As_isAsSeen 10 = .ok (.iconst 0, 1) := by decide +kernel
theorem e_As_isAsSeen_11 : decode b_As_isAsSeen 11 = .ok (.istore_n 3, 1) := by decide +kernel
theorem e_As_isAsSeen_12 : decode b_As_isAsSeen 12 = .ok (.iload_n 3, 1) := by decide +kernel
theorem e_As_isAsSeen_13 : decode b_As_isAsSeen 13 = .ok (.bipush 12, 2) := by decide +kernel
theorem e_As_isAsSeen_15 : decode b_As_isAsSeen 15 = .ok (.if_icmp .gt 73, 3) := by decide +kernel
theorem e_As_isAsSeen_18 : decode b_As_isAsSeen 18 = .ok (.iload_n 2, 1) := by decide +kernel
theorem e_As_isAsSeen_19 : decode b_As_isAsSeen 19 = .ok (.aload_n 1, 1) := by decide +kernel
theorem e_As_isAsSeen_20 : decode b_As_isAsSeen 20 = .ok (.getfield 124, 3) := by decide +kernel
theorem e_As_isAsSeen_23 : decode b_As_isAsSeen 23 = .ok (.if_icmp .ge 65, 3) := by decide +kernel
theorem e_As_isAsSeen_26 : decode b_As_isAsSeen 26 = .ok (.iconst 0, 1) := by decide +kernel
theorem e_As_isAsSeen_27 : decode b_As_isAsSeen 27 = .ok (.istore 4, 2) := by decide +kernel
theorem e_As_isAsSeen_29 : decode b_As_isAsSeen 29 = .ok (.iload 4, 2) := by decide +kernel
theorem e_As_isAsSeen_31 : decode b_As_isAsSeen 31 = .ok (.aload_n 1, 1) := by decide +kernel
theorem e_As_isAsSeen_32 : decode b_As_isAsSeen 32 = .ok (.getfield 124, 3) := by decide +kernel
theorem e_As_isAsSeen_35 : decode b_As_isAsSeen 35 = .ok (.if_icmp .ge 40, 3) := by decide +kernel
theorem e_As_isAsSeen_38 : decode b_As_isAsSeen 38 = .ok (.aload_n 1, 1) := by decide +kernel
theorem e_As_isAsSeen_39 : decode b_As_isAsSeen 39 = .ok (.iload 4, 2) := by decide +kernel
theorem e_As_isAsSeen_41 : decode b_As_isAsSeen 41 = .ok (.invokevirtual 129, 3) := by decide +kernel
theorem e_As_isAsSeen_44 : decode b_As_isAsSeen 44 = .ok (.iload_n 3, 1) := by decide +kernel
theorem e_As_isAsSeen_45 : decode b_As_isAsSeen 45 = .ok (.if_icmp .ne 24, 3) := by decide +kernel
theorem e_As_isAsSeen_48 : decode b_As_isAsSeen 48 = .ok (.aload_n 1, 1) := by decide +kernel
theorem e_As_isAsSeen_49 : decode b_As_isAsSeen 49 = .ok (.iload 4, 2) := by decide +kernel
theorem e_As_isAsSeen_51 : decode b_As_isAsSeen 51 = .ok (.invokevirtual 132, 3) := by decide +kernel
theorem e_As_isAsSeen_54 : decode b_As_isAsSeen 54 = .ok (.aload_n 0, 1) := by decide +kernel
theorem e_As_isAsSeen_55 : decode b_As_isAsSeen 55 = .ok (.getfield 27, 3) := by decide +kernel
theorem e_As_isAsSeen_58 : decode b_As_isAsSeen 58 = .ok (.getfield 44, 3) := by decide +kernel
theorem e_As_isAsSeen_61 : decode b_As_isAsSeen 61 = .ok (.if_icmp .eq 5, 3) := by decide +kernel
theorem e_As_isAsSeen_64 : decode b_As_isAsSeen 64 = .ok (.iconst 0, 1) := by decide +kernel
theorem e_As_isAsSeen_65 : decode b_As_isAsSeen 65 = .ok (.ireturn, 1) := by decide +kernel
theorem e_As_isAsSeen_66 : decode b_As_isAsSeen 66 = .ok (.iinc 2 1, 3) := by decide +kernel
theorem e_As_isAsSeen_69 : decode b_As_isAsSeen 69 = .ok (.iinc 4 1, 3) := by decide +kernel
theorem e_As_isAsSeen_72 : decode b_As_isAsSeen 72 = .ok (.goto (-43), 3) := by decide +kernel
theorem e_As_isAsSeen_75 : decode b_As_isAsSeen 75 = .ok (.aload_n 0, 1) := by decide +kernel
theorem e_As_isAsSeen_76 : decode b_As_isAsSeen 76 = .ok (.getfield 27, 3) := by decide +kernel
theorem e_As_isAsSeen_79 : decode b_As_isAsSeen 79 = .ok (.invokevirtual 56, 3) := by decide +kernel
theorem e_As_isAsSeen_82 : decode b_As_isAsSeen 82 = .ok (.iinc 3 1, 3) := by decide +kernel
theorem e_As_isAsSeen_85 : decode b_As_isAsSeen 85 = .ok (.goto (-73), 3) := by decide +kernel
theorem e_As_isAsSeen_88 : decode b_As_isAsSeen 88 = .ok (.iconst 1, 1) := by decide +kernel
theorem e_As_isAsSeen_89 : decode b_As_isAsSeen 89 = .ok (.ireturn, 1) := by decide +kernel
theorem e_As_chances_0 : decode b_As_chances 0 = .ok (.aload_n 0, 1) := by decide +kernel
theorem e_As_chances_1 : decode b_As_chances 1 = .ok (.getfield 18, 3) := by decide +kernel
theorem e_As_chances_4 : decode b_As_chances 4 = .ok (.getfield 31, 3) := by decide +kernel
theorem e_As_chances_7 : decode b_As_chances 7 = .ok (.iconst 0, 1) := by decide +kernel
theorem e_As_chances_8 : decode b_As_chances 8 = .ok (.invokevirtual 90, 3) := by decide +kernel
theorem e_As_chances_11 : decode b_As_chances 11 = .ok (.istore_n 2, 1) := by decide +kernel
theorem e_As_chances_12 : decode b_As_chances 12 = .ok (.iconst 0, 1) := by decide +kernel
theorem e_As_chances_13 : decode b_As_chances 13 = .ok (.istore_n 3, 1) := by decide +kernel
theorem e_As_chances_14 : decode b_As_chances 14 = .ok (.iconst 0, 1) := by decide +kernel
theorem e_As_chances_15 : decode b_As_chances 15 = .ok (.istore 4, 2) := by decide +kernel
theorem e_As_chances_17 : decode b_As_chances 17 = .ok (.iload 4, 2) := by decide +kernel
theorem e_As_chances_19 : decode b_As_chances 19 = .ok (.bipush 6, 2) := by decide +kernel
theorem e_As_chances_21 : decode b_As_chances 21 = .ok (.if_icmp .ge 34, 3) := by decide +kernel
theorem e_As_chances_24 : decode b_As_chances 24 = .ok (.iload_n 2, 1) := by decide +kernel
theorem e_As_chances_25 : decode b_As_chances 25 = .ok (.iload 4, 2) := by decide +kernel
theorem e_As_chances_27 : decode b_As_chances 27 = .ok (.ishr, 1) := by decide +kernel
theorem e_As_chances_28 : decode b_As_chances 28 = .ok (.iconst 1, 1) := by decide +kernel
theorem e_As_chances_29 : decode b_As_chances 29 = .ok (.iand, 1) := by decide +kernel
theorem e_As_chances_30 : decode b_As_chances 30 = .ok (.iconst 1, 1) := by decide +kernel
theorem e_As_chances_31 : decode b_As_chances 31 = .ok (.if_icmp .ne 18, 3) := by decide +kernel
theorem e_As_chances_34 : decode b_As_chances 34 = .ok (.aload_n 0, 1) := by decide +kernel
theorem e_As_chances_35 : decode b_As_chances 35 = .ok (.iconst 1, 1) := by decide +kernel
theorem e_As_chances_36 : decode b_As_chances 36 = .ok (.iload 4, 2) := by decide +kernel
theorem e_As_chances_38 : decode b_As_chances 38 = .ok (.ishl, 1) := by decide +kernel
theorem e_As_chances_39 : decode b_As_chances 39 = .ok (.iload_n 1, 1) := by decide +kernel
theorem e_As_chances_40 : decode b_As_chances 40 = .ok (.invokevirtual 99, 3) := by decide +kernel
theorem e_As_chances_43 : decode b_As_chances 43 = .ok (.ifCond .eq 6, 3) := by decide +kernel
theorem e_As_chances_46 : decode b_As_chances 46 = .ok (.iinc 3 1, 3) := by decide +kernel
theorem e_As_chances_49 : decode b_As_chances 49 = .ok (.iinc 4 1, 3) := by decide +kernel
theorem e_As_chances_52 : decode b_As_chances 52 = .ok (.goto (-35), 3) := by decide +kernel
theorem e_As_chances_55 : decode b_As_chances 55 = .ok (.iload_n 3, 1) := by decide +kernel
theorem e_As_chances_56 : decode b_As_chances 56 = .ok (.ireturn, 1) := by decide +kernel
theorem e_As_planned_0 : decode b_As_planned 0 = .ok (.aload_n 0, 1) := by decide +kernel
theorem e_As_planned_1 : decode b_As_planned 1 = .ok (.getfield 27, 3) := by decide +kernel
theorem e_As_planned_4 : decode b_As_planned 4 = .ok (.aload_n 0, 1) := by decide +kernel
theorem e_As_planned_5 : decode b_As_planned 5 = .ok (.getfield 18, 3) := by decide +kernel
theorem e_As_planned_8 : decode b_As_planned 8 = .ok (.getfield 31, 3) := by decide +kernel
theorem e_As_planned_11 : decode b_As_planned 11 = .ok (.invokevirtual 36, 3) := by decide +kernel
theorem e_As_planned_14 : decode b_As_planned 14 = .ok (.iconst 0, 1) := by decide +kernel
theorem e_As_planned_15 : decode b_As_planned 15 = .ok (.istore_n 2, 1) := by decide +kernel
theorem e_As_planned_16 : decode b_As_planned 16 = .ok (.iload_n 2, 1) := by decide +kernel
theorem e_As_planned_17 : decode b_As_planned 17 = .ok (.aload_n 0, 1) := by decide +kernel
theorem e_As_planned_18 : decode b_As_planned 18 = .ok (.getfield 18, 3) := by decide +kernel
theorem e_As_planned_21 : decode b_As_planned 21 = .ok (.getfield 135, 3) := by decide +kernel
theorem e_As_planned_24 : decode b_As_planned 24 = .ok (.getfield 124, 3) := by decide +kernel
theorem e_As_planned_27 : decode b_As_planned 27 = .ok (.if_icmp .ge 35, 3) := by decide +kernel
theorem e_As_planned_30 : decode b_As_planned 30 = .ok (.aload_n 0, 1) := by decide +kernel
theorem e_As_planned_31 : decode b_As_planned 31 = .ok (.aload_n 0, 1) := by decide +kernel
theorem e_As_planned_32 : decode b_As_planned 32 = .ok (.getfield 18, 3) := by decide +kernel
theorem e_As_planned_35 : decode b_As_planned 35 = .ok (.getfield 135, 3) := by decide +kernel
theorem e_As_planned_38 : decode b_As_planned 38 = .ok (.iload_n 2, 1) := by decide +kernel
theorem e_As_planned_39 : decode b_As_planned 39 = .ok (.invokevirtual 129, 3) := by decide +kernel
theorem e_As_planned_42 : decode b_As_planned 42 = .ok (.aload_n 0, 1) := by decide +kernel
theorem e_As_planned_43 : decode b_As_planned 43 = .ok (.getfield 18, 3) := by decide +kernel
theorem e_As_planned_46 : decode b_As_planned 46 = .ok (.getfield 135, 3) := by decide +kernel
theorem e_As_planned_49 : decode b_As_planned 49 = .ok (.iload_n 2, 1) := by decide +kernel
theorem e_As_planned_50 : decode b_As_planned 50 = .ok (.invokevirtual 132, 3) := by decide +kernel
theorem e_As_planned_53 : decode b_As_planned 53 = .ok (.invokevirtual 138, 3) := by decide +kernel
theorem e_As_planned_56 : decode b_As_planned 56 = .ok (.iinc 2 1, 3) := by decide +kernel
theorem e_As_planned_59 : decode b_As_planned 59 = .ok (.goto (-43), 3) := by decide +kernel
theorem e_As_planned_62 : decode b_As_planned 62 = .ok (.iload_n 1, 1) := by decide +kernel
theorem e_As_planned_63 : decode b_As_planned 63 = .ok (.ifCond .eq 13, 3) := by decide +kernel
theorem e_As_planned_66 : decode b_As_planned 66 = .ok (.aload_n 0, 1) := by decide +kernel
theorem e_As_planned_67 : decode b_As_planned 67 = .ok (.getfield 27, 3) := by decide +kernel
theorem e_As_planned_70 : decode b_As_planned 70 = .ok (.getfield 44, 3) := by decide +kernel
theorem e_As_planned_73 : decode b_As_planned 73 = .ok (.goto 11, 3) := by decide +kernel
theorem e_As_planned_76 : decode b_As_planned 76 = .ok (.aload_n 0, 1) := by decide +kernel
theorem e_As_planned_77 : decode b_As_planned 77 = .ok (.getfield 27, 3) := by decide +kernel
theorem e_As_planned_80 : decode b_As_planned 80 = .ok (.iconst 1, 1) := by decide +kernel
theorem e_As_planned_81 : decode b_As_planned 81 = .ok (.invokevirtual 90, 3) := by decide +kernel
theorem e_As_planned_84 : decode b_As_planned 84 = .ok (.ireturn, 1) := by decide +kernel
theorem e_As_follow_0 : decode b_As_follow 0 = .ok (.iload_n 1, 1) := by decide +kernel
theorem e_As_follow_1 : decode b_As_follow 1 = .ok (.ifCond .ne 13, 3) := by decide +kernel
theorem e_As_follow_4 : decode b_As_follow 4 = .ok (.aload_n 0, 1) := by decide +kernel
theorem e_As_follow_5 : decode b_As_follow 5 = .ok (.getfield 27, 3) := by decide +kernel
theorem e_As_follow_8 : decode b_As_follow 8 = .ok (.invokevirtual 56, 3) := by decide +kernel
theorem e_As_follow_11 : decode b_As_follow 11 = .ok (.goto 76, 3) := by decide +kernel
theorem e_As_follow_14 : decode b_As_follow 14 = .ok (.iload_n 1, 1) := by decide +kernel
theorem e_As_follow_15 : decode b_As_follow 15 = .ok (.iconst 3, 1) := by decide +kernel
theorem e_As_follow_16 : decode b_As_follow 16 = .ok (.if_icmp .ne 14, 3) := by decide +kernel
theorem e_As_follow_19 : decode b_As_follow 19 = .ok (.aload_n 0, 1) := by decide +kernel
theorem e_As_follow_20 : decode b_As_follow 20 = .ok (.getfield 27, 3) := by decide +kernel
theorem e_As_follow_23 : decode b_As_follow 23 = .ok (.iload_n 2, 1) := by decide +kernel
theorem e_As_follow_24 : decode b_As_follow 24 = .ok (.putfield 104, 3) := by decide +kernel
theorem e_As_follow_27 : decode b_As_follow 27 = .ok (.goto 60, 3) := by decide +kernel
theorem e_As_follow_30 : decode b_As_follow 30 = .ok (.aload_n 0, 1) := by decide +kernel
theorem e_As_follow_31 : decode b_As_follow 31 = .ok (.getfield 27, 3) := by decide +kernel
theorem e_As_follow_34 : decode b_As_follow 34 = .ok (.iload_n 2, 1) := by decide +kernel
theorem e_As_follow_35 : decode b_As_follow 35 = .ok (.invokevirtual 59, 3) := by decide +kernel
theorem e_As_follow_38 : decode b_As_follow 38 = .ok (.astore_n 3, 1) := by decide +kernel
theorem e_As_follow_39 : decode b_As_follow 39 = .ok (.aload_n 3, 1) := by decide +kernel
theorem e_As_follow_40 : decode b_As_follow 40 = .ok (.ifnull 22, 3) := by decide +kernel
theorem e_As_follow_43 : decode b_As_follow 43 = .ok (.iload_n 1, 1) := by decide +kernel
theorem e_As_follow_44 : decode b_As_follow 44 = .ok (.iconst 1, 1) := by decide +kernel
theorem e_As_follow_45 : decode b_As_follow 45 = .ok (.if_icmp .ne 17, 3) := by decide +kernel
theorem e_As_follow_48 : decode b_As_follow 48 = .ok (.aload_n 3, 1) := by decide +kernel
theorem e_As_follow_49 : decode b_As_follow 49 = .ok (.getfield 63, 3) := by decide +kernel
theorem e_As_follow_52 : decode b_As_follow 52 = .ok (.ifCond .ne 10, 3) := by decide +kernel
theorem e_As_follow_55 : decode b_As_follow 55 = .ok (.aload_n 3, 1) := by decide +kernel
theorem e_As_follow_56 : decode b_As_follow 56 = .ok (.invokevirtual 87, 3) := by decide +kernel
theorem e_As_follow_59 : decode b_As_follow 59 = .ok (.goto 28, 3) := by decide +kernel
theorem e_As_follow_62 : decode b_As_follow 62 = .ok (.aload_n 3, 1) := by decide +kernel
theorem e_As_follow_63 : decode b_As_follow 63 = .ok (.ifnull 24, 3) := by decide +kernel
theorem e_As_follow_66 : decode b_As_follow 66 = .ok (.iload_n 1, 1) := by decide +kernel
theorem e_As_follow_67 : decode b_As_follow 67 = .ok (.iconst 2, 1) := by decide +kernel
theorem e_As_follow_68 : decode b_As_follow 68 = .ok (.if_icmp .ne 19, 3) := by decide +kernel
theorem e_As_follow_71 : decode b_As_follow 71 = .ok (.aload_n 3, 1) := by decide +kernel
theorem e_As_follow_72 : decode b_As_follow 72 = .ok (.getfield 63, 3) := by decide +kernel
theorem e_As_follow_75 : decode b_As_follow 75 = .ok (.iconst 2, 1) := by decide +kernel
theorem e_As_follow_76 : decode b_As_follow 76 = .ok (.if_icmp .eq 11, 3) := by decide +kernel
theorem e_As_follow_79 : decode b_As_follow 79 = .ok (.aload_n 0, 1) := by decide +kernel
theorem e_As_follow_80 : decode b_As_follow 80 = .ok (.getfield 27, 3) := by decide +kernel
theorem e_As_follow_83 : decode b_As_follow 83 = .ok (.aload_n 3, 1) := by decide +kernel
theorem e_As_follow_84 : decode b_As_follow 84 = .ok (.invokevirtual 68, 3) := by decide +kernel
theorem e_As_follow_87 : decode b_As_follow 87 = .ok (.return_, 1) := by decide +kernel
theorem e_Ki_init_0 : decode b_Ki_init 0 = .ok (.aload_n 0, 1) := by decide +kernel
theorem e_Ki_init_1 : decode b_Ki_init 1 = .ok (.invokespecial 3, 3) := by decide +kernel
theorem e_Ki_init_4 : decode b_Ki_init 4 = .ok (.aload_n 0, 1) := by decide +kernel
theorem e_Ki_init_5 : decode b_Ki_init 5 = .ok (.bipush 100, 2) := by decide +kernel
theorem e_Ki_init_7 : decode b_Ki_init 7 = .ok (.newarray .int, 2) := by decide +kernel
theorem e_Ki_init_9 : decode b_Ki_init 9 = .ok (.putfield 9, 3) := by decide +kernel
theorem e_Ki_init_12 : decode b_Ki_init 12 = .ok (.aload_n 0, 1) := by decide +kernel
theorem e_Ki_init_13 : decode b_Ki_init 13 = .ok (.bipush 100, 2) := by decide +kernel
theorem e_Ki_init_15 : decode b_Ki_init 15 = .ok (.newarray .int, 2) := by decide +kernel
theorem e_Ki_init_17 : decode b_Ki_init 17 = .ok (.putfield 15, 3) := by decide +kernel
theorem e_Ki_init_20 : decode b_Ki_init 20 = .ok (.aload_n 0, 1) := by decide +kernel
theorem e_Ki_init_21 : decode b_Ki_init 21 = .ok (.bipush 100, 2) := by decide +kernel
theorem e_Ki_init_23 : decode b_Ki_init 23 = .ok (.newarray .int, 2) := by decide +kernel
theorem e_Ki_init_25 : decode b_Ki_init 25 = .ok (.putfield 18, 3) := by decide +kernel
theorem e_Ki_init_28 : decode b_Ki_init 28 = .ok (.aload_n 0, 1) := by decide +kernel
theorem e_Ki_init_29 : decode b_Ki_init 29 = .ok (.bipush 60, 2) := by decide +kernel
theorem e_Ki_init_31 : decode b_Ki_init 31 = .ok (.putfield 21, 3) := by decide +kernel
theorem e_Ki_init_34 : decode b_Ki_init 34 = .ok (.return_, 1) := by decide +kernel
theorem e_Ki_clean_0 : decode b_Ki_clean 0 = .ok (.aload_n 0, 1) := by decide +kernel
theorem e_Ki_clean_1 : decode b_Ki_clean 1 = .ok (.iconst 0, 1) := by decide +kernel
theorem e_Ki_clean_2 : decode b_Ki_clean 2 = .ok (.putfield 25, 3) := by decide +kernel
theorem e_Ki_clean_5 : decode b_Ki_clean 5 = .ok (.aload_n 0, 1) := by decide +kernel
theorem e_Ki_clean_6 : decode b_Ki_clean 6 = .ok (.bipush 60, 2) := by decide +kernel
theorem e_Ki_clean_8 : decode b_Ki_clean 8 = .ok (.putfield 21, 3) := by decide +kernel
theorem e_Ki_clean_11 : decode b_Ki_clean 11 = .ok (.return_, 1) := by decide +kernel
theorem e_Ki_addStep_0 : decode b_Ki_addStep 0 = .ok (.aload_n 0, 1) := by decide +kernel
theorem e_Ki_addStep_1 : decode b_Ki_addStep 1 = .ok (.getfield 25, 3) := by decide +kernel
theorem e_Ki_addStep_4 : decode b_Ki_addStep 4 = .ok (.ifCond .lt 52, 3) := by decide +kernel
theorem e_Ki_addStep_7 : decode b_Ki_addStep 7 = .ok (.aload_n 0, 1) := by decide +kernel
theorem e_Ki_addStep_8 : decode b_Ki_addStep 8 = .ok (.getfield 25, 3) := by decide +kernel
theorem e_Ki_addStep_11 : decode b_Ki_addStep 11 = .ok (.bipush 100, 2) := by decide +kernel
theorem e_Ki_addStep_13 : decode b_Ki_addStep 13 = .ok (.if_icmp .ge 43, 3) := by decide +kernel
theorem e_Ki_addStep_16 : decode b_Ki_addStep 16 = .ok (.aload_n 0, 1) := by decide +kernel
theorem e_Ki_addStep_17 : decode b_Ki_addStep 17 = .ok (.getfield 9, 3) := by decide +kernel
theorem e_Ki_addStep_20 : decode b_Ki_addStep 20 = .ok (.aload_n 0, 1) := by decide +kernel
theorem e_Ki_addStep_21 : decode b_Ki_addStep 21 = .ok (.getfield 25, 3) := by decide +kernel
theorem e_Ki_addStep_24 : decode b_Ki_addStep 24 = .ok (.iload_n 1, 1) := by decide +kernel
theorem e_Ki_addStep_25 : decode b_Ki_addStep 25 = .ok (.iastore, 1) := by decide +kernel
theorem e_Ki_addStep_26 : decode b_Ki_addStep 26 = .ok (.aload_n 0, 1) := by decide +kernel
theorem e_Ki_addStep_27 : decode b_Ki_addStep 27 = .ok (.getfield 15, 3) := by decide +kernel
theorem e_Ki_addStep_30 : decode b_Ki_addStep 30 = .ok (.aload_n 0, 1) := by decide +kernel
theorem e_Ki_addStep_31 : decode b_Ki_addStep 31 = .ok (.getfield 25, 3) := by decide +kernel
theorem e_Ki_addStep_34 : decode b_Ki_addStep 34 = .ok (.iload_n 2, 1) := by decide +kernel
theorem e_Ki_addStep_35 : decode b_Ki_addStep 35 = .ok (.iastore, 1) := by decide +kernel
theorem e_Ki_addStep_36 : decode b_Ki_addStep 36 = .ok (.aload_n 0, 1) := by decide +kernel
theorem e_Ki_addStep_37 : decode b_Ki_addStep 37 = .ok (.getfield 18, 3) := by decide +kernel
theorem e_Ki_addStep_40 : decode b_Ki_addStep 40 = .ok (.aload_n 0, 1) := by decide +kernel
theorem e_Ki_addStep_41 : decode b_Ki_addStep 41 = .ok (.getfield 25, 3) := by decide +kernel
theorem e_Ki_addStep_44 : decode b_Ki_addStep 44 = .ok (.iload_n 3, 1) := by decide +kernel
theorem e_Ki_addStep_45 : decode b_Ki_addStep 45 = .ok (.iastore, 1) := by decide +kernel
theorem e_Ki_addStep_46 : decode b_Ki_addStep 46 = .ok (.aload_n 0, 1) := by decide +kernel
theorem e_Ki_addStep_47 : decode b_Ki_addStep 47 = .ok (.dup, 1) := by decide +kernel
theorem e_Ki_addStep_48 : decode b_Ki_addStep 48 = .ok (.getfield 25, 3) := by decide +kernel
theorem e_Ki_addStep_51 : decode b_Ki_addStep 51 = .ok (.iconst 1, 1) := by decide +kernel
theorem e_Ki_addStep_52 : decode b_Ki_addStep 52 = .ok (.iadd, 1) := by decide +kernel
theorem e_Ki_addStep_53 : decode b_Ki_addStep 53 = .ok (.putfield 25, 3) := by decide +kernel
theorem e_Ki_addStep_56 : decode b_Ki_addStep 56 = .ok (.return_, 1) := by decide +kernel
theorem e_Ki_adds_0 : decode b_Ki_adds 0 = .ok (.iconst 0, 1) := by decide +kernel
theorem e_Ki_adds_1 : decode b_Ki_adds 1 = .ok (.istore_n 2, 1) := by decide +kernel
theorem e_Ki_adds_2 : decode b_Ki_adds 2 = .ok (.iconst 0, 1) := by decide +kernel
theorem e_Ki_adds_3 : decode b_Ki_adds 3 = .ok (.istore_n 3, 1) := by decide +kernel
theorem e_Ki_adds_4 : decode b_Ki_adds 4 = .ok (.iconst 0, 1) := by decide +kernel
theorem e_Ki_adds_5 : decode b_Ki_adds 5 = .ok (.istore 4, 2) := by decide +kernel
theorem e_Ki_adds_7 : decode b_Ki_adds 7 = .ok (.iload 4, 2) := by decide +kernel
theorem e_Ki_adds_9 : decode b_Ki_adds 9 = .ok (.aload_n 0, 1) := by decide +kernel
theorem e_Ki_adds_10 : decode b_Ki_adds 10 = .ok (.getfield 25, 3) := by decide +kernel
theorem e_Ki_adds_13 : decode b_Ki_adds 13 = .ok (.if_icmp .ge 202, 3) := by decide +kernel
theorem e_Ki_adds_16 : decode b_Ki_adds 16 = .ok (.iload 4, 2) := by decide +kernel
theorem e_Ki_adds_18 : decode b_Ki_adds 18 = .ok (.bipush 100, 2) := by decide +kernel
theorem e_Ki_adds_20 : decode b_Ki_adds 20 = .ok (.if_icmp .ge 195, 3) := by decide +kernel
theorem e_Ki_adds_23 : decode b_Ki_adds 23 = .ok (.aload_n 0, 1) := by decide +kernel
theorem e_Ki_adds_24 : decode b_Ki_adds 24 = .ok (.getfield 9, 3) := by decide +kernel
theorem e_Ki_adds_27 : decode b_Ki_adds 27 = .ok (.iload 4, 2) := by decide +kernel
theorem e_Ki_adds_29 : decode b_Ki_adds 29 = .ok (.iaload, 1) := by decide +kernel
theorem e_Ki_adds_30 : decode b_Ki_adds 30 = .ok (.istore 5, 2) := by decide +kernel
theorem e_Ki_adds_32 : decode b_Ki_adds 32 = .ok (.aload_n 0, 1) := by decide +kernel
theorem e_Ki_adds_33 : decode b_Ki_adds 33 = .ok (.getfield 18, 3) := by decide +kernel
theorem e_Ki_adds_36 : decode b_Ki_adds 36 = .ok (.iload 4, 2) := by decide +kernel
theorem e_Ki_adds_38 : decode b_Ki_adds 38 = .ok (.iaload, 1) := by decide +kernel
theorem e_Ki_adds_39 : decode b_Ki_adds 39 = .ok (.istore 6, 2) := by decide +kernel
theorem e_Ki_adds_41 : decode b_Ki_adds 41 = .ok (.iload_n 3, 1) := by decide +kernel
theorem e_Ki_adds_42 : decode b_Ki_adds 42 = .ok (.iconst 1, 1) := by decide +kernel
theorem e_Ki_adds_43 : decode b_Ki_adds 43 = .ok (.iand, 1) := by decide +kernel
theorem e_Ki_adds_44 : decode b_Ki_adds 44 = .ok (.istore 7, 2) := by decide +kernel
theorem e_Ki_adds_46 : decode b_Ki_adds 46 = .ok (.iload 5, 2) := by decide +kernel
theorem e_Ki_adds_48 : decode b_Ki_adds 48 = .ok (.tableswitch 92 6 10 #[36, 49, 59, 66, 79], 36) := by decide +kernel
theorem e_Ki_adds_84 : decode b_Ki_adds 84 = .ok (.iload_n 3, 1) := by decide +kernel
theorem e_Ki_adds_85 : decode b_Ki_adds 85 = .ok (.iconst 1, 1) := by decide +kernel
theorem e_Ki_adds_86 : decode b_Ki_adds 86 = .ok (.ishr, 1) := by decide +kernel
theorem e_Ki_adds_87 : decode b_Ki_adds 87 = .ok (.iload 7, 2) := by decide +kernel
theorem e_Ki_adds_89 : decode b_Ki_adds 89 = .ok (.bipush (-2), 2) := by decide +kernel
theorem e_Ki_adds_91 : decode b_Ki_adds 91 = .ok (.ior, 1) := by decide +kernel
theorem e_Ki_adds_92 : decode b_Ki_adds 92 = .ok (.iand, 1) := by decide +kernel
theorem e_Ki_adds_93 : decode b_Ki_adds 93 = .ok (.istore_n 3, 1) := by decide +kernel
theorem e_Ki_adds_94 : decode b_Ki_adds 94 = .ok (.goto 115, 3) := by decide +kernel
theorem e_Ki_adds_97 : decode b_Ki_adds 97 = .ok (.iload_n 3, 1) := by decide +kernel
theorem e_Ki_adds_98 : decode b_Ki_adds 98 = .ok (.iconst 1, 1) := by decide +kernel
theorem e_Ki_adds_99 : decode b_Ki_adds 99 = .ok (.ishr, 1) := by decide +kernel
theorem e_Ki_adds_100 : decode b_Ki_adds 100 = .ok (.iload 7, 2) := by decide +kernel
theorem e_Ki_adds_102 : decode b_Ki_adds 102 = .ok (.ior, 1) := by decide +kernel
theorem e_Ki_adds_103 : decode b_Ki_adds 103 = .ok (.istore_n 3, 1) := by decide +kernel
theorem e_Ki_adds_104 : decode b_Ki_adds 104 = .ok (.goto 105, 3) := by decide +kernel
theorem e_Ki_adds_107 : decode b_Ki_adds 107 = .ok (.iload_n 3, 1) := by decide +kernel
theorem e_Ki_adds_108 : decode b_Ki_adds 108 = .ok (.iconst 1, 1) := by decide +kernel
theorem e_Ki_adds_109 : decode b_Ki_adds 109 = .ok (.ixor, 1) := by decide +kernel
theorem e_Ki_adds_110 : decode b_Ki_adds 110 = .ok (.istore_n 3, 1) := by decide +kernel
theorem e_Ki_adds_111 : decode b_Ki_adds 111 = .ok (.goto 98, 3) := by decide +kernel
theorem e_Ki_adds_114 : decode b_Ki_adds 114 = .ok (.iload_n 2, 1) := by decide +kernel
theorem e_Ki_adds_115 : decode b_Ki_adds 115 = .ok (.iload 7, 2) := by decide +kernel
theorem e_Ki_adds_117 : decode b_Ki_adds 117 = .ok (.iload 6, 2) := by decide +kernel
theorem e_Ki_adds_119 : decode b_Ki_adds 119 = .ok (.imul, 1) := by decide +kernel
theorem e_Ki_adds_120 : decode b_Ki_adds 120 = .ok (.iadd, 1) := by decide +kernel
theorem e_Ki_adds_121 : decode b_Ki_adds 121 = .ok (.istore_n 2, 1) := by decide +kernel
theorem e_Ki_adds_122 : decode b_Ki_adds 122 = .ok (.iconst 0, 1) := by decide +kernel
theorem e_Ki_adds_123 : decode b_Ki_adds 123 = .ok (.istore_n 3, 1) := by decide +kernel
theorem e_Ki_adds_124 : decode b_Ki_adds 124 = .ok (.goto 85, 3) := by decide +kernel
theorem e_Ki_adds_127 : decode b_Ki_adds 127 = .ok (.iload_n 2, 1) := by decide +kernel
theorem e_Ki_adds_128 : decode b_Ki_adds 128 = .ok (.iload 7, 2) := by decide +kernel
theorem e_Ki_adds_130 : decode b_Ki_adds 130 = .ok (.iload 6, 2) := by decide +kernel
theorem e_Ki_adds_132 : decode b_Ki_adds 132 = .ok (.imul, 1) := by decide +kernel
theorem e_Ki_adds_133 : decode b_Ki_adds 133 = .ok (.isub, 1) := by decide +kernel
theorem e_Ki_adds_134 : decode b_Ki_adds 134 = .ok (.istore_n 2, 1) := by decide +kernel
theorem e_Ki_adds_135 : decode b_Ki_adds 135 = .ok (.iconst 0, 1) := by decide +kernel
theorem e_Ki_adds_136 : decode b_Ki_adds 136 = .ok (.istore_n 3, 1) := by decide +kernel
theorem e_Ki_adds_137 : decode b_Ki_adds 137 = .ok (.goto 72, 3) := by decide +kernel
theorem e_Ki_adds_140 : decode b_Ki_adds 140 = .ok (.iload 5, 2) := by decide +kernel
theorem e_Ki_adds_142 : decode b_Ki_adds 142 = .ok (.ifCond .lt 17, 3) := by decide +kernel
theorem e_Ki_adds_145 : decode b_Ki_adds 145 = .ok (.iload 5, 2) := by decide +kernel
theorem e_Ki_adds_147 : decode b_Ki_adds 147 = .ok (.aload_n 1, 1) := by decide +kernel
theorem e_Ki_adds_148 : decode b_Ki_adds 148 = .ok (.arraylength, 1) := by decide +kernel
theorem e_Ki_adds_149 : decode b_Ki_adds 149 = .ok (.if_icmp .ge 10, 3) := by decide +kernel
theorem e_Ki_adds_152 : decode b_Ki_adds 152 = .ok (.aload_n 1, 1) := by decide +kernel
theorem e_Ki_adds_153 : decode b_Ki_adds 153 = .ok (.iload 5, 2) := by decide +kernel
theorem e_Ki_adds_155 : decode b_Ki_adds 155 = .ok (.iaload, 1) := by decide +kernel
theorem e_Ki_adds_156 : decode b_Ki_adds 156 = .ok (.goto 4, 3) := by decide +kernel
theorem e_Ki_adds_159 : decode b_Ki_adds 159 = .ok (.iconst 0, 1) := by decide +kernel
theorem e_Ki_adds_160 : decode b_Ki_adds 160 = .ok (.istore 8, 2) := by decide +kernel
theorem e_Ki_adds_162 : decode b_Ki_adds 162 = .ok (.iload 8, 2) := by decide +kernel
theorem e_Ki_adds_164 : decode b_Ki_adds 164 = .ok (.iload 6, 2) := by decide +kernel
theorem e_Ki_adds_166 : decode b_Ki_adds 166 = .ok (.if_icmp .ge 7, 3) := by decide +kernel
theorem e_Ki_adds_169 : decode b_Ki_adds 169 = .ok (.iconst 0, 1) := by decide +kernel
theorem e_Ki_adds_170 : decode b_Ki_adds 170 = .ok (.goto 15, 3) := by decide +kernel
theorem e_Ki_adds_173 : decode b_Ki_adds 173 = .ok (.iload 8, 2) := by decide +kernel
theorem e_Ki_adds_175 : decode b_Ki_adds 175 = .ok (.iload 6, 2) := by decide +kernel
theorem e_Ki_adds_177 : decode b_Ki_adds 177 = .ok (.if_icmp .le 7, 3) := by decide +kernel
theorem e_Ki_adds_180 : decode b_Ki_adds 180 = .ok (.iconst 2, 1) := by decide +kernel
theorem e_Ki_adds_181 : decode b_Ki_adds 181 = .ok (.goto 4, 3) := by decide +kernel
theorem e_Ki_adds_184 : decode b_Ki_adds 184 = .ok (.iconst 1, 1) := by decide +kernel
theorem e_Ki_adds_185 : decode b_Ki_adds 185 = .ok (.istore 9, 2) := by decide +kernel
theorem e_Ki_adds_187 : decode b_Ki_adds 187 = .ok (.iload_n 3, 1) := by decide +kernel
theorem e_Ki_adds_188 : decode b_Ki_adds 188 = .ok (.iconst 1, 1) := by decide +kernel
theorem e_Ki_adds_189 : decode b_Ki_adds 189 = .ok (.ishl, 1) := by decide +kernel
theorem e_Ki_adds_190 : decode b_Ki_adds 190 = .ok (.iload 9, 2) := by decide +kernel
theorem e_Ki_adds_192 : decode b_Ki_adds 192 = .ok (.aload_n 0, 1) := by decide +kernel
theorem e_Ki_adds_193 : decode b_Ki_adds 193 = .ok (.getfield 15, 3) := by decide +kernel
theorem e_Ki_adds_196 : decode b_Ki_adds 196 = .ok (.iload 4, 2) := by decide +kernel
theorem e_Ki_adds_198 : decode b_Ki_adds 198 = .ok (.iaload, 1) := by decide +kernel
theorem e_Ki_adds_199 : decode b_Ki_adds 199 = .ok (.if_icmp .ne 7, 3) := by decide +kernel
theorem e_Ki_adds_202 : decode b_Ki_adds 202 = .ok (.iconst 1, 1) := by decide +kernel
theorem e_Ki_adds_203 : decode b_Ki_adds 203 = .ok (.goto 4, 3) := by decide +kernel
theorem e_Ki_adds_206 : decode b_Ki_adds 206 = .ok (.iconst 0, 1) := by decide +kernel
theorem e_Ki_adds_207 : decode b_Ki_adds 207 = .ok (.ior, 1) := by decide +kernel
theorem e_Ki_adds_208 : decode b_Ki_adds 208 = .ok (.istore_n 3, 1) := by decide +kernel
theorem e_Ki_adds_209 : decode b_Ki_adds 209 = .ok (.iinc 4 1, 3) := by decide +kernel
theorem e_Ki_adds_212 : decode b_Ki_adds 212 = .ok (.goto (-205), 3) := by decide +kernel
theorem e_Ki_adds_215 : decode b_Ki_adds 215 = .ok (.iload_n 2, 1) := by decide +kernel
theorem e_Ki_adds_216 : decode b_Ki_adds 216 = .ok (.ireturn, 1) := by decide +kernel
theorem e_Pa_init_0 : decode b_Pa_init 0 = .ok (.aload_n 0, 1) := by decide +kernel
theorem e_Pa_init_1 : decode b_Pa_init 1 = .ok (.invokespecial 3, 3) := by decide +kernel
theorem e_Pa_init_4 : decode b_Pa_init 4 = .ok (.aload_n 0, 1) := by decide +kernel
theorem e_Pa_init_5 : decode b_Pa_init 5 = .ok (.bipush 6, 2) := by decide +kernel
theorem e_Pa_init_7 : decode b_Pa_init 7 = .ok (.anewarray 9, 3) := by decide +kernel
theorem e_Pa_init_10 : decode b_Pa_init 10 = .ok (.putfield 11, 3) := by decide +kernel
theorem e_Pa_init_13 : decode b_Pa_init 13 = .ok (.aload_n 0, 1) := by decide +kernel
theorem e_Pa_init_14 : decode b_Pa_init 14 = .ok (.iconst 1, 1) := by decide +kernel
theorem e_Pa_init_15 : decode b_Pa_init 15 = .ok (.putfield 17, 3) := by decide +kernel
theorem e_Pa_init_18 : decode b_Pa_init 18 = .ok (.aload_n 0, 1) := by decide +kernel
theorem e_Pa_init_19 : decode b_Pa_init 19 = .ok (.bipush 6, 2) := by decide +kernel
theorem e_Pa_init_21 : decode b_Pa_init 21 = .ok (.newarray .int, 2) := by decide +kernel
theorem e_Pa_init_23 : decode b_Pa_init 23 = .ok (.putfield 23, 3) := by decide +kernel
theorem e_Pa_init_26 : decode b_Pa_init 26 = .ok (.aload_n 0, 1) := by decide +kernel
theorem e_Pa_init_27 : decode b_Pa_init 27 = .ok (.aload_n 1, 1) := by decide +kernel
theorem e_Pa_init_28 : decode b_Pa_init 28 = .ok (.putfield 27, 3) := by decide +kernel
theorem e_Pa_init_31 : decode b_Pa_init 31 = .ok (.iconst 0, 1) := by decide +kernel
theorem e_Pa_init_32 : decode b_Pa_init 32 = .ok (.istore_n 2, 1) := by decide +kernel
theorem e_Pa_init_33 : decode b_Pa_init 33 = .ok (.iload_n 2, 1) := by decide +kernel
theorem e_Pa_init_34 : decode b_Pa_init 34 = .ok (.bipush 6, 2) := by decide +kernel
theorem e_Pa_init_36 : decode b_Pa_init 36 = .ok (.if_icmp .ge 23, 3) := by decide +kernel
theorem e_Pa_init_39 : decode b_Pa_init 39 = .ok (.aload_n 0, 1) := by decide +kernel
theorem e_Pa_init_40 : decode b_Pa_init 40 = .ok (.getfield 11, 3) := by decide +kernel
theorem e_Pa_init_43 : decode b_Pa_init 43 = .ok (.iload_n 2, 1) := by decide +kernel
theorem e_Pa_init_44 : decode b_Pa_init 44 = .ok (.new 9, 3) := by decide +kernel
theorem e_Pa_init_47 : decode b_Pa_init 47 = .ok (.dup, 1) := by decide +kernel
theorem e_Pa_init_48 : decode b_Pa_init 48 = .ok (.iload_n 2, 1) := by decide +kernel
theorem e_Pa_init_49 : decode b_Pa_init 49 = .ok (.invokespecial 31, 3) := by decide +kernel
theorem e_Pa_init_52 : decode b_Pa_init 52 = .ok (.aastore, 1) := by decide +kernel
theorem e_Pa_init_53 : decode b_Pa_init 53 = .ok (.iinc 2 1, 3) := by decide +kernel
theorem e_Pa_init_56 : decode b_Pa_init 56 = .ok (.goto (-23), 3) := by decide +kernel
theorem e_Pa_init_59 : decode b_Pa_init 59 = .ok (.return_, 1) := by decide +kernel
theorem e_Pa_copyFrom_0 : decode b_Pa_copyFrom 0 = .ok (.aload_n 0, 1) := by decide +kernel
theorem e_Pa_copyFrom_1 : decode b_Pa_copyFrom 1 = .ok (.aload_n 1, 1) := by decide +kernel
theorem e_Pa_copyFrom_2 : decode b_Pa_copyFrom 2 = .ok (.getfield 34, 3) := by decide +kernel
theorem e_Pa_copyFrom_5 : decode b_Pa_copyFrom 5 = .ok (.putfield 34, 3) := by decide +kernel
theorem e_Pa_copyFrom_8 : decode b_Pa_copyFrom 8 = .ok (.iconst 0, 1) := by decide +kernel
theorem e_Pa_copyFrom_9 : decode b_Pa_copyFrom 9 = .ok (.istore_n 2, 1) := by decide +kernel
theorem e_Pa_copyFrom_10 : decode b_Pa_copyFrom 10 = .ok (.iload_n 2, 1) := by decide +kernel
theorem e_Pa_copyFrom_11 : decode b_Pa_copyFrom 11 = .ok (.bipush 6, 2) := by decide +kernel
theorem e_Pa_copyFrom_13 : decode b_Pa_copyFrom 13 = .ok (.if_icmp .ge 24, 3) := by decide +kernel
theorem e_Pa_copyFrom_16 : decode b_Pa_copyFrom 16 = .ok (.aload_n 0, 1) := by decide +kernel
theorem e_Pa_copyFrom_17 : decode b_Pa_copyFrom 17 = .ok (.getfield 11, 3) := by decide +kernel
theorem e_Pa_copyFrom_20 : decode b_Pa_copyFrom 20 = .ok (.iload_n 2, 1) := by decide +kernel
theorem e_Pa_copyFrom_21 : decode b_Pa_copyFrom 21 = .ok (.aaload, 1) := by decide +kernel
theorem e_Pa_copyFrom_22 : decode b_Pa_copyFrom 22 = .ok (.aload_n 1, 1) := by decide +kernel
theorem e_Pa_copyFrom_23 : decode b_Pa_copyFrom 23 = .ok (.getfield 11, 3) := by decide +kernel
theorem e_Pa_copyFrom_26 : decode b_Pa_copyFrom 26 = .ok (.iload_n 2, 1) := by decide +kernel
theorem e_Pa_copyFrom_27 : decode b_Pa_copyFrom 27 = .ok (.aaload, 1) := by decide +kernel
theorem e_Pa_copyFrom_28 : decode b_Pa_copyFrom 28 = .ok (.invokevirtual 37, 3) := by decide +kernel
theorem e_Pa_copyFrom_31 : decode b_Pa_copyFrom 31 = .ok (.iinc 2 1, 3) := by decide +kernel
theorem e_Pa_copyFrom_34 : decode b_Pa_copyFrom 34 = .ok (.goto (-24), 3) := by decide +kernel
theorem e_Pa_copyFrom_37 : decode b_Pa_copyFrom 37 = .ok (.aload_n 0, 1) := by decide +kernel
theorem e_Pa_copyFrom_38 : decode b_Pa_copyFrom 38 = .ok (.aload_n 1, 1) := by decide +kernel
theorem e_Pa_copyFrom_39 : decode b_Pa_copyFrom 39 = .ok (.getfield 17, 3) := by decide +kernel
theorem e_Pa_copyFrom_42 : decode b_Pa_copyFrom 42 = .ok (.putfield 17, 3) := by decide +kernel
theorem e_Pa_copyFrom_45 : decode b_Pa_copyFrom 45 = .ok (.aload_n 0, 1) := by decide +kernel
theorem e_Pa_copyFrom_46 : decode b_Pa_copyFrom 46 = .ok (.aload_n 1, 1) := by decide +kernel
theorem e_Pa_copyFrom_47 : decode b_Pa_copyFrom 47 = .ok (.getfield 41, 3) := by decide +kernel
theorem e_Pa_copyFrom_50 : decode b_Pa_copyFrom 50 = .ok (.putfield 41, 3) := by decide +kernel
theorem e_Pa_copyFrom_53 : decode b_Pa_copyFrom 53 = .ok (.aload_n 0, 1) := by decide +kernel
theorem e_Pa_copyFrom_54 : decode b_Pa_copyFrom 54 = .ok (.aload_n 1, 1) := by decide +kernel
theorem e_Pa_copyFrom_55 : decode b_Pa_copyFrom 55 = .ok (.getfield 44, 3) := by decide +kernel
theorem e_Pa_copyFrom_58 : decode b_Pa_copyFrom 58 = .ok (.putfield 44, 3) := by decide +kernel
theorem e_Pa_copyFrom_61 : decode b_Pa_copyFrom 61 = .ok (.aload_n 0, 1) := by decide +kernel
theorem e_Pa_copyFrom_62 : decode b_Pa_copyFrom 62 = .ok (.aload_n 1, 1) := by decide +kernel
theorem e_Pa_copyFrom_63 : decode b_Pa_copyFrom 63 = .ok (.getfield 48, 3) := by decide +kernel
theorem e_Pa_copyFrom_66 : decode b_Pa_copyFrom 66 = .ok (.putfield 48, 3) := by decide +kernel
theorem e_Pa_copyFrom_69 : decode b_Pa_copyFrom 69 = .ok (.aload_n 0, 1) := by decide +kernel
theorem e_Pa_copyFrom_70 : decode b_Pa_copyFrom 70 = .ok (.aload_n 1, 1) := by decide +kernel
theorem e_Pa_copyFrom_71 : decode b_Pa_copyFrom 71 = .ok (.getfield 27, 3) := by decide +kernel
theorem e_Pa_copyFrom_74 : decode b_Pa_copyFrom 74 = .ok (.putfield 27, 3) := by decide +kernel
theorem e_Pa_copyFrom_77 : decode b_Pa_copyFrom 77 = .ok (.return_, 1) := by decide +kernel
theorem e_Pa_addThing_0 : decode b_Pa_addThing 0 = .ok (.aload_n 0, 1) := by decide +kernel
theorem e_Pa_addThing_1 : decode b_Pa_addThing 1 = .ok (.getfield 34, 3) := by decide +kernel
theorem e_Pa_addThing_4 : decode b_Pa_addThing 4 = .ok (.ifCond .lt 12, 3) := by decide +kernel
theorem e_Pa_addThing_7 : decode b_Pa_addThing 7 = .ok (.aload_n 0, 1) := by decide +kernel
theorem e_Pa_addThing_8 : decode b_Pa_addThing 8 = .ok (.getfield 34, 3) := by decide +kernel
theorem e_Pa_addThing_11 : decode b_Pa_addThing 11 = .ok (.bipush 6, 2) := by decide +kernel
theorem e_Pa_addThing_13 : decode b_Pa_addThing 13 = .ok (.if_icmp .lt 6, 3) := by decide +kernel
theorem e_Pa_addThing_16 : decode b_Pa_addThing 16 = .ok (.bipush (-4), 2) := by decide +kernel
theorem e_Pa_addThing_18 : decode b_Pa_addThing 18 = .ok (.ireturn, 1) := by decide +kernel
theorem e_Pa_addThing_19 : decode b_Pa_addThing 19 = .ok (.aload_n 0, 1) := by decide +kernel
theorem e_Pa_addThing_20 : decode b_Pa_addThing 20 = .ok (.getfield 11, 3) := by decide +kernel
theorem e_Pa_addThing_23 : decode b_Pa_addThing 23 = .ok (.aload_n 0, 1) := by decide +kernel
theorem e_Pa_addThing_24 : decode b_Pa_addThing 24 = .ok (.getfield 34, 3) := by decide +kernel
theorem e_Pa_addThing_27 : decode b_Pa_addThing 27 = .ok (.aaload, 1) := by decide +kernel
theorem e_Pa_addThing_28 : decode b_Pa_addThing 28 = .ok (.iload_n 1, 1) := by decide +kernel
theorem e_Pa_addThing_29 : decode b_Pa_addThing 29 = .ok (.iload_n 2, 1) := by decide +kernel
theorem e_Pa_addThing_30 : decode b_Pa_addThing 30 = .ok (.iload_n 3, 1) := by decide +kernel
theorem e_Pa_addThing_31 : decode b_Pa_addThing 31 = .ok (.iload 4, 2) := by decide +kernel
theorem e_Pa_addThing_33 : decode b_Pa_addThing 33 = .ok (.invokevirtual 51, 3) := by decide +kernel
theorem e_Pa_addThing_36 : decode b_Pa_addThing 36 = .ok (.aload_n 0, 1) := by decide +kernel
theorem e_Pa_addThing_37 : decode b_Pa_addThing 37 = .ok (.dup, 1) := by decide +kernel
theorem e_Pa_addThing_38 : decode b_Pa_addThing 38 = .ok (.getfield 34, 3) := by decide +kernel
theorem e_Pa_addThing_41 : decode b_Pa_addThing 41 = .ok (.iconst 1, 1) := by decide +kernel
theorem e_Pa_addThing_42 : decode b_Pa_addThing 42 = .ok (.iadd, 1) := by decide +kernel
theorem e_Pa_addThing_43 : decode b_Pa_addThing 43 = .ok (.putfield 34, 3) := by decide +kernel
theorem e_Pa_addThing_46 : decode b_Pa_addThing 46 = .ok (.aload_n 0, 1) := by decide +kernel
theorem e_Pa_addThing_47 : decode b_Pa_addThing 47 = .ok (.getfield 34, 3) := by decide +kernel
theorem e_Pa_addThing_50 : decode b_Pa_addThing 50 = .ok (.iconst 1, 1) := by decide +kernel
theorem e_Pa_addThing_51 : decode b_Pa_addThing 51 = .ok (.isub, 1) := by decide +kernel
theorem e_Pa_addThing_52 : decode b_Pa_addThing 52 = .ok (.ireturn, 1) := by decide +kernel
theorem e_Pa_find_0 : decode b_Pa_find 0 = .ok (.iload_n 1, 1) := by decide +kernel
theorem e_Pa_find_1 : decode b_Pa_find 1 = .ok (.ifCond .lt 26, 3) := by decide +kernel
theorem e_Pa_find_4 : decode b_Pa_find 4 = .ok (.iload_n 1, 1) := by decide +kernel
theorem e_Pa_find_5 : decode b_Pa_find 5 = .ok (.aload_n 0, 1) := by decide +kernel
theorem e_Pa_find_6 : decode b_Pa_find 6 = .ok (.getfield 34, 3) := by decide +kernel
theorem e_Pa_find_9 : decode b_Pa_find 9 = .ok (.if_icmp .ge 18, 3) := by decide +kernel
theorem e_Pa_find_12 : decode b_Pa_find 12 = .ok (.iload_n 1, 1) := by decide +kernel
theorem e_Pa_find_13 : decode b_Pa_find 13 = .ok (.bipush 6, 2) := by decide +kernel
theorem e_Pa_find_15 : decode b_Pa_find 15 = .ok (.if_icmp .ge 12, 3) := by decide +kernel
theorem e_Pa_find_18 : decode b_Pa_find 18 = .ok (.aload_n 0, 1) := by decide +kernel
theorem e_Pa_find_19 : decode b_Pa_find 19 = .ok (.getfield 11, 3) := by decide +kernel
theorem e_Pa_find_22 : decode b_Pa_find 22 = .ok (.iload_n 1, 1) := by decide +kernel
theorem e_Pa_find_23 : decode b_Pa_find 23 = .ok (.aaload, 1) := by decide +kernel
theorem e_Pa_find_24 : decode b_Pa_find 24 = .ok (.goto 4, 3) := by decide +kernel
theorem e_Pa_find_27 : decode b_Pa_find 27 = .ok (.aconst_null, 1) := by decide +kernel
theorem e_Pa_find_28 : decode b_Pa_find 28 = .ok (.areturn, 1) := by decide +kernel
theorem e_Pa_bitsOf_0 : decode b_Pa_bitsOf 0 = .ok (.iconst 0, 1) := by decide +kernel
theorem e_Pa_bitsOf_1 : decode b_Pa_bitsOf 1 = .ok (.istore_n 2, 1) := by decide +kernel
theorem e_Pa_bitsOf_2 : decode b_Pa_bitsOf 2 = .ok (.iconst 0, 1) := by decide +kernel
theorem e_Pa_bitsOf_3 : decode b_Pa_bitsOf 3 = .ok (.istore_n 3, 1) := by decide +kernel
theorem e_Pa_bitsOf_4 : decode b_Pa_bitsOf 4 = .ok (.iload_n 3, 1) := by decide +kernel
theorem e_Pa_bitsOf_5 : decode b_Pa_bitsOf 5 = .ok (.aload_n 0, 1) := by decide +kernel
theorem e_Pa_bitsOf_6 : decode b_Pa_bitsOf 6 = .ok (.getfield 34, 3) := by decide +kernel
theorem e_Pa_bitsOf_9 : decode b_Pa_bitsOf 9 = .ok (.if_icmp .ge 34, 3) := by decide +kernel
theorem e_Pa_bitsOf_12 : decode b_Pa_bitsOf 12 = .ok (.iload_n 3, 1) := by decide +kernel
theorem e_Pa_bitsOf_13 : decode b_Pa_bitsOf 13 = .ok (.bipush 6, 2) := by decide +kernel
theorem e_Pa_bitsOf_15 : decode b_Pa_bitsOf 15 = .ok (.if_icmp .ge 28, 3) := by decide +kernel
theorem e_Pa_bitsOf_18 : decode b_Pa_bitsOf 18 = .ok (.aload_n 0, 1) := by decide +kernel
theorem e_Pa_bitsOf_19 : decode b_Pa_bitsOf 19 = .ok (.getfield 11, 3) := by decide +kernel
theorem e_Pa_bitsOf_22 : decode b_Pa_bitsOf 22 = .ok (.iload_n 3, 1) := by decide +kernel
theorem e_Pa_bitsOf_23 : decode b_Pa_bitsOf 23 = .ok (.aaload, 1) := by decide +kernel
theorem e_Pa_bitsOf_24 : decode b_Pa_bitsOf 24 = .ok (.getfield 55, 3) := by decide +kernel
theorem e_Pa_bitsOf_27 : decode b_Pa_bitsOf 27 = .ok (.iload_n 1, 1) := by decide +kernel
theorem e_Pa_bitsOf_28 : decode b_Pa_bitsOf 28 = .ok (.if_icmp .ne 9, 3) := by decide +kernel
theorem e_Pa_bitsOf_31 : decode b_Pa_bitsOf 31 = .ok (.iload_n 2, 1) := by decide +kernel
theorem e_Pa_bitsOf_32 : decode b_Pa_bitsOf 32 = .ok (.iconst 1, 1) := by decide +kernel
theorem e_Pa_bitsOf_33 : decode b_Pa_bitsOf 33 = .ok (.iload_n 3, 1) := by decide +kernel
theorem e_Pa_bitsOf_34 : decode b_Pa_bitsOf 34 = .ok (.ishl, 1) := by decide +kernel
theorem e_Pa_bitsOf_35 : decode b_Pa_bitsOf 35 = .ok (.ior, 1) := by decide +kernel
theorem e_Pa_bitsOf_36 : decode b_Pa_bitsOf 36 = .ok (.istore_n 2, 1) := by decide +kernel
theorem e_Pa_bitsOf_37 : decode b_Pa_bitsOf 37 = .ok (.iinc 3 1, 3) := by decide +kernel
theorem e_Pa_bitsOf_40 : decode b_Pa_bitsOf 40 = .ok (.goto (-36), 3) := by decide +kernel
theorem e_Pa_bitsOf_43 : decode b_Pa_bitsOf 43 = .ok (.iload_n 2, 1) := by decide +kernel
theorem e_Pa_bitsOf_44 : decode b_Pa_bitsOf 44 = .ok (.ireturn, 1) := by decide +kernel
theorem e_Pa_howMany_0 : decode b_Pa_howMany 0 = .ok (.aload_n 0, 1) := by decide +kernel
theorem e_Pa_howMany_1 : decode b_Pa_howMany 1 = .ok (.iload_n 1, 1) := by decide +kernel
theorem e_Pa_howMany_2 : decode b_Pa_howMany 2 = .ok (.invokevirtual 58, 3) := by decide +kernel
theorem e_Pa_howMany_5 : decode b_Pa_howMany 5 = .ok (.invokestatic 62, 3) := by decide +kernel
theorem e_Pa_howMany_8 : decode b_Pa_howMany 8 = .ok (.ireturn, 1) := by decide +kernel
theorem e_Pa_speak_0 : decode b_Pa_speak 0 = .ok (.aload_n 1, 1) := by decide +kernel
theorem e_Pa_speak_1 : decode b_Pa_speak 1 = .ok (.iconst 2, 1) := by decide +kernel
theorem e_Pa_speak_2 : decode b_Pa_speak 2 = .ok (.putfield 55, 3) := by decide +kernel
theorem e_Pa_speak_5 : decode b_Pa_speak 5 = .ok (.aload_n 0, 1) := by decide +kernel
theorem e_Pa_speak_6 : decode b_Pa_speak 6 = .ok (.getfield 44, 3) := by decide +kernel
theorem e_Pa_speak_9 : decode b_Pa_speak 9 = .ok (.ifCond .ne 23, 3) := by decide +kernel
theorem e_Pa_speak_12 : decode b_Pa_speak 12 = .ok (.aload_n 0, 1) := by decide +kernel
theorem e_Pa_speak_13 : decode b_Pa_speak 13 = .ok (.iconst 0, 1) := by decide +kernel
theorem e_Pa_speak_14 : decode b_Pa_speak 14 = .ok (.aload_n 0, 1) := by decide +kernel
theorem e_Pa_speak_15 : decode b_Pa_speak 15 = .ok (.getfield 41, 3) := by decide +kernel
theorem e_Pa_speak_18 : decode b_Pa_speak 18 = .ok (.bipush 10, 2) := by decide +kernel
theorem e_Pa_speak_20 : decode b_Pa_speak 20 = .ok (.aload_n 1, 1) := by decide +kernel
theorem e_Pa_speak_21 : decode b_Pa_speak 21 = .ok (.getfield 67, 3) := by decide +kernel
theorem e_Pa_speak_24 : decode b_Pa_speak 24 = .ok (.imul, 1) := by decide +kernel
theorem e_Pa_speak_25 : decode b_Pa_speak 25 = .ok (.isub, 1) := by decide +kernel
theorem e_Pa_speak_26 : decode b_Pa_speak 26 = .ok (.invokestatic 70, 3) := by decide +kernel
theorem e_Pa_speak_29 : decode b_Pa_speak 29 = .ok (.putfield 41, 3) := by decide +kernel
theorem e_Pa_speak_32 : decode b_Pa_speak 32 = .ok (.return_, 1) := by decide +kernel
theorem e_Pa_tipOut_0 : decode b_Pa_tipOut 0 = .ok (.iconst 0, 1) := by decide +kernel
theorem e_Pa_tipOut_1 : decode b_Pa_tipOut 1 = .ok (.istore_n 1, 1) := by decide +kernel
theorem e_Pa_tipOut_2 : decode b_Pa_tipOut 2 = .ok (.iload_n 1, 1) := by decide +kernel
theorem e_Pa_tipOut_3 : decode b_Pa_tipOut 3 = .ok (.aload_n 0, 1) := by decide +kernel
theorem e_Pa_tipOut_4 : decode b_Pa_tipOut 4 = .ok (.getfield 34, 3) := by decide +kernel
theorem e_Pa_tipOut_7 : decode b_Pa_tipOut 7 = .ok (.if_icmp .ge 38, 3) := by decide +kernel
theorem e_Pa_tipOut_10 : decode b_Pa_tipOut 10 = .ok (.iload_n 1, 1) := by decide +kernel
theorem e_Pa_tipOut_11 : decode b_Pa_tipOut 11 = .ok (.bipush 6, 2) := by decide +kernel
theorem e_Pa_tipOut_13 : decode b_Pa_tipOut 13 = .ok (.if_icmp .ge 32, 3) := by decide +kernel
theorem e_Pa_tipOut_16 : decode b_Pa_tipOut 16 = .ok (.aload_n 0, 1) := by decide +kernel
theorem e_Pa_tipOut_17 : decode b_Pa_tipOut 17 = .ok (.getfield 11, 3) := by decide +kernel
theorem e_Pa_tipOut_20 : decode b_Pa_tipOut 20 = .ok (.iload_n 1, 1) := by decide +kernel
theorem e_Pa_tipOut_21 : decode b_Pa_tipOut 21 = .ok (.aaload, 1) := by decide +kernel
theorem e_Pa_tipOut_22 : decode b_Pa_tipOut 22 = .ok (.getfield 55, 3) := by decide +kernel
theorem e_Pa_tipOut_25 : decode b_Pa_tipOut 25 = .ok (.iconst 1, 1) := by decide +kernel
theorem e_Pa_tipOut_26 : decode b_Pa_tipOut 26 = .ok (.if_icmp .ne 13, 3) := by decide +kernel
theorem e_Pa_tipOut_29 : decode b_Pa_tipOut 29 = .ok (.aload_n 0, 1) := by decide +kernel
theorem e_Pa_tipOut_30 : decode b_Pa_tipOut 30 = .ok (.getfield 11, 3) := by decide +kernel
theorem e_Pa_tipOut_33 : decode b_Pa_tipOut 33 = .ok (.iload_n 1, 1) := by decide +kernel
theorem e_Pa_tipOut_34 : decode b_Pa_tipOut 34 = .ok (.aaload, 1) := by decide +kernel
theorem e_Pa_tipOut_35 : decode b_Pa_tipOut 35 = .ok (.iconst 0, 1) := by decide +kernel
theorem e_Pa_tipOut_36 : decode b_Pa_tipOut 36 = .ok (.putfield 55, 3) := by decide +kernel
theorem e_Pa_tipOut_39 : decode b_Pa_tipOut 39 = .ok (.iinc 1 1, 3) := by decide +kernel
theorem e_Pa_tipOut_42 : decode b_Pa_tipOut 42 = .ok (.goto (-40), 3) := by decide +kernel
theorem e_Pa_tipOut_45 : decode b_Pa_tipOut 45 = .ok (.aload_n 0, 1) := by decide +kernel
theorem e_Pa_tipOut_46 : decode b_Pa_tipOut 46 = .ok (.iconst 0, 1) := by decide +kernel
theorem e_Pa_tipOut_47 : decode b_Pa_tipOut 47 = .ok (.putfield 41, 3) := by decide +kernel
theorem e_Pa_tipOut_50 : decode b_Pa_tipOut 50 = .ok (.aload_n 0, 1) := by decide +kernel
theorem e_Pa_tipOut_51 : decode b_Pa_tipOut 51 = .ok (.iconst 0, 1) := by decide +kernel
theorem e_Pa_tipOut_52 : decode b_Pa_tipOut 52 = .ok (.putfield 44, 3) := by decide +kernel
theorem e_Pa_tipOut_55 : decode b_Pa_tipOut 55 = .ok (.return_, 1) := by decide +kernel
theorem e_Pa_gives_0 : decode b_Pa_gives 0 = .ok (.aload_n 0, 1) := by decide +kernel
theorem e_Pa_gives_1 : decode b_Pa_gives 1 = .ok (.getfield 23, 3) := by decide +kernel
theorem e_Pa_gives_4 : decode b_Pa_gives 4 = .ok (.iconst 0, 1) := by decide +kernel
theorem e_Pa_gives_5 : decode b_Pa_gives 5 = .ok (.aload_n 1, 1) := by decide +kernel
theorem e_Pa_gives_6 : decode b_Pa_gives 6 = .ok (.getfield 76, 3) := by decide +kernel
theorem e_Pa_gives_9 : decode b_Pa_gives 9 = .ok (.iastore, 1) := by decide +kernel
theorem e_Pa_gives_10 : decode b_Pa_gives 10 = .ok (.aload_n 0, 1) := by decide +kernel
theorem e_Pa_gives_11 : decode b_Pa_gives 11 = .ok (.getfield 23, 3) := by decide +kernel
theorem e_Pa_gives_14 : decode b_Pa_gives 14 = .ok (.iconst 1, 1) := by decide +kernel
theorem e_Pa_gives_15 : decode b_Pa_gives 15 = .ok (.aload_n 1, 1) := by decide +kernel
theorem e_Pa_gives_16 : decode b_Pa_gives 16 = .ok (.getfield 79, 3) := by decide +kernel
theorem e_Pa_gives_19 : decode b_Pa_gives 19 = .ok (.iastore, 1) := by decide +kernel
theorem e_Pa_gives_20 : decode b_Pa_gives 20 = .ok (.aload_n 0, 1) := by decide +kernel
theorem e_Pa_gives_21 : decode b_Pa_gives 21 = .ok (.getfield 23, 3) := by decide +kernel
theorem e_Pa_gives_24 : decode b_Pa_gives 24 = .ok (.iconst 2, 1) := by decide +kernel
theorem e_Pa_gives_25 : decode b_Pa_gives 25 = .ok (.aload_n 1, 1) := by decide +kernel
theorem e_Pa_gives_26 : decode b_Pa_gives 26 = .ok (.getfield 82, 3) := by decide +kernel
theorem e_Pa_gives_29 : decode b_Pa_gives 29 = .ok (.iastore, 1) := by decide +kernel
theorem e_Pa_gives_30 : decode b_Pa_gives 30 = .ok (.aload_n 0, 1) := by decide +kernel
theorem e_Pa_gives_31 : decode b_Pa_gives 31 = .ok (.getfield 23, 3) := by decide +kernel
theorem e_Pa_gives_34 : decode b_Pa_gives 34 = .ok (.iconst 3, 1) := by decide +kernel
theorem e_Pa_gives_35 : decode b_Pa_gives 35 = .ok (.aload_n 1, 1) := by decide +kernel
theorem e_Pa_gives_36 : decode b_Pa_gives 36 = .ok (.getfield 67, 3) := by decide +kernel
theorem e_Pa_gives_39 : decode b_Pa_gives 39 = .ok (.iastore, 1) := by decide +kernel
theorem e_Pa_gives_40 : decode b_Pa_gives 40 = .ok (.aload_n 0, 1) := by decide +kernel
theorem e_Pa_gives_41 : decode b_Pa_gives 41 = .ok (.getfield 23, 3) := by decide +kernel
theorem e_Pa_gives_44 : decode b_Pa_gives 44 = .ok (.iconst 4, 1) := by decide +kernel
theorem e_Pa_gives_45 : decode b_Pa_gives 45 = .ok (.aload_n 1, 1) := by decide +kernel
theorem e_Pa_gives_46 : decode b_Pa_gives 46 = .ok (.getfield 85, 3) := by decide +kernel
theorem e_Pa_gives_49 : decode b_Pa_gives 49 = .ok (.iastore, 1) := by decide +kernel
theorem e_Pa_gives_50 : decode b_Pa_gives 50 = .ok (.aload_n 0, 1) := by decide +kernel
theorem e_Pa_gives_51 : decode b_Pa_gives 51 = .ok (.getfield 23, 3) := by decide +kernel
theorem e_Pa_gives_54 : decode b_Pa_gives 54 = .ok (.iconst 5, 1) := by decide +kernel
theorem e_Pa_gives_55 : decode b_Pa_gives 55 = .ok (.aload_n 0, 1) := by decide +kernel
theorem e_Pa_gives_56 : decode b_Pa_gives 56 = .ok (.getfield 48, 3) := by decide +kernel
theorem e_Pa_gives_59 : decode b_Pa_gives 59 = .ok (.bipush 10, 2) := by decide +kernel
theorem e_Pa_gives_61 : decode b_Pa_gives 61 = .ok (.invokestatic 88, 3) := by decide +kernel
theorem e_Pa_gives_64 : decode b_Pa_gives 64 = .ok (.iastore, 1) := by decide +kernel
theorem e_Pa_gives_65 : decode b_Pa_gives 65 = .ok (.aload_n 1, 1) := by decide +kernel
theorem e_Pa_gives_66 : decode b_Pa_gives 66 = .ok (.getfield 67, 3) := by decide +kernel
theorem e_Pa_gives_69 : decode b_Pa_gives 69 = .ok (.aload_n 0, 1) := by decide +kernel
theorem e_Pa_gives_70 : decode b_Pa_gives 70 = .ok (.getfield 27, 3) := by decide +kernel
theorem e_Pa_gives_73 : decode b_Pa_gives 73 = .ok (.aload_n 0, 1) := by decide +kernel
theorem e_Pa_gives_74 : decode b_Pa_gives 74 = .ok (.getfield 23, 3) := by decide +kernel
theorem e_Pa_gives_77 : decode b_Pa_gives 77 = .ok (.invokevirtual 91, 3) := by decide +kernel
theorem e_Pa_gives_80 : decode b_Pa_gives 80 = .ok (.iadd, 1) := by decide +kernel
theorem e_Pa_gives_81 : decode b_Pa_gives 81 = .ok (.istore_n 2, 1) := by decide +kernel
theorem e_Pa_gives_82 : decode b_Pa_gives 82 = .ok (.aload_n 1, 1) := by decide +kernel
theorem e_Pa_gives_83 : decode b_Pa_gives 83 = .ok (.getfield 79, 3) := by decide +kernel
theorem e_Pa_gives_86 : decode b_Pa_gives 86 = .ok (.tableswitch 127 1 6 #[38, 45, 49, 63, 85, 99], 38) := by decide +kernel
theorem e_Pa_gives_124 : decode b_Pa_gives 124 = .ok (.iload_n 2, 1) := by decide +kernel
theorem e_Pa_gives_125 : decode b_Pa_gives 125 = .ok (.aload_n 1, 1) := by decide +kernel
theorem e_Pa_gives_126 : decode b_Pa_gives 126 = .ok (.getfield 82, 3) := by decide +kernel
theorem e_Pa_gives_129 : decode b_Pa_gives 129 = .ok (.iadd, 1) := by decide +kernel
theorem e_Pa_gives_130 : decode b_Pa_gives 130 = .ok (.ireturn, 1) := by decide +kernel
theorem e_Pa_gives_131 : decode b_Pa_gives 131 = .ok (.iload_n 2, 1) := by decide +kernel
theorem e_Pa_gives_132 : decode b_Pa_gives 132 = .ok (.iconst 2, 1) := by decide +kernel
theorem e_Pa_gives_133 : decode b_Pa_gives 133 = .ok (.idiv, 1) := by decide +kernel
theorem e_Pa_gives_134 : decode b_Pa_gives 134 = .ok (.ireturn, 1) := by decide +kernel
theorem e_Pa_gives_135 : decode b_Pa_gives 135 = .ok (.aload_n 0, 1) := by decide +kernel
theorem e_Pa_gives_136 : decode b_Pa_gives 136 = .ok (.aload_n 1, 1) := by decide +kernel
theorem e_Pa_gives_137 : decode b_Pa_gives 137 = .ok (.invokevirtual 97, 3) := by decide +kernel
theorem e_Pa_gives_140 : decode b_Pa_gives 140 = .ok (.ifCond .eq 7, 3) := by decide +kernel
theorem e_Pa_gives_143 : decode b_Pa_gives 143 = .ok (.iconst 0, 1) := by decide +kernel
theorem e_Pa_gives_144 : decode b_Pa_gives 144 = .ok (.goto 4, 3) := by decide +kernel
theorem e_Pa_gives_147 : decode b_Pa_gives 147 = .ok (.iload_n 2, 1) := by decide +kernel
theorem e_Pa_gives_148 : decode b_Pa_gives 148 = .ok (.ireturn, 1) := by decide +kernel
theorem e_Pa_gives_149 : decode b_Pa_gives 149 = .ok (.iload_n 2, 1) := by decide +kernel
theorem e_Pa_gives_150 : decode b_Pa_gives 150 = .ok (.aload_n 1, 1) := by decide +kernel
theorem e_Pa_gives_151 : decode b_Pa_gives 151 = .ok (.getfield 82, 3) := by decide +kernel
theorem e_Pa_gives_154 : decode b_Pa_gives 154 = .ok (.iadd, 1) := by decide +kernel
theorem e_Pa_gives_155 : decode b_Pa_gives 155 = .ok (.aload_n 0, 1) := by decide +kernel
theorem e_Pa_gives_156 : decode b_Pa_gives 156 = .ok (.getfield 17, 3) := by decide +kernel
theorem e_Pa_gives_159 : decode b_Pa_gives 159 = .ok (.bipush 6, 2) := by decide +kernel
theorem e_Pa_gives_161 : decode b_Pa_gives 161 = .ok (.if_icmp .lt 7, 3) := by decide +kernel
theorem e_Pa_gives_164 : decode b_Pa_gives 164 = .ok (.iconst 2, 1) := by decide +kernel
theorem e_Pa_gives_165 : decode b_Pa_gives 165 = .ok (.goto 4, 3) := by decide +kernel
theorem e_Pa_gives_168 : decode b_Pa_gives 168 = .ok (.iconst 1, 1) := by decide +kernel
theorem e_Pa_gives_169 : decode b_Pa_gives 169 = .ok (.imul, 1) := by decide +kernel
theorem e_Pa_gives_170 : decode b_Pa_gives 170 = .ok (.ireturn, 1) := by decide +kernel
theorem e_Pa_gives_171 : decode b_Pa_gives 171 = .ok (.iload_n 2, 1) := by decide +kernel
theorem e_Pa_gives_172 : decode b_Pa_gives 172 = .ok (.iconst 2, 1) := by decide +kernel
theorem e_Pa_gives_173 : decode b_Pa_gives 173 = .ok (.idiv, 1) := by decide +kernel
theorem e_Pa_gives_174 : decode b_Pa_gives 174 = .ok (.aload_n 1, 1) := by decide +kernel
theorem e_Pa_gives_175 : decode b_Pa_gives 175 = .ok (.getfield 101, 3) := by decide +kernel
theorem e_Pa_gives_178 : decode b_Pa_gives 178 = .ok (.bipush 9, 2) := by decide +kernel
theorem e_Pa_gives_180 : decode b_Pa_gives 180 = .ok (.invokestatic 104, 3) := by decide +kernel
theorem e_Pa_gives_183 : decode b_Pa_gives 183 = .ok (.iadd, 1) := by decide +kernel
theorem e_Pa_gives_184 : decode b_Pa_gives 184 = .ok (.ireturn, 1) := by decide +kernel
theorem e_Pa_gives_185 : decode b_Pa_gives 185 = .ok (.aload_n 0, 1) := by decide +kernel
theorem e_Pa_gives_186 : decode b_Pa_gives 186 = .ok (.aload_n 1, 1) := by decide +kernel
theorem e_Pa_gives_187 : decode b_Pa_gives 187 = .ok (.invokevirtual 97, 3) := by decide +kernel
theorem e_Pa_gives_190 : decode b_Pa_gives 190 = .ok (.ifCond .eq 7, 3) := by decide +kernel
theorem e_Pa_gives_193 : decode b_Pa_gives 193 = .ok (.iconst 0, 1) := by decide +kernel
theorem e_Pa_gives_194 : decode b_Pa_gives 194 = .ok (.goto 4, 3) := by decide +kernel
theorem e_Pa_gives_197 : decode b_Pa_gives 197 = .ok (.iload_n 2, 1) := by decide +kernel
theorem e_Pa_gives_198 : decode b_Pa_gives 198 = .ok (.aload_n 1, 1) := by decide +kernel
theorem e_Pa_gives_199 : decode b_Pa_gives 199 = .ok (.getfield 107, 3) := by decide +kernel
theorem e_Pa_gives_202 : decode b_Pa_gives 202 = .ok (.aload_n 0, 1) := by decide +kernel
theorem e_Pa_gives_203 : decode b_Pa_gives 203 = .ok (.getfield 48, 3) := by decide +kernel
theorem e_Pa_gives_206 : decode b_Pa_gives 206 = .ok (.iconst 4, 1) := by decide +kernel
theorem e_Pa_gives_207 : decode b_Pa_gives 207 = .ok (.invokestatic 88, 3) := by decide +kernel
theorem e_Pa_gives_210 : decode b_Pa_gives 210 = .ok (.iaload, 1) := by decide +kernel
theorem e_Pa_gives_211 : decode b_Pa_gives 211 = .ok (.iadd, 1) := by decide +kernel
theorem e_Pa_gives_212 : decode b_Pa_gives 212 = .ok (.ireturn, 1) := by decide +kernel
theorem e_Pa_gives_213 : decode b_Pa_gives 213 = .ok (.iload_n 2, 1) := by decide +kernel
theorem e_Pa_gives_214 : decode b_Pa_gives 214 = .ok (.ireturn, 1) := by decide +kernel
theorem e_Pa_spokenOver_0 : decode b_Pa_spokenOver 0 = .ok (.iconst 0, 1) := by decide +kernel
theorem e_Pa_spokenOver_1 : decode b_Pa_spokenOver 1 = .ok (.istore_n 2, 1) := by decide +kernel
theorem e_Pa_spokenOver_2 : decode b_Pa_spokenOver 2 = .ok (.iload_n 2, 1) := by decide +kernel
theorem e_Pa_spokenOver_3 : decode b_Pa_spokenOver 3 = .ok (.aload_n 0, 1) := by decide +kernel
theorem e_Pa_spokenOver_4 : decode b_Pa_spokenOver 4 = .ok (.getfield 34, 3) := by decide +kernel
theorem e_Pa_spokenOver_7 : decode b_Pa_spokenOver 7 = .ok (.if_icmp .ge 54, 3) := by decide +kernel
theorem e_Pa_spokenOver_10 : decode b_Pa_spokenOver 10 = .ok (.iload_n 2, 1) := by decide +kernel
theorem e_Pa_spokenOver_11 : decode b_Pa_spokenOver 11 = .ok (.bipush 6, 2) := by decide +kernel
theorem e_Pa_spokenOver_13 : decode b_Pa_spokenOver 13 = .ok (.if_icmp .ge 48, 3) := by decide +kernel
theorem e_Pa_spokenOver_16 : decode b_Pa_spokenOver 16 = .ok (.aload_n 0, 1) := by decide +kernel
theorem e_Pa_spokenOver_17 : decode b_Pa_spokenOver 17 = .ok (.getfield 11, 3) := by decide +kernel
theorem e_Pa_spokenOver_20 : decode b_Pa_spokenOver 20 = .ok (.iload_n 2, 1) := by decide +kernel
theorem e_Pa_spokenOver_21 : decode b_Pa_spokenOver 21 = .ok (.aaload, 1) := by decide +kernel
theorem e_Pa_spokenOver_22 : decode b_Pa_spokenOver 22 = .ok (.astore_n 3, 1) := by decide +kernel
theorem e_Pa_spokenOver_23 : decode b_Pa_spokenOver 23 = .ok (.aload_n 3, 1) := by decide +kernel
theorem e_Pa_spokenOver_24 : decode b_Pa_spokenOver 24 = .ok (.getfield 76, 3) := by decide +kernel
theorem e_Pa_spokenOver_27 : decode b_Pa_spokenOver 27 = .ok (.aload_n 1, 1) := by decide +kernel
theorem e_Pa_spokenOver_28 : decode b_Pa_spokenOver 28 = .ok (.getfield 76, 3) := by decide +kernel
theorem e_Pa_spokenOver_31 : decode b_Pa_spokenOver 31 = .ok (.if_icmp .eq 24, 3) := by decide +kernel
theorem e_Pa_spokenOver_34 : decode b_Pa_spokenOver 34 = .ok (.aload_n 3, 1) := by decide +kernel
theorem e_Pa_spokenOver_35 : decode b_Pa_spokenOver 35 = .ok (.getfield 85, 3) := by decide +kernel
theorem e_Pa_spokenOver_38 : decode b_Pa_spokenOver 38 = .ok (.aload_n 1, 1) := by decide +kernel
theorem e_Pa_spokenOver_39 : decode b_Pa_spokenOver 39 = .ok (.getfield 85, 3) := by decide +kernel
theorem e_Pa_spokenOver_42 : decode b_Pa_spokenOver 42 = .ok (.if_icmp .ne 13, 3) := by decide +kernel
theorem e_Pa_spokenOver_45 : decode b_Pa_spokenOver 45 = .ok (.aload_n 3, 1) := by decide +kernel
theorem e_Pa_spokenOver_46 : decode b_Pa_spokenOver 46 = .ok (.getfield 55, 3) := by decide +kernel
theorem e_Pa_spokenOver_49 : decode b_Pa_spokenOver 49 = .ok (.iconst 2, 1) := by decide +kernel
theorem e_Pa_spokenOver_50 : decode b_Pa_spokenOver 50 = .ok (.if_icmp .ne 5, 3) := by decide +kernel
theorem e_Pa_spokenOver_53 : decode b_Pa_spokenOver 53 = .ok (.iconst 1, 1) := by decide +kernel
theorem e_Pa_spokenOver_54 : decode b_Pa_spokenOver 54 = .ok (.ireturn, 1) := by decide +kernel
theorem e_Pa_spokenOver_55 : decode b_Pa_spokenOver 55 = .ok (.iinc 2 1, 3) := by decide +kernel
theorem e_Pa_spokenOver_58 : decode b_Pa_spokenOver 58 = .ok (.goto (-56), 3) := by decide +kernel
theorem e_Pa_spokenOver_61 : decode b_Pa_spokenOver 61 = .ok (.iconst 0, 1) := by decide +kernel
theorem e_Pa_spokenOver_62 : decode b_Pa_spokenOver 62 = .ok (.ireturn, 1) := by decide +kernel
theorem e_Pa_together_0 : decode b_Pa_together 0 = .ok (.iconst 0, 1) := by decide +kernel
theorem e_Pa_together_1 : decode b_Pa_together 1 = .ok (.istore_n 1, 1) := by decide +kernel
theorem e_Pa_together_2 : decode b_Pa_together 2 = .ok (.iconst 0, 1) := by decide +kernel
theorem e_Pa_together_3 : decode b_Pa_together 3 = .ok (.istore_n 2, 1) := by decide +kernel
theorem e_Pa_together_4 : decode b_Pa_together 4 = .ok (.iload_n 2, 1) := by decide +kernel
theorem e_Pa_together_5 : decode b_Pa_together 5 = .ok (.aload_n 0, 1) := by decide +kernel
theorem e_Pa_together_6 : decode b_Pa_together 6 = .ok (.getfield 34, 3) := by decide +kernel
theorem e_Pa_together_9 : decode b_Pa_together 9 = .ok (.if_icmp .ge 41, 3) := by decide +kernel
theorem e_Pa_together_12 : decode b_Pa_together 12 = .ok (.iload_n 2, 1) := by decide +kernel
theorem e_Pa_together_13 : decode b_Pa_together 13 = .ok (.bipush 6, 2) := by decide +kernel
theorem e_Pa_together_15 : decode b_Pa_together 15 = .ok (.if_icmp .ge 35, 3) := by decide +kernel
theorem e_Pa_together_18 : decode b_Pa_together 18 = .ok (.aload_n 0, 1) := by decide +kernel
theorem e_Pa_together_19 : decode b_Pa_together 19 = .ok (.getfield 11, 3) := by decide +kernel
theorem e_Pa_together_22 : decode b_Pa_together 22 = .ok (.iload_n 2, 1) := by decide +kernel
theorem e_Pa_together_23 : decode b_Pa_together 23 = .ok (.aaload, 1) := by decide +kernel
theorem e_Pa_together_24 : decode b_Pa_together 24 = .ok (.getfield 55, 3) := by decide +kernel
theorem e_Pa_together_27 : decode b_Pa_together 27 = .ok (.iconst 1, 1) := by decide +kernel
theorem e_Pa_together_28 : decode b_Pa_together 28 = .ok (.if_icmp .ne 16, 3) := by decide +kernel
theorem e_Pa_together_31 : decode b_Pa_together 31 = .ok (.iload_n 1, 1) := by decide +kernel
theorem e_Pa_together_32 : decode b_Pa_together 32 = .ok (.aload_n 0, 1) := by decide +kernel
theorem e_Pa_together_33 : decode b_Pa_together 33 = .ok (.aload_n 0, 1) := by decide +kernel
theorem e_Pa_together_34 : decode b_Pa_together 34 = .ok (.getfield 11, 3) := by decide +kernel
theorem e_Pa_together_37 : decode b_Pa_together 37 = .ok (.iload_n 2, 1) := by decide +kernel
theorem e_Pa_together_38 : decode b_Pa_together 38 = .ok (.aaload, 1) := by decide +kernel
theorem e_Pa_together_39 : decode b_Pa_together 39 = .ok (.invokevirtual 110, 3) := by decide +kernel
theorem e_Pa_together_42 : decode b_Pa_together 42 = .ok (.iadd, 1) := by decide +kernel
theorem e_Pa_together_43 : decode b_Pa_together 43 = .ok (.istore_n 1, 1) := by decide +kernel
theorem e_Pa_together_44 : decode b_Pa_together 44 = .ok (.iinc 2 1, 3) := by decide +kernel
theorem e_Pa_together_47 : decode b_Pa_together 47 = .ok (.goto (-43), 3) := by decide +kernel
theorem e_Pa_together_50 : decode b_Pa_together 50 = .ok (.iload_n 1, 1) := by decide +kernel
theorem e_Pa_together_51 : decode b_Pa_together 51 = .ok (.ireturn, 1) := by decide +kernel
theorem e_Pa_goMinute_0 : decode b_Pa_goMinute 0 = .ok (.aload_n 0, 1) := by decide +kernel
theorem e_Pa_goMinute_1 : decode b_Pa_goMinute 1 = .ok (.getfield 44, 3) := by decide +kernel
theorem e_Pa_goMinute_4 : decode b_Pa_goMinute 4 = .ok (.ifCond .ne 55, 3) := by decide +kernel
theorem e_Pa_goMinute_7 : decode b_Pa_goMinute 7 = .ok (.aload_n 0, 1) := by decide +kernel
theorem e_Pa_goMinute_8 : decode b_Pa_goMinute 8 = .ok (.getfield 41, 3) := by decide +kernel
theorem e_Pa_goMinute_11 : decode b_Pa_goMinute 11 = .ok (.aload_n 0, 1) := by decide +kernel
theorem e_Pa_goMinute_12 : decode b_Pa_goMinute 12 = .ok (.getfield 17, 3) := by decide +kernel
theorem e_Pa_goMinute_15 : decode b_Pa_goMinute 15 = .ok (.aload_n 0, 1) := by decide +kernel
theorem e_Pa_goMinute_16 : decode b_Pa_goMinute 16 = .ok (.invokevirtual 114, 3) := by decide +kernel
theorem e_Pa_goMinute_19 : decode b_Pa_goMinute 19 = .ok (.imul, 1) := by decide +kernel
theorem e_Pa_goMinute_20 : decode b_Pa_goMinute 20 = .ok (.iadd, 1) := by decide +kernel
theorem e_Pa_goMinute_21 : decode b_Pa_goMinute 21 = .ok (.istore_n 1, 1) := by decide +kernel
theorem e_Pa_goMinute_22 : decode b_Pa_goMinute 22 = .ok (.aload_n 0, 1) := by decide +kernel
theorem e_Pa_goMinute_23 : decode b_Pa_goMinute 23 = .ok (.ldc 118, 2) := by decide +kernel
theorem e_Pa_goMinute_25 : decode b_Pa_goMinute 25 = .ok (.iconst 0, 1) := by decide +kernel
theorem e_Pa_goMinute_26 : decode b_Pa_goMinute 26 = .ok (.iload_n 1, 1) := by decide +kernel
theorem e_Pa_goMinute_27 : decode b_Pa_goMinute 27 = .ok (.invokestatic 70, 3) := by decide +kernel
theorem e_Pa_goMinute_30 : decode b_Pa_goMinute 30 = .ok (.invokestatic 104, 3) := by decide +kernel
theorem e_Pa_goMinute_33 : decode b_Pa_goMinute 33 = .ok (.putfield 41, 3) := by decide +kernel
theorem e_Pa_goMinute_36 : decode b_Pa_goMinute 36 = .ok (.aload_n 0, 1) := by decide +kernel
theorem e_Pa_goMinute_37 : decode b_Pa_goMinute 37 = .ok (.aload_n 0, 1) := by decide +kernel
theorem e_Pa_goMinute_38 : decode b_Pa_goMinute 38 = .ok (.getfield 41, 3) := by decide +kernel
theorem e_Pa_goMinute_41 : decode b_Pa_goMinute 41 = .ok (.aload_n 0, 1) := by decide +kernel
theorem e_Pa_goMinute_42 : decode b_Pa_goMinute 42 = .ok (.getfield 27, 3) := by decide +kernel
theorem e_Pa_goMinute_45 : decode b_Pa_goMinute 45 = .ok (.getfield 119, 3) := by decide +kernel
theorem e_Pa_goMinute_48 : decode b_Pa_goMinute 48 = .ok (.if_icmp .lt 7, 3) := by decide +kernel
theorem e_Pa_goMinute_51 : decode b_Pa_goMinute 51 = .ok (.iconst 1, 1) := by decide +kernel
theorem e_Pa_goMinute_52 : decode b_Pa_goMinute 52 = .ok (.goto 4, 3) := by decide +kernel
theorem e_Pa_goMinute_55 : decode b_Pa_goMinute 55 = .ok (.iconst 0, 1) := by decide +kernel
theorem e_Pa_goMinute_56 : decode b_Pa_goMinute 56 = .ok (.putfield 44, 3) := by decide +kernel
theorem e_Pa_goMinute_59 : decode b_Pa_goMinute 59 = .ok (.iconst 0, 1) := by decide +kernel
theorem e_Pa_goMinute_60 : decode b_Pa_goMinute 60 = .ok (.istore_n 1, 1) := by decide +kernel
theorem e_Pa_goMinute_61 : decode b_Pa_goMinute 61 = .ok (.iload_n 1, 1) := by decide +kernel
theorem e_Pa_goMinute_62 : decode b_Pa_goMinute 62 = .ok (.aload_n 0, 1) := by decide +kernel
theorem e_Pa_goMinute_63 : decode b_Pa_goMinute 63 = .ok (.getfield 34, 3) := by decide +kernel
theorem e_Pa_goMinute_66 : decode b_Pa_goMinute 66 = .ok (.if_icmp .ge 54, 3) := by decide +kernel
theorem e_Pa_goMinute_69 : decode b_Pa_goMinute 69 = .ok (.iload_n 1, 1) := by decide +kernel
theorem e_Pa_goMinute_70 : decode b_Pa_goMinute 70 = .ok (.bipush 6, 2) := by decide +kernel
theorem e_Pa_goMinute_72 : decode b_Pa_goMinute 72 = .ok (.if_icmp .ge 48, 3) := by decide +kernel
theorem e_Pa_goMinute_75 : decode b_Pa_goMinute 75 = .ok (.aload_n 0, 1) := by decide +kernel
theorem e_Pa_goMinute_76 : decode b_Pa_goMinute 76 = .ok (.getfield 11, 3) := by decide +kernel
theorem e_Pa_goMinute_79 : decode b_Pa_goMinute 79 = .ok (.iload_n 1, 1) := by decide +kernel
theorem e_Pa_goMinute_80 : decode b_Pa_goMinute 80 = .ok (.aaload, 1) := by decide +kernel
theorem e_Pa_goMinute_81 : decode b_Pa_goMinute 81 = .ok (.getfield 55, 3) := by decide +kernel
theorem e_Pa_goMinute_84 : decode b_Pa_goMinute 84 = .ok (.iconst 1, 1) := by decide +kernel
theorem e_Pa_goMinute_85 : decode b_Pa_goMinute 85 = .ok (.if_icmp .ne 29, 3) := by decide +kernel
theorem e_Pa_goMinute_88 : decode b_Pa_goMinute 88 = .ok (.aload_n 0, 1) := by decide +kernel
theorem e_Pa_goMinute_89 : decode b_Pa_goMinute 89 = .ok (.getfield 11, 3) := by decide +kernel
theorem e_Pa_goMinute_92 : decode b_Pa_goMinute 92 = .ok (.iload_n 1, 1) := by decide +kernel
theorem e_Pa_goMinute_93 : decode b_Pa_goMinute 93 = .ok (.aaload, 1) := by decide +kernel
theorem e_Pa_goMinute_94 : decode b_Pa_goMinute 94 = .ok (.sipush 9999, 3) := by decide +kernel
theorem e_Pa_goMinute_97 : decode b_Pa_goMinute 97 = .ok (.aload_n 0, 1) := by decide +kernel
theorem e_Pa_goMinute_98 : decode b_Pa_goMinute 98 = .ok (.getfield 11, 3) := by decide +kernel
theorem e_Pa_goMinute_101 : decode b_Pa_goMinute 101 = .ok (.iload_n 1, 1) := by decide +kernel
theorem e_Pa_goMinute_102 : decode b_Pa_goMinute 102 = .ok (.aaload, 1) := by decide +kernel
theorem e_Pa_goMinute_103 : decode b_Pa_goMinute 103 = .ok (.getfield 101, 3) := by decide +kernel
theorem e_Pa_goMinute_106 : decode b_Pa_goMinute 106 = .ok (.iconst 1, 1) := by decide +kernel
theorem e_Pa_goMinute_107 : decode b_Pa_goMinute 107 = .ok (.iadd, 1) := by decide +kernel
theorem e_Pa_goMinute_108 : decode b_Pa_goMinute 108 = .ok (.invokestatic 104, 3) := by decide +kernel
theorem e_Pa_goMinute_111 : decode b_Pa_goMinute 111 = .ok (.putfield 101, 3) := by decide +kernel
theorem e_Pa_goMinute_114 : decode b_Pa_goMinute 114 = .ok (.iinc 1 1, 3) := by decide +kernel
theorem e_Pa_goMinute_117 : decode b_Pa_goMinute 117 = .ok (.goto (-56), 3) := by decide +kernel
theorem e_Pa_goMinute_120 : decode b_Pa_goMinute 120 = .ok (.aload_n 0, 1) := by decide +kernel
theorem e_Pa_goMinute_121 : decode b_Pa_goMinute 121 = .ok (.dup, 1) := by decide +kernel
theorem e_Pa_goMinute_122 : decode b_Pa_goMinute 122 = .ok (.getfield 48, 3) := by decide +kernel
theorem e_Pa_goMinute_125 : decode b_Pa_goMinute 125 = .ok (.iconst 1, 1) := by decide +kernel
theorem e_Pa_goMinute_126 : decode b_Pa_goMinute 126 = .ok (.iadd, 1) := by decide +kernel
theorem e_Pa_goMinute_127 : decode b_Pa_goMinute 127 = .ok (.putfield 48, 3) := by decide +kernel
theorem e_Pa_goMinute_130 : decode b_Pa_goMinute 130 = .ok (.return_, 1) := by decide +kernel
theorem e_Pa_goMinutes_0 : decode b_Pa_goMinutes 0 = .ok (.iconst 0, 1) := by decide +kernel
theorem e_Pa_goMinutes_1 : decode b_Pa_goMinutes 1 = .ok (.istore_n 2, 1) := by decide +kernel
theorem e_Pa_goMinutes_2 : decode b_Pa_goMinutes 2 = .ok (.iload_n 2, 1) := by decide +kernel
theorem e_Pa_goMinutes_3 : decode b_Pa_goMinutes 3 = .ok (.iload_n 1, 1) := by decide +kernel
theorem e_Pa_goMinutes_4 : decode b_Pa_goMinutes 4 = .ok (.if_icmp .ge 13, 3) := by decide +kernel
theorem e_Pa_goMinutes_7 : decode b_Pa_goMinutes 7 = .ok (.aload_n 0, 1) := by decide +kernel
theorem e_Pa_goMinutes_8 : decode b_Pa_goMinutes 8 = .ok (.invokevirtual 122, 3) := by decide +kernel
theorem e_Pa_goMinutes_11 : decode b_Pa_goMinutes 11 = .ok (.iinc 2 1, 3) := by decide +kernel
theorem e_Pa_goMinutes_14 : decode b_Pa_goMinutes 14 = .ok (.goto (-12), 3) := by decide +kernel
theorem e_Pa_goMinutes_17 : decode b_Pa_goMinutes 17 = .ok (.return_, 1) := by decide +kernel
theorem e_Pa_judgeTimes_0 : decode b_Pa_judgeTimes 0 = .ok (.iload_n 2, 1) := by decide +kernel
theorem e_Pa_judgeTimes_1 : decode b_Pa_judgeTimes 1 = .ok (.istore_n 3, 1) := by decide +kernel
theorem e_Pa_judgeTimes_2 : decode b_Pa_judgeTimes 2 = .ok (.iconst 0, 1) := by decide +kernel
theorem e_Pa_judgeTimes_3 : decode b_Pa_judgeTimes 3 = .ok (.istore 4, 2) := by decide +kernel
theorem e_Pa_judgeTimes_5 : decode b_Pa_judgeTimes 5 = .ok (.iload 4, 2) := by decide +kernel
theorem e_Pa_judgeTimes_7 : decode b_Pa_judgeTimes 7 = .ok (.aload_n 0, 1) := by decide +kernel
theorem e_Pa_judgeTimes_8 : decode b_Pa_judgeTimes 8 = .ok (.getfield 34, 3) := by decide +kernel
theorem e_Pa_judgeTimes_11 : decode b_Pa_judgeTimes 11 = .ok (.if_icmp .ge 57, 3) := by decide +kernel
theorem e_Pa_judgeTimes_14 : decode b_Pa_judgeTimes 14 = .ok (.iload 4, 2) := by decide +kernel
theorem e_Pa_judgeTimes_16 : decode b_Pa_judgeTimes 16 = .ok (.bipush 6, 2) := by decide +kernel
theorem e_Pa_judgeTimes_18 : decode b_Pa_judgeTimes 18 = .ok (.if_icmp .ge 50, 3) := by decide +kernel
theorem e_Pa_judgeTimes_21 : decode b_Pa_judgeTimes 21 = .ok (.aload_n 1, 1) := by decide +kernel
theorem e_Pa_judgeTimes_22 : decode b_Pa_judgeTimes 22 = .ok (.iload_n 3, 1) := by decide +kernel
theorem e_Pa_judgeTimes_23 : decode b_Pa_judgeTimes 23 = .ok (.invokevirtual 125, 3) := by decide +kernel
theorem e_Pa_judgeTimes_26 : decode b_Pa_judgeTimes 26 = .ok (.ifCond .ne 9, 3) := by decide +kernel
theorem e_Pa_judgeTimes_29 : decode b_Pa_judgeTimes 29 = .ok (.bipush 100, 2) := by decide +kernel
theorem e_Pa_judgeTimes_31 : decode b_Pa_judgeTimes 31 = .ok (.iload 4, 2) := by decide +kernel
theorem e_Pa_judgeTimes_33 : decode b_Pa_judgeTimes 33 = .ok (.iadd, 1) := by decide +kernel
theorem e_Pa_judgeTimes_34 : decode b_Pa_judgeTimes 34 = .ok (.ireturn, 1) := by decide +kernel
theorem e_Pa_judgeTimes_35 : decode b_Pa_judgeTimes 35 = .ok (.aload_n 1, 1) := by decide +kernel
theorem e_Pa_judgeTimes_36 : decode b_Pa_judgeTimes 36 = .ok (.getfield 131, 3) := by decide +kernel
theorem e_Pa_judgeTimes_39 : decode b_Pa_judgeTimes 39 = .ok (.iload_n 3, 1) := by decide +kernel
theorem e_Pa_judgeTimes_40 : decode b_Pa_judgeTimes 40 = .ok (.laload, 1) := by decide +kernel
theorem e_Pa_judgeTimes_41 : decode b_Pa_judgeTimes 41 = .ok (.aload_n 0, 1) := by decide +kernel
theorem e_Pa_judgeTimes_42 : decode b_Pa_judgeTimes 42 = .ok (.getfield 11, 3) := by decide +kernel
theorem e_Pa_judgeTimes_45 : decode b_Pa_judgeTimes 45 = .ok (.iload 4, 2) := by decide +kernel
theorem e_Pa_judgeTimes_47 : decode b_Pa_judgeTimes 47 = .ok (.aaload, 1) := by decide +kernel
theorem e_Pa_judgeTimes_48 : decode b_Pa_judgeTimes 48 = .ok (.getfield 101, 3) := by decide +kernel
theorem e_Pa_judgeTimes_51 : decode b_Pa_judgeTimes 51 = .ok (.i2l, 1) := by decide +kernel
theorem e_Pa_judgeTimes_52 : decode b_Pa_judgeTimes 52 = .ok (.lcmp, 1) := by decide +kernel
theorem e_Pa_judgeTimes_53 : decode b_Pa_judgeTimes 53 = .ok (.ifCond .eq 6, 3) := by decide +kernel
theorem e_Pa_judgeTimes_56 : decode b_Pa_judgeTimes 56 = .ok (.iload 4, 2) := by decide +kernel
theorem e_Pa_judgeTimes_58 : decode b_Pa_judgeTimes 58 = .ok (.ireturn, 1) := by decide +kernel
theorem e_Pa_judgeTimes_59 : decode b_Pa_judgeTimes 59 = .ok (.iinc 3 1, 3) := by decide +kernel
theorem e_Pa_judgeTimes_62 : decode b_Pa_judgeTimes 62 = .ok (.iinc 4 1, 3) := by decide +kernel
theorem e_Pa_judgeTimes_65 : decode b_Pa_judgeTimes 65 = .ok (.goto (-60), 3) := by decide +kernel
theorem e_Pa_judgeTimes_68 : decode b_Pa_judgeTimes 68 = .ok (.bipush (-5), 2) := by decide +kernel
theorem e_Pa_judgeTimes_70 : decode b_Pa_judgeTimes 70 = .ok (.ireturn, 1) := by decide +kernel
theorem e_Re_init_0 : decode b_Re_init 0 = .ok (.aload_n 0, 1) := by decide +kernel
theorem e_Re_init_1 : decode b_Re_init 1 = .ok (.invokespecial 3, 3) := by decide +kernel
theorem e_Re_init_4 : decode b_Re_init 4 = .ok (.aload_n 0, 1) := by decide +kernel
theorem e_Re_init_5 : decode b_Re_init 5 = .ok (.bipush 100, 2) := by decide +kernel
theorem e_Re_init_7 : decode b_Re_init 7 = .ok (.newarray .int, 2) := by decide +kernel
theorem e_Re_init_9 : decode b_Re_init 9 = .ok (.putfield 9, 3) := by decide +kernel
theorem e_Re_init_12 : decode b_Re_init 12 = .ok (.aload_n 0, 1) := by decide +kernel
theorem e_Re_init_13 : decode b_Re_init 13 = .ok (.aload_n 1, 1) := by decide +kernel
theorem e_Re_init_14 : decode b_Re_init 14 = .ok (.putfield 15, 3) := by decide +kernel
theorem e_Re_init_17 : decode b_Re_init 17 = .ok (.return_, 1) := by decide +kernel
theorem e_Re_addSign_0 : decode b_Re_addSign 0 = .ok (.aload_n 0, 1) := by decide +kernel
theorem e_Re_addSign_1 : decode b_Re_addSign 1 = .ok (.getfield 19, 3) := by decide +kernel
theorem e_Re_addSign_4 : decode b_Re_addSign 4 = .ok (.ifCond .lt 12, 3) := by decide +kernel
theorem e_Re_addSign_7 : decode b_Re_addSign 7 = .ok (.aload_n 0, 1) := by decide +kernel
theorem e_Re_addSign_8 : decode b_Re_addSign 8 = .ok (.getfield 19, 3) := by decide +kernel
theorem e_Re_addSign_11 : decode b_Re_addSign 11 = .ok (.bipush 100, 2) := by decide +kernel
theorem e_Re_addSign_13 : decode b_Re_addSign 13 = .ok (.if_icmp .lt 6, 3) := by decide +kernel
theorem e_Re_addSign_16 : decode b_Re_addSign 16 = .ok (.bipush (-4), 2) := by decide +kernel
theorem e_Re_addSign_18 : decode b_Re_addSign 18 = .ok (.ireturn, 1) := by decide +kernel
theorem e_Re_addSign_19 : decode b_Re_addSign 19 = .ok (.aload_n 0, 1) := by decide +kernel
theorem e_Re_addSign_20 : decode b_Re_addSign 20 = .ok (.getfield 9, 3) := by decide +kernel
theorem e_Re_addSign_23 : decode b_Re_addSign 23 = .ok (.aload_n 0, 1) := by decide +kernel
theorem e_Re_addSign_24 : decode b_Re_addSign 24 = .ok (.getfield 19, 3) := by decide +kernel
theorem e_Re_addSign_27 : decode b_Re_addSign 27 = .ok (.iload_n 1, 1) := by decide +kernel
theorem e_Re_addSign_28 : decode b_Re_addSign 28 = .ok (.iastore, 1) := by decide +kernel
theorem e_Re_addSign_29 : decode b_Re_addSign 29 = .ok (.aload_n 0, 1) := by decide +kernel
theorem e_Re_addSign_30 : decode b_Re_addSign 30 = .ok (.dup, 1) := by decide +kernel
theorem e_Re_addSign_31 : decode b_Re_addSign 31 = .ok (.getfield 19, 3) := by decide +kernel
theorem e_Re_addSign_34 : decode b_Re_addSign 34 = .ok (.iconst 1, 1) := by decide +kernel
theorem e_Re_addSign_35 : decode b_Re_addSign 35 = .ok (.iadd, 1) := by decide +kernel
theorem e_Re_addSign_36 : decode b_Re_addSign 36 = .ok (.putfield 19, 3) := by decide +kernel
theorem e_Re_addSign_39 : decode b_Re_addSign 39 = .ok (.aload_n 0, 1) := by decide +kernel
theorem e_Re_addSign_40 : decode b_Re_addSign 40 = .ok (.getfield 19, 3) := by decide +kernel
theorem e_Re_addSign_43 : decode b_Re_addSign 43 = .ok (.ireturn, 1) := by decide +kernel
theorem e_Re_empty_0 : decode b_Re_empty 0 = .ok (.aload_n 0, 1) := by decide +kernel
theorem e_Re_empty_1 : decode b_Re_empty 1 = .ok (.iconst 0, 1) := by decide +kernel
theorem e_Re_empty_2 : decode b_Re_empty 2 = .ok (.putfield 19, 3) := by decide +kernel
theorem e_Re_empty_5 : decode b_Re_empty 5 = .ok (.return_, 1) := by decide +kernel
theorem e_Re_readInto_0 : decode b_Re_readInto 0 = .ok (.aload_n 0, 1) := by decide +kernel
theorem e_Re_readInto_1 : decode b_Re_readInto 1 = .ok (.aload_n 1, 1) := by decide +kernel
theorem e_Re_readInto_2 : decode b_Re_readInto 2 = .ok (.putfield 15, 3) := by decide +kernel
theorem e_Re_readInto_5 : decode b_Re_readInto 5 = .ok (.aload_n 0, 1) := by decide +kernel
theorem e_Re_readInto_6 : decode b_Re_readInto 6 = .ok (.getfield 15, 3) := by decide +kernel
theorem e_Re_readInto_9 : decode b_Re_readInto 9 = .ok (.invokevirtual 23, 3) := by decide +kernel
theorem e_Re_readInto_12 : decode b_Re_readInto 12 = .ok (.aload_n 0, 1) := by decide +kernel
theorem e_Re_readInto_13 : decode b_Re_readInto 13 = .ok (.iconst 0, 1) := by decide +kernel
theorem e_Re_readInto_14 : decode b_Re_readInto 14 = .ok (.putfield 28, 3) := by decide +kernel
theorem e_Re_readInto_17 : decode b_Re_readInto 17 = .ok (.iconst 1, 1) := by decide +kernel
theorem e_Re_readInto_18 : decode b_Re_readInto 18 = .ok (.istore_n 2, 1) := by decide +kernel
theorem e_Re_readInto_19 : decode b_Re_readInto 19 = .ok (.iload_n 2, 1) := by decide +kernel
theorem e_Re_readInto_20 : decode b_Re_readInto 20 = .ok (.bipush 10, 2) := by decide +kernel
theorem e_Re_readInto_22 : decode b_Re_readInto 22 = .ok (.if_icmp .gt 54, 3) := by decide +kernel
theorem e_Re_readInto_25 : decode b_Re_readInto 25 = .ok (.aload_n 0, 1) := by decide +kernel
theorem e_Re_readInto_26 : decode b_Re_readInto 26 = .ok (.invokevirtual 31, 3) := by decide +kernel
theorem e_Re_readInto_29 : decode b_Re_readInto 29 = .ok (.ifCond .ne 8, 3) := by decide +kernel
theorem e_Re_readInto_32 : decode b_Re_readInto 32 = .ok (.aload_n 0, 1) := by decide +kernel
theorem e_Re_readInto_33 : decode b_Re_readInto 33 = .ok (.getfield 28, 3) := by decide +kernel
theorem e_Re_readInto_36 : decode b_Re_readInto 36 = .ok (.ireturn, 1) := by decide +kernel
theorem e_Re_readInto_37 : decode b_Re_readInto 37 = .ok (.aload_n 0, 1) := by decide +kernel
theorem e_Re_readInto_38 : decode b_Re_readInto 38 = .ok (.getfield 28, 3) := by decide +kernel
theorem e_Re_readInto_41 : decode b_Re_readInto 41 = .ok (.aload_n 0, 1) := by decide +kernel
theorem e_Re_readInto_42 : decode b_Re_readInto 42 = .ok (.getfield 19, 3) := by decide +kernel
theorem e_Re_readInto_45 : decode b_Re_readInto 45 = .ok (.if_icmp .ne 5, 3) := by decide +kernel
theorem e_Re_readInto_48 : decode b_Re_readInto 48 = .ok (.iconst (-1), 1) := by decide +kernel
theorem e_Re_readInto_49 : decode b_Re_readInto 49 = .ok (.ireturn, 1) := by decide +kernel
theorem e_Re_readInto_50 : decode b_Re_readInto 50 = .ok (.iload_n 2, 1) := by decide +kernel
theorem e_Re_readInto_51 : decode b_Re_readInto 51 = .ok (.bipush 10, 2) := by decide +kernel
theorem e_Re_readInto_53 : decode b_Re_readInto 53 = .ok (.if_icmp .eq 12, 3) := by decide +kernel
theorem e_Re_readInto_56 : decode b_Re_readInto 56 = .ok (.aload_n 0, 1) := by decide +kernel
theorem e_Re_readInto_57 : decode b_Re_readInto 57 = .ok (.bipush 59, 2) := by decide +kernel
theorem e_Re_readInto_59 : decode b_Re_readInto 59 = .ok (.invokevirtual 35, 3) := by decide +kernel
theorem e_Re_readInto_62 : decode b_Re_readInto 62 = .ok (.ifCond .ne 8, 3) := by decide +kernel
theorem e_Re_readInto_65 : decode b_Re_readInto 65 = .ok (.aload_n 0, 1) := by decide +kernel
theorem e_Re_readInto_66 : decode b_Re_readInto 66 = .ok (.getfield 28, 3) := by decide +kernel
theorem e_Re_readInto_69 : decode b_Re_readInto 69 = .ok (.ireturn, 1) := by decide +kernel
theorem e_Re_readInto_70 : decode b_Re_readInto 70 = .ok (.iinc 2 1, 3) := by decide +kernel
theorem e_Re_readInto_73 : decode b_Re_readInto 73 = .ok (.goto (-54), 3) := by decide +kernel
theorem e_Re_readInto_76 : decode b_Re_readInto 76 = .ok (.aload_n 0, 1) := by decide +kernel
theorem e_Re_readInto_77 : decode b_Re_readInto 77 = .ok (.getfield 28, 3) := by decide +kernel
theorem e_Re_readInto_80 : decode b_Re_readInto 80 = .ok (.ireturn, 1) := by decide +kernel
theorem e_Re_clause_0 : decode b_Re_clause 0 = .ok (.aload_n 0, 1) := by decide +kernel
theorem e_Re_clause_1 : decode b_Re_clause 1 = .ok (.invokevirtual 39, 3) := by decide +kernel
theorem e_Re_clause_4 : decode b_Re_clause 4 = .ok (.bipush 110, 2) := by decide +kernel
theorem e_Re_clause_6 : decode b_Re_clause 6 = .ok (.if_icmp .ne 8, 3) := by decide +kernel
theorem e_Re_clause_9 : decode b_Re_clause 9 = .ok (.aload_n 0, 1) := by decide +kernel
theorem e_Re_clause_10 : decode b_Re_clause 10 = .ok (.invokevirtual 43, 3) := by decide +kernel
theorem e_Re_clause_13 : decode b_Re_clause 13 = .ok (.ireturn, 1) := by decide +kernel
theorem e_Re_clause_14 : decode b_Re_clause 14 = .ok (.aload_n 0, 1) := by decide +kernel
theorem e_Re_clause_15 : decode b_Re_clause 15 = .ok (.invokevirtual 39, 3) := by decide +kernel
theorem e_Re_clause_18 : decode b_Re_clause 18 = .ok (.bipush 100, 2) := by decide +kernel
theorem e_Re_clause_20 : decode b_Re_clause 20 = .ok (.if_icmp .ne 7, 3) := by decide +kernel
theorem e_Re_clause_23 : decode b_Re_clause 23 = .ok (.iconst 1, 1) := by decide +kernel
theorem e_Re_clause_24 : decode b_Re_clause 24 = .ok (.goto 4, 3) := by decide +kernel
theorem e_Re_clause_27 : decode b_Re_clause 27 = .ok (.iconst 0, 1) := by decide +kernel
theorem e_Re_clause_28 : decode b_Re_clause 28 = .ok (.istore_n 1, 1) := by decide +kernel
theorem e_Re_clause_29 : decode b_Re_clause 29 = .ok (.aload_n 0, 1) := by decide +kernel
theorem e_Re_clause_30 : decode b_Re_clause 30 = .ok (.iload_n 1, 1) := by decide +kernel
theorem e_Re_clause_31 : decode b_Re_clause 31 = .ok (.ifCond .eq 8, 3) := by decide +kernel
theorem e_Re_clause_34 : decode b_Re_clause 34 = .ok (.ldc 46, 2) := by decide +kernel
theorem e_Re_clause_36 : decode b_Re_clause 36 = .ok (.goto 5, 3) := by decide +kernel
theorem e_Re_clause_39 : decode b_Re_clause 39 = .ok (.ldc 48, 2) := by decide +kernel
theorem e_Re_clause_41 : decode b_Re_clause 41 = .ok (.invokevirtual 50, 3) := by decide +kernel
theorem e_Re_clause_44 : decode b_Re_clause 44 = .ok (.ifCond .ne 5, 3) := by decide +kernel
theorem e_Re_clause_47 : decode b_Re_clause 47 = .ok (.iconst 0, 1) := by decide +kernel
theorem e_Re_clause_48 : decode b_Re_clause 48 = .ok (.ireturn, 1) := by decide +kernel
theorem e_Re_clause_49 : decode b_Re_clause 49 = .ok (.aload_n 0, 1) := by decide +kernel
theorem e_Re_clause_50 : decode b_Re_clause 50 = .ok (.invokevirtual 54, 3) := by decide +kernel
theorem e_Re_clause_53 : decode b_Re_clause 53 = .ok (.istore_n 2, 1) := by decide +kernel
theorem e_Re_clause_54 : decode b_Re_clause 54 = .ok (.iload_n 2, 1) := by decide +kernel
theorem e_Re_clause_55 : decode b_Re_clause 55 = .ok (.ifCond .lt 20, 3) := by decide +kernel
theorem e_Re_clause_58 : decode b_Re_clause 58 = .ok (.aload_n 0, 1) := by decide +kernel
theorem e_Re_clause_59 : decode b_Re_clause 59 = .ok (.bipush 32, 2) := by decide +kernel
theorem e_Re_clause_61 : decode b_Re_clause 61 = .ok (.invokevirtual 35, 3) := by decide +kernel
theorem e_Re_clause_64 : decode b_Re_clause 64 = .ok (.ifCond .eq 11, 3) := by decide +kernel
theorem e_Re_clause_67 : decode b_Re_clause 67 = .ok (.aload_n 0, 1) := by decide +kernel
theorem e_Re_clause_68 : decode b_Re_clause 68 = .ok (.iconst 0, 1) := by decide +kernel
theorem e_Re_clause_69 : decode b_Re_clause 69 = .ok (.invokevirtual 57, 3) := by decide +kernel
theorem e_Re_clause_72 : decode b_Re_clause 72 = .ok (.ifCond .ne 5, 3) := by decide +kernel
theorem e_Re_clause_75 : decode b_Re_clause 75 = .ok (.iconst 0, 1) := by decide +kernel
theorem e_Re_clause_76 : decode b_Re_clause 76 = .ok (.ireturn, 1) := by decide +kernel
theorem e_Re_clause_77 : decode b_Re_clause 77 = .ok (.aload_n 0, 1) := by decide +kernel
theorem e_Re_clause_78 : decode b_Re_clause 78 = .ok (.getfield 15, 3) := by decide +kernel
theorem e_Re_clause_81 : decode b_Re_clause 81 = .ok (.iload_n 1, 1) := by decide +kernel
theorem e_Re_clause_82 : decode b_Re_clause 82 = .ok (.ifCond .eq 8, 3) := by decide +kernel
theorem e_Re_clause_85 : decode b_Re_clause 85 = .ok (.bipush 9, 2) := by decide +kernel
theorem e_Re_clause_87 : decode b_Re_clause 87 = .ok (.goto 5, 3) := by decide +kernel
theorem e_Re_clause_90 : decode b_Re_clause 90 = .ok (.bipush 10, 2) := by decide +kernel
theorem e_Re_clause_92 : decode b_Re_clause 92 = .ok (.iconst 0, 1) := by decide +kernel
theorem e_Re_clause_93 : decode b_Re_clause 93 = .ok (.iload_n 2, 1) := by decide +kernel
theorem e_Re_clause_94 : decode b_Re_clause 94 = .ok (.invokevirtual 60, 3) := by decide +kernel
theorem e_Re_clause_97 : decode b_Re_clause 97 = .ok (.iconst 1, 1) := by decide +kernel
theorem e_Re_clause_98 : decode b_Re_clause 98 = .ok (.ireturn, 1) := by decide +kernel
theorem e_Re_needClause_0 : decode b_Re_needClause 0 = .ok (.aload_n 0, 1) := by decide +kernel
theorem e_Re_needClause_1 : decode b_Re_needClause 1 = .ok (.ldc 64, 2) := by decide +kernel
theorem e_Re_needClause_3 : decode b_Re_needClause 3 = .ok (.invokevirtual 50, 3) := by decide +kernel
theorem e_Re_needClause_6 : decode b_Re_needClause 6 = .ok (.ifCond .ne 5, 3) := by decide +kernel
theorem e_Re_needClause_9 : decode b_Re_needClause 9 = .ok (.iconst 0, 1) := by decide +kernel
theorem e_Re_needClause_10 : decode b_Re_needClause 10 = .ok (.ireturn, 1) := by decide +kernel
theorem e_Re_needClause_11 : decode b_Re_needClause 11 = .ok (.aload_n 0, 1) := by decide +kernel
theorem e_Re_needClause_12 : decode b_Re_needClause 12 = .ok (.invokevirtual 54, 3) := by decide +kernel
theorem e_Re_needClause_15 : decode b_Re_needClause 15 = .ok (.istore_n 1, 1) := by decide +kernel
theorem e_Re_needClause_16 : decode b_Re_needClause 16 = .ok (.iload_n 1, 1) := by decide +kernel
theorem e_Re_needClause_17 : decode b_Re_needClause 17 = .ok (.ifCond .ge 5, 3) := by decide +kernel
theorem e_Re_needClause_20 : decode b_Re_needClause 20 = .ok (.iconst 0, 1) := by decide +kernel
theorem e_Re_needClause_21 : decode b_Re_needClause 21 = .ok (.ireturn, 1) := by decide +kernel
theorem e_Re_needClause_22 : decode b_Re_needClause 22 = .ok (.aload_n 0, 1) := by decide +kernel
theorem e_Re_needClause_23 : decode b_Re_needClause 23 = .ok (.getfield 15, 3) := by decide +kernel
theorem e_Re_needClause_26 : decode b_Re_needClause 26 = .ok (.bipush 10, 2) := by decide +kernel
theorem e_Re_needClause_28 : decode b_Re_needClause 28 = .ok (.iload_n 1, 1) := by decide +kernel
theorem e_Re_needClause_29 : decode b_Re_needClause 29 = .ok (.imul, 1) := by decide +kernel
theorem e_Re_needClause_30 : decode b_Re_needClause 30 = .ok (.putfield 66, 3) := by decide +kernel
theorem e_Re_needClause_33 : decode b_Re_needClause 33 = .ok (.iconst 1, 1) := by decide +kernel
theorem e_Re_needClause_34 : decode b_Re_needClause 34 = .ok (.ireturn, 1) := by decide +kernel
theorem e_Re_expression_0 : decode b_Re_expression 0 = .ok (.iconst 0, 1) := by decide +kernel
theorem e_Re_expression_1 : decode b_Re_expression 1 = .ok (.istore_n 2, 1) := by decide +kernel
theorem e_Re_expression_2 : decode b_Re_expression 2 = .ok (.iconst 0, 1) := by decide +kernel
theorem e_Re_expression_3 : decode b_Re_expression 3 = .ok (.istore_n 3, 1) := by decide +kernel
theorem e_Re_expression_4 : decode b_Re_expression 4 = .ok (.iconst 0, 1) := by decide +kernel
theorem e_Re_expression_5 : decode b_Re_expression 5 = .ok (.istore 4, 2) := by decide +kernel
theorem e_Re_expression_7 : decode b_Re_expression 7 = .ok (.iload 4, 2) := by decide +kernel
theorem e_Re_expression_9 : decode b_Re_expression 9 = .ok (.bipush 100, 2) := by decide +kernel
theorem e_Re_expression_11 : decode b_Re_expression 11 = .ok (.if_icmp .ge 73, 3) := by decide +kernel
theorem e_Re_expression_14 : decode b_Re_expression 14 = .ok (.aload_n 0, 1) := by decide +kernel
theorem e_Re_expression_15 : decode b_Re_expression 15 = .ok (.iload_n 1, 1) := by decide +kernel
theorem e_Re_expression_16 : decode b_Re_expression 16 = .ok (.invokevirtual 69, 3) := by decide +kernel
theorem e_Re_expression_19 : decode b_Re_expression 19 = .ok (.ifCond .ne 5, 3) := by decide +kernel
theorem e_Re_expression_22 : decode b_Re_expression 22 = .ok (.iconst 0, 1) := by decide +kernel
theorem e_Re_expression_23 : decode b_Re_expression 23 = .ok (.ireturn, 1) := by decide +kernel
theorem e_Re_expression_24 : decode b_Re_expression 24 = .ok (.iload_n 2, 1) := by decide +kernel
theorem e_Re_expression_25 : decode b_Re_expression 25 = .ok (.ifCond .eq 14, 3) := by decide +kernel
theorem e_Re_expression_28 : decode b_Re_expression 28 = .ok (.aload_n 0, 1) := by decide +kernel
theorem e_Re_expression_29 : decode b_Re_expression 29 = .ok (.getfield 15, 3) := by decide +kernel
theorem e_Re_expression_32 : decode b_Re_expression 32 = .ok (.bipush 6, 2) := by decide +kernel
theorem e_Re_expression_34 : decode b_Re_expression 34 = .ok (.iconst 0, 1) := by decide +kernel
theorem e_Re_expression_35 : decode b_Re_expression 35 = .ok (.iconst 0, 1) := by decide +kernel
theorem e_Re_expression_36 : decode b_Re_expression 36 = .ok (.invokevirtual 60, 3) := by decide +kernel
theorem e_Re_expression_39 : decode b_Re_expression 39 = .ok (.aload_n 0, 1) := by decide +kernel
theorem e_Re_expression_40 : decode b_Re_expression 40 = .ok (.bipush 38, 2) := by decide +kernel
theorem e_Re_expression_42 : decode b_Re_expression 42 = .ok (.invokevirtual 35, 3) := by decide +kernel
theorem e_Re_expression_45 : decode b_Re_expression 45 = .ok (.istore_n 2, 1) := by decide +kernel
theorem e_Re_expression_46 : decode b_Re_expression 46 = .ok (.iload_n 2, 1) := by decide +kernel
theorem e_Re_expression_47 : decode b_Re_expression 47 = .ok (.ifCond .ne 31, 3) := by decide +kernel
theorem e_Re_expression_50 : decode b_Re_expression 50 = .ok (.iload_n 3, 1) := by decide +kernel
theorem e_Re_expression_51 : decode b_Re_expression 51 = .ok (.ifCond .eq 14, 3) := by decide +kernel
theorem e_Re_expression_54 : decode b_Re_expression 54 = .ok (.aload_n 0, 1) := by decide +kernel
theorem e_Re_expression_55 : decode b_Re_expression 55 = .ok (.getfield 15, 3) := by decide +kernel
theorem e_Re_expression_58 : decode b_Re_expression 58 = .ok (.bipush 7, 2) := by decide +kernel
theorem e_Re_expression_60 : decode b_Re_expression 60 = .ok (.iconst 0, 1) := by decide +kernel
theorem e_Re_expression_61 : decode b_Re_expression 61 = .ok (.iconst 0, 1) := by decide +kernel
theorem e_Re_expression_62 : decode b_Re_expression 62 = .ok (.invokevirtual 60, 3) := by decide +kernel
theorem e_Re_expression_65 : decode b_Re_expression 65 = .ok (.aload_n 0, 1) := by decide +kernel
theorem e_Re_expression_66 : decode b_Re_expression 66 = .ok (.bipush 124, 2) := by decide +kernel
theorem e_Re_expression_68 : decode b_Re_expression 68 = .ok (.invokevirtual 35, 3) := by decide +kernel
theorem e_Re_expression_71 : decode b_Re_expression 71 = .ok (.istore_n 3, 1) := by decide +kernel
theorem e_Re_expression_72 : decode b_Re_expression 72 = .ok (.iload_n 3, 1) := by decide +kernel
theorem e_Re_expression_73 : decode b_Re_expression 73 = .ok (.ifCond .ne 5, 3) := by decide +kernel
theorem e_Re_expression_76 : decode b_Re_expression 76 = .ok (.iconst 1, 1) := by decide +kernel
theorem e_Re_expression_77 : decode b_Re_expression 77 = .ok (.ireturn, 1) := by decide +kernel
theorem e_Re_expression_78 : decode b_Re_expression 78 = .ok (.iinc 4 1, 3) := by decide +kernel
theorem e_Re_expression_81 : decode b_Re_expression 81 = .ok (.goto (-74), 3) := by decide +kernel
theorem e_Re_expression_84 : decode b_Re_expression 84 = .ok (.iconst 0, 1) := by decide +kernel
theorem e_Re_expression_85 : decode b_Re_expression 85 = .ok (.ireturn, 1) := by decide +kernel
theorem e_Re_factor_0 : decode b_Re_factor 0 = .ok (.iload_n 1, 1) := by decide +kernel
theorem e_Re_factor_1 : decode b_Re_factor 1 = .ok (.iconst 4, 1) := by decide +kernel
theorem e_Re_factor_2 : decode b_Re_factor 2 = .ok (.if_icmp .ge 7, 3) := by decide +kernel
theorem e_Re_factor_5 : decode b_Re_factor 5 = .ok (.iconst 1, 1) := by decide +kernel
theorem e_Re_factor_6 : decode b_Re_factor 6 = .ok (.goto 4, 3) := by decide +kernel
theorem e_Re_factor_9 : decode b_Re_factor 9 = .ok (.iconst 0, 1) := by decide +kernel
theorem e_Re_factor_10 : decode b_Re_factor 10 = .ok (.istore_n 2, 1) := by decide +kernel
theorem e_Re_factor_11 : decode b_Re_factor 11 = .ok (.aload_n 0, 1) := by decide +kernel
theorem e_Re_factor_12 : decode b_Re_factor 12 = .ok (.invokevirtual 39, 3) := by decide +kernel
theorem e_Re_factor_15 : decode b_Re_factor 15 = .ok (.bipush 40, 2) := by decide +kernel
theorem e_Re_factor_17 : decode b_Re_factor 17 = .ok (.if_icmp .ne 41, 3) := by decide +kernel
theorem e_Re_factor_20 : decode b_Re_factor 20 = .ok (.iload_n 2, 1) := by decide +kernel
theorem e_Re_factor_21 : decode b_Re_factor 21 = .ok (.ifCond .eq 35, 3) := by decide +kernel
theorem e_Re_factor_24 : decode b_Re_factor 24 = .ok (.aload_n 0, 1) := by decide +kernel
theorem e_Re_factor_25 : decode b_Re_factor 25 = .ok (.bipush 40, 2) := by decide +kernel
theorem e_Re_factor_27 : decode b_Re_factor 27 = .ok (.invokevirtual 35, 3) := by decide +kernel
theorem e_Re_factor_30 : decode b_Re_factor 30 = .ok (.ifCond .eq 26, 3) := by decide +kernel
theorem e_Re_factor_33 : decode b_Re_factor 33 = .ok (.aload_n 0, 1) := by decide +kernel
theorem e_Re_factor_34 : decode b_Re_factor 34 = .ok (.iload_n 1, 1) := by decide +kernel
theorem e_Re_factor_35 : decode b_Re_factor 35 = .ok (.iconst 1, 1) := by decide +kernel
theorem e_Re_factor_36 : decode b_Re_factor 36 = .ok (.iadd, 1) := by decide +kernel
theorem e_Re_factor_37 : decode b_Re_factor 37 = .ok (.invokevirtual 57, 3) := by decide +kernel
theorem e_Re_factor_40 : decode b_Re_factor 40 = .ok (.ifCond .eq 16, 3) := by decide +kernel
theorem e_Re_factor_43 : decode b_Re_factor 43 = .ok (.aload_n 0, 1) := by decide +kernel
theorem e_Re_factor_44 : decode b_Re_factor 44 = .ok (.bipush 41, 2) := by decide +kernel
theorem e_Re_factor_46 : decode b_Re_factor 46 = .ok (.invokevirtual 35, 3) := by decide +kernel
theorem e_Re_factor_49 : decode b_Re_factor 49 = .ok (.ifCond .eq 7, 3) := by decide +kernel
theorem e_Re_factor_52 : decode b_Re_factor 52 = .ok (.iconst 1, 1) := by decide +kernel
theorem e_Re_factor_53 : decode b_Re_factor 53 = .ok (.goto 4, 3) := by decide +kernel
theorem e_Re_factor_56 : decode b_Re_factor 56 = .ok (.iconst 0, 1) := by decide +kernel
theorem e_Re_factor_57 : decode b_Re_factor 57 = .ok (.ireturn, 1) := by decide +kernel
theorem e_Re_factor_58 : decode b_Re_factor 58 = .ok (.aload_n 0, 1) := by decide +kernel
theorem e_Re_factor_59 : decode b_Re_factor 59 = .ok (.invokevirtual 39, 3) := by decide +kernel
theorem e_Re_factor_62 : decode b_Re_factor 62 = .ok (.bipush 33, 2) := by decide +kernel
theorem e_Re_factor_64 : decode b_Re_factor 64 = .ok (.if_icmp .ne 41, 3) := by decide +kernel
theorem e_Re_factor_67 : decode b_Re_factor 67 = .ok (.iload_n 2, 1) := by decide +kernel
theorem e_Re_factor_68 : decode b_Re_factor 68 = .ok (.ifCond .eq 22, 3) := by decide +kernel
theorem e_Re_factor_71 : decode b_Re_factor 71 = .ok (.aload_n 0, 1) := by decide +kernel
theorem e_Re_factor_72 : decode b_Re_factor 72 = .ok (.bipush 33, 2) := by decide +kernel
theorem e_Re_factor_74 : decode b_Re_factor 74 = .ok (.invokevirtual 35, 3) := by decide +kernel
theorem e_Re_factor_77 : decode b_Re_factor 77 = .ok (.ifCond .eq 13, 3) := by decide +kernel
theorem e_Re_factor_80 : decode b_Re_factor 80 = .ok (.aload_n 0, 1) := by decide +kernel
theorem e_Re_factor_81 : decode b_Re_factor 81 = .ok (.iload_n 1, 1) := by decide +kernel
theorem e_Re_factor_82 : decode b_Re_factor 82 = .ok (.iconst 1, 1) := by decide +kernel
theorem e_Re_factor_83 : decode b_Re_factor 83 = .ok (.iadd, 1) := by decide +kernel
theorem e_Re_factor_84 : decode b_Re_factor 84 = .ok (.invokevirtual 69, 3) := by decide +kernel
theorem e_Re_factor_87 : decode b_Re_factor 87 = .ok (.ifCond .ne 5, 3) := by decide +kernel
theorem e_Re_factor_90 : decode b_Re_factor 90 = .ok (.iconst 0, 1) := by decide +kernel
theorem e_Re_factor_91 : decode b_Re_factor 91 = .ok (.ireturn, 1) := by decide +kernel
theorem e_Re_factor_92 : decode b_Re_factor 92 = .ok (.aload_n 0, 1) := by decide +kernel
theorem e_Re_factor_93 : decode b_Re_factor 93 = .ok (.getfield 15, 3) := by decide +kernel
theorem e_Re_factor_96 : decode b_Re_factor 96 = .ok (.bipush 8, 2) := by decide +kernel
theorem e_Re_factor_98 : decode b_Re_factor 98 = .ok (.iconst 0, 1) := by decide +kernel
theorem e_Re_factor_99 : decode b_Re_factor 99 = .ok (.iconst 0, 1) := by decide +kernel
theorem e_Re_factor_100 : decode b_Re_factor 100 = .ok (.invokevirtual 60, 3) := by decide +kernel
theorem e_Re_factor_103 : decode b_Re_factor 103 = .ok (.iconst 1, 1) := by decide +kernel
theorem e_Re_factor_104 : decode b_Re_factor 104 = .ok (.ireturn, 1) := by decide +kernel
theorem e_Re_factor_105 : decode b_Re_factor 105 = .ok (.aload_n 0, 1) := by decide +kernel
theorem e_Re_factor_106 : decode b_Re_factor 106 = .ok (.ldc 72, 2) := by decide +kernel
theorem e_Re_factor_108 : decode b_Re_factor 108 = .ok (.invokevirtual 74, 3) := by decide +kernel
theorem e_Re_factor_111 : decode b_Re_factor 111 = .ok (.istore_n 3, 1) := by decide +kernel
theorem e_Re_factor_112 : decode b_Re_factor 112 = .ok (.iload_n 3, 1) := by decide +kernel
theorem e_Re_factor_113 : decode b_Re_factor 113 = .ok (.ifCond .ge 7, 3) := by decide +kernel
theorem e_Re_factor_116 : decode b_Re_factor 116 = .ok (.iconst (-1), 1) := by decide +kernel
theorem e_Re_factor_117 : decode b_Re_factor 117 = .ok (.goto 9, 3) := by decide +kernel
theorem e_Re_factor_120 : decode b_Re_factor 120 = .ok (.aload_n 0, 1) := by decide +kernel
theorem e_Re_factor_121 : decode b_Re_factor 121 = .ok (.ldc 78, 2) := by decide +kernel
theorem e_Re_factor_123 : decode b_Re_factor 123 = .ok (.invokevirtual 74, 3) := by decide +kernel
theorem e_Re_factor_126 : decode b_Re_factor 126 = .ok (.istore 4, 2) := by decide +kernel
theorem e_Re_factor_128 : decode b_Re_factor 128 = .ok (.iload 4, 2) := by decide +kernel
theorem e_Re_factor_130 : decode b_Re_factor 130 = .ok (.ifCond .ge 7, 3) := by decide +kernel
theorem e_Re_factor_133 : decode b_Re_factor 133 = .ok (.iconst (-1), 1) := by decide +kernel
theorem e_Re_factor_134 : decode b_Re_factor 134 = .ok (.goto 7, 3) := by decide +kernel
theorem e_Re_factor_137 : decode b_Re_factor 137 = .ok (.aload_n 0, 1) := by decide +kernel
theorem e_Re_factor_138 : decode b_Re_factor 138 = .ok (.invokevirtual 54, 3) := by decide +kernel
theorem e_Re_factor_141 : decode b_Re_factor 141 = .ok (.istore 5, 2) := by decide +kernel
theorem e_Re_factor_143 : decode b_Re_factor 143 = .ok (.iload 5, 2) := by decide +kernel
theorem e_Re_factor_145 : decode b_Re_factor 145 = .ok (.ifCond .ge 5, 3) := by decide +kernel
theorem e_Re_factor_148 : decode b_Re_factor 148 = .ok (.iconst 0, 1) := by decide +kernel
theorem e_Re_factor_149 : decode b_Re_factor 149 = .ok (.ireturn, 1) := by decide +kernel
theorem e_Re_factor_150 : decode b_Re_factor 150 = .ok (.aload_n 0, 1) := by decide +kernel
theorem e_Re_factor_151 : decode b_Re_factor 151 = .ok (.getfield 15, 3) := by decide +kernel
theorem e_Re_factor_154 : decode b_Re_factor 154 = .ok (.iload_n 3, 1) := by decide +kernel
theorem e_Re_factor_155 : decode b_Re_factor 155 = .ok (.iload 4, 2) := by decide +kernel
theorem e_Re_factor_157 : decode b_Re_factor 157 = .ok (.iload 5, 2) := by decide +kernel
theorem e_Re_factor_159 : decode b_Re_factor 159 = .ok (.invokevirtual 60, 3) := by decide +kernel
theorem e_Re_factor_162 : decode b_Re_factor 162 = .ok (.iconst 1, 1) := by decide +kernel
theorem e_Re_factor_163 : decode b_Re_factor 163 = .ok (.ireturn, 1) := by decide +kernel
theorem e_Re_sign_0 : decode b_Re_sign 0 = .ok (.aload_n 0, 1) := by decide +kernel
theorem e_Re_sign_1 : decode b_Re_sign 1 = .ok (.getfield 28, 3) := by decide +kernel
theorem e_Re_sign_4 : decode b_Re_sign 4 = .ok (.ifCond .lt 35, 3) := by decide +kernel
theorem e_Re_sign_7 : decode b_Re_sign 7 = .ok (.aload_n 0, 1) := by decide +kernel
theorem e_Re_sign_8 : decode b_Re_sign 8 = .ok (.getfield 28, 3) := by decide +kernel
theorem e_Re_sign_11 : decode b_Re_sign 11 = .ok (.aload_n 0, 1) := by decide +kernel
theorem e_Re_sign_12 : decode b_Re_sign 12 = .ok (.getfield 19, 3) := by decide +kernel
theorem e_Re_sign_15 : decode b_Re_sign 15 = .ok (.if_icmp .ge 24, 3) := by decide +kernel
theorem e_Re_sign_18 : decode b_Re_sign 18 = .ok (.aload_n 0, 1) := by decide +kernel
theorem e_Re_sign_19 : decode b_Re_sign 19 = .ok (.getfield 28, 3) := by decide +kernel
theorem e_Re_sign_22 : decode b_Re_sign 22 = .ok (.bipush 100, 2) := by decide +kernel
theorem e_Re_sign_24 : decode b_Re_sign 24 = .ok (.if_icmp .ge 15, 3) := by decide +kernel
theorem e_Re_sign_27 : decode b_Re_sign 27 = .ok (.aload_n 0, 1) := by decide +kernel
theorem e_Re_sign_28 : decode b_Re_sign 28 = .ok (.getfield 9, 3) := by decide +kernel
theorem e_Re_sign_31 : decode b_Re_sign 31 = .ok (.aload_n 0, 1) := by decide +kernel
theorem e_Re_sign_32 : decode b_Re_sign 32 = .ok (.getfield 28, 3) := by decide +kernel
theorem e_Re_sign_35 : decode b_Re_sign 35 = .ok (.iaload, 1) := by decide +kernel
theorem e_Re_sign_36 : decode b_Re_sign 36 = .ok (.goto 4, 3) := by decide +kernel
theorem e_Re_sign_39 : decode b_Re_sign 39 = .ok (.iconst (-1), 1) := by decide +kernel
theorem e_Re_sign_40 : decode b_Re_sign 40 = .ok (.ireturn, 1) := by decide +kernel
theorem e_Re_take_0 : decode b_Re_take 0 = .ok (.aload_n 0, 1) := by decide +kernel
theorem e_Re_take_1 : decode b_Re_take 1 = .ok (.invokevirtual 39, 3) := by decide +kernel
theorem e_Re_take_4 : decode b_Re_take 4 = .ok (.iload_n 1, 1) := by decide +kernel
theorem e_Re_take_5 : decode b_Re_take 5 = .ok (.if_icmp .eq 5, 3) := by decide +kernel
theorem e_Re_take_8 : decode b_Re_take 8 = .ok (.iconst 0, 1) := by decide +kernel
theorem e_Re_take_9 : decode b_Re_take 9 = .ok (.ireturn, 1) := by decide +kernel
theorem e_Re_take_10 : decode b_Re_take 10 = .ok (.aload_n 0, 1) := by decide +kernel
theorem e_Re_take_11 : decode b_Re_take 11 = .ok (.dup, 1) := by decide +kernel
theorem e_Re_take_12 : decode b_Re_take 12 = .ok (.getfield 28, 3) := by decide +kernel
theorem e_Re_take_15 : decode b_Re_take 15 = .ok (.iconst 1, 1) := by decide +kernel
theorem e_Re_take_16 : decode b_Re_take 16 = .ok (.iadd, 1) := by decide +kernel
theorem e_Re_take_17 : decode b_Re_take 17 = .ok (.putfield 28, 3) := by decide +kernel
theorem e_Re_take_20 : decode b_Re_take 20 = .ok (.iconst 1, 1) := by decide +kernel
theorem e_Re_take_21 : decode b_Re_take 21 = .ok (.ireturn, 1) := by decide +kernel
theorem e_Re_takeWord_0 : decode b_Re_takeWord 0 = .ok (.iconst 0, 1) := by decide +kernel
theorem e_Re_takeWord_1 : decode b_Re_takeWord 1 = .ok (.istore_n 2, 1) := by decide +kernel
theorem e_Re_takeWord_2 : decode b_Re_takeWord 2 = .ok (.iload_n 2, 1) := by decide +kernel
theorem e_Re_takeWord_3 : decode b_Re_takeWord 3 = .ok (.aload_n 1, 1) := by decide +kernel
theorem e_Re_takeWord_4 : decode b_Re_takeWord 4 = .ok (.invokevirtual 80, 3) := by decide +kernel
theorem e_Re_takeWord_7 : decode b_Re_takeWord 7 = .ok (.if_icmp .ge 23, 3) := by decide +kernel
theorem e_Re_takeWord_10 : decode b_Re_takeWord 10 = .ok (.aload_n 0, 1) := by decide +kernel
theorem e_Re_takeWord_11 : decode b_Re_takeWord 11 = .ok (.aload_n 1, 1) := by decide +kernel
theorem e_Re_takeWord_12 : decode b_Re_takeWord 12 = .ok (.iload_n 2, 1) := by decide +kernel
theorem e_Re_takeWord_13 : decode b_Re_takeWord 13 = .ok (.invokevirtual 84, 3) := by decide +kernel
theorem e_Re_takeWord_16 : decode b_Re_takeWord 16 = .ok (.invokevirtual 35, 3) := by decide +kernel
theorem e_Re_takeWord_19 : decode b_Re_takeWord 19 = .ok (.ifCond .ne 5, 3) := by decide +kernel
theorem e_Re_takeWord_22 : decode b_Re_takeWord 22 = .ok (.iconst 0, 1) := by decide +kernel
theorem e_Re_takeWord_23 : decode b_Re_takeWord 23 = .ok (.ireturn, 1) := by decide +kernel
theorem e_Re_takeWord_24 : decode b_Re_takeWord 24 = .ok (.iinc 2 1, 3) := by decide +kernel
theorem e_Re_takeWord_27 : decode b_Re_takeWord 27 = .ok (.goto (-25), 3) := by decide +kernel
theorem e_Re_takeWord_30 : decode b_Re_takeWord 30 = .ok (.iconst 1, 1) := by decide +kernel
theorem e_Re_takeWord_31 : decode b_Re_takeWord 31 = .ok (.ireturn, 1) := by decide +kernel
theorem e_Re_takeOneOf_0 : decode b_Re_takeOneOf 0 = .ok (.iconst 0, 1) := by decide +kernel
theorem e_Re_takeOneOf_1 : decode b_Re_takeOneOf 1 = .ok (.istore_n 2, 1) := by decide +kernel
theorem e_Re_takeOneOf_2 : decode b_Re_takeOneOf 2 = .ok (.iload_n 2, 1) := by decide +kernel
theorem e_Re_takeOneOf_3 : decode b_Re_takeOneOf 3 = .ok (.aload_n 1, 1) := by decide +kernel
theorem e_Re_takeOneOf_4 : decode b_Re_takeOneOf 4 = .ok (.invokevirtual 80, 3) := by decide +kernel
theorem e_Re_takeOneOf_7 : decode b_Re_takeOneOf 7 = .ok (.if_icmp .ge 33, 3) := by decide +kernel
theorem e_Re_takeOneOf_10 : decode b_Re_takeOneOf 10 = .ok (.aload_n 0, 1) := by decide +kernel
theorem e_Re_takeOneOf_11 : decode b_Re_takeOneOf 11 = .ok (.invokevirtual 39, 3) := by decide +kernel
theorem e_Re_takeOneOf_14 : decode b_Re_takeOneOf 14 = .ok (.aload_n 1, 1) := by decide +kernel
theorem e_Re_takeOneOf_15 : decode b_Re_takeOneOf 15 = .ok (.iload_n 2, 1) := by decide +kernel
theorem e_Re_takeOneOf_16 : decode b_Re_takeOneOf 16 = .ok (.invokevirtual 84, 3) := by decide +kernel
theorem e_Re_takeOneOf_19 : decode b_Re_takeOneOf 19 = .ok (.if_icmp .ne 15, 3) := by decide +kernel
theorem e_Re_takeOneOf_22 : decode b_Re_takeOneOf 22 = .ok (.aload_n 0, 1) := by decide +kernel
theorem e_Re_takeOneOf_23 : decode b_Re_takeOneOf 23 = .ok (.dup, 1) := by decide +kernel
theorem e_Re_takeOneOf_24 : decode b_Re_takeOneOf 24 = .ok (.getfield 28, 3) := by decide +kernel
theorem e_Re_takeOneOf_27 : decode b_Re_takeOneOf 27 = .ok (.iconst 1, 1) := by decide +kernel
theorem e_Re_takeOneOf_28 : decode b_Re_takeOneOf 28 = .ok (.iadd, 1) := by decide +kernel
theorem e_Re_takeOneOf_29 : decode b_Re_takeOneOf 29 = .ok (.putfield 28, 3) := by decide +kernel
theorem e_Re_takeOneOf_32 : decode b_Re_takeOneOf 32 = .ok (.iload_n 2, 1) := by decide +kernel
theorem e_Re_takeOneOf_33 : decode b_Re_takeOneOf 33 = .ok (.ireturn, 1) := by decide +kernel
theorem e_Re_takeOneOf_34 : decode b_Re_takeOneOf 34 = .ok (.iinc 2 1, 3) := by decide +kernel
theorem e_Re_takeOneOf_37 : decode b_Re_takeOneOf 37 = .ok (.goto (-35), 3) := by decide +kernel
theorem e_Re_takeOneOf_40 : decode b_Re_takeOneOf 40 = .ok (.iconst (-1), 1) := by decide +kernel
theorem e_Re_takeOneOf_41 : decode b_Re_takeOneOf 41 = .ok (.ireturn, 1) := by decide +kernel
theorem e_Re_takeNumber_0 : decode b_Re_takeNumber 0 = .ok (.iconst (-1), 1) := by decide +kernel
theorem e_Re_takeNumber_1 : decode b_Re_takeNumber 1 = .ok (.istore_n 1, 1) := by decide +kernel
theorem e_Re_takeNumber_2 : decode b_Re_takeNumber 2 = .ok (.iconst 0, 1) := by decide +kernel
theorem e_Re_takeNumber_3 : decode b_Re_takeNumber 3 = .ok (.istore_n 2, 1) := by decide +kernel
theorem e_Re_takeNumber_4 : decode b_Re_takeNumber 4 = .ok (.iload_n 2, 1) := by decide +kernel
theorem e_Re_takeNumber_5 : decode b_Re_takeNumber 5 = .ok (.iconst 2, 1) := by decide +kernel
theorem e_Re_takeNumber_6 : decode b_Re_takeNumber 6 = .ok (.if_icmp .ge 54, 3) := by decide +kernel
theorem e_Re_takeNumber_9 : decode b_Re_takeNumber 9 = .ok (.aload_n 0, 1) := by decide +kernel
theorem e_Re_takeNumber_10 : decode b_Re_takeNumber 10 = .ok (.invokevirtual 39, 3) := by decide +kernel
theorem e_Re_takeNumber_13 : decode b_Re_takeNumber 13 = .ok (.bipush 48, 2) := by decide +kernel
theorem e_Re_takeNumber_15 : decode b_Re_takeNumber 15 = .ok (.isub, 1) := by decide +kernel
theorem e_Re_takeNumber_16 : decode b_Re_takeNumber 16 = .ok (.istore_n 3, 1) := by decide +kernel
theorem e_Re_takeNumber_17 : decode b_Re_takeNumber 17 = .ok (.iload_n 3, 1) := by decide +kernel
theorem e_Re_takeNumber_18 : decode b_Re_takeNumber 18 = .ok (.ifCond .lt 9, 3) := by decide +kernel
theorem e_Re_takeNumber_21 : decode b_Re_takeNumber 21 = .ok (.iload_n 3, 1) := by decide +kernel
theorem e_Re_takeNumber_22 : decode b_Re_takeNumber 22 = .ok (.bipush 9, 2) := by decide +kernel
theorem e_Re_takeNumber_24 : decode b_Re_takeNumber 24 = .ok (.if_icmp .le 5, 3) := by decide +kernel
theorem e_Re_takeNumber_27 : decode b_Re_takeNumber 27 = .ok (.iload_n 1, 1) := by decide +kernel
theorem e_Re_takeNumber_28 : decode b_Re_takeNumber 28 = .ok (.ireturn, 1) := by decide +kernel
theorem e_Re_takeNumber_29 : decode b_Re_takeNumber 29 = .ok (.iload_n 2, 1) := by decide +kernel
theorem e_Re_takeNumber_30 : decode b_Re_takeNumber 30 = .ok (.ifCond .ne 7, 3) := by decide +kernel
theorem e_Re_takeNumber_33 : decode b_Re_takeNumber 33 = .ok (.iload_n 3, 1) := by decide +kernel
theorem e_Re_takeNumber_34 : decode b_Re_takeNumber 34 = .ok (.goto 9, 3) := by decide +kernel
theorem e_Re_takeNumber_37 : decode b_Re_takeNumber 37 = .ok (.bipush 10, 2) := by decide +kernel
theorem e_Re_takeNumber_39 : decode b_Re_takeNumber 39 = .ok (.iload_n 1, 1) := by decide +kernel
theorem e_Re_takeNumber_40 : decode b_Re_takeNumber 40 = .ok (.imul, 1) := by decide +kernel
theorem e_Re_takeNumber_41 : decode b_Re_takeNumber 41 = .ok (.iload_n 3, 1) := by decide +kernel
theorem e_Re_takeNumber_42 : decode b_Re_takeNumber 42 = .ok (.iadd, 1) := by decide +kernel
theorem e_Re_takeNumber_43 : decode b_Re_takeNumber 43 = .ok (.istore_n 1, 1) := by decide +kernel
theorem e_Re_takeNumber_44 : decode b_Re_takeNumber 44 = .ok (.aload_n 0, 1) := by decide +kernel
theorem e_Re_takeNumber_45 : decode b_Re_takeNumber 45 = .ok (.dup, 1) := by decide +kernel
theorem e_Re_takeNumber_46 : decode b_Re_takeNumber 46 = .ok (.getfield 28, 3) := by decide +kernel
theorem e_Re_takeNumber_49 : decode b_Re_takeNumber 49 = .ok (.iconst 1, 1) := by decide +kernel
theorem e_Re_takeNumber_50 : decode b_Re_takeNumber 50 = .ok (.iadd, 1) := by decide +kernel
theorem e_Re_takeNumber_51 : decode b_Re_takeNumber 51 = .ok (.putfield 28, 3) := by decide +kernel
theorem e_Re_takeNumber_54 : decode b_Re_takeNumber 54 = .ok (.iinc 2 1, 3) := by decide +kernel
theorem e_Re_takeNumber_57 : decode b_Re_takeNumber 57 = .ok (.goto (-53), 3) := by decide +kernel
theorem e_Re_takeNumber_60 : decode b_Re_takeNumber 60 = .ok (.iload_n 1, 1) := by decide +kernel
theorem e_Re_takeNumber_61 : decode b_Re_takeNumber 61 = .ok (.ireturn, 1) := by decide +kernel
theorem e_Ro_init_0 : decode b_Ro_init 0 = .ok (.aload_n 0, 1) := by decide +kernel
theorem e_Ro_init_1 : decode b_Ro_init 1 = .ok (.invokespecial 3, 3) := by decide +kernel
theorem e_Ro_init_4 : decode b_Ro_init 4 = .ok (.iconst 0, 1) := by decide +kernel
theorem e_Ro_init_5 : decode b_Ro_init 5 = .ok (.iload_n 1, 1) := by decide +kernel
theorem e_Ro_init_6 : decode b_Ro_init 6 = .ok (.invokestatic 9, 3) := by decide +kernel
theorem e_Ro_init_9 : decode b_Ro_init 9 = .ok (.istore_n 2, 1) := by decide +kernel
theorem e_Ro_init_10 : decode b_Ro_init 10 = .ok (.aload_n 0, 1) := by decide +kernel
theorem e_Ro_init_11 : decode b_Ro_init 11 = .ok (.iload_n 2, 1) := by decide +kernel
theorem e_Ro_init_12 : decode b_Ro_init 12 = .ok (.newarray .int, 2) := by decide +kernel
theorem e_Ro_init_14 : decode b_Ro_init 14 = .ok (.putfield 15, 3) := by decide +kernel
theorem e_Ro_init_17 : decode b_Ro_init 17 = .ok (.aload_n 0, 1) := by decide +kernel
theorem e_Ro_init_18 : decode b_Ro_init 18 = .ok (.iload_n 2, 1) := by decide +kernel
theorem e_Ro_init_19 : decode b_Ro_init 19 = .ok (.newarray .int, 2) := by decide +kernel
theorem e_Ro_init_21 : decode b_Ro_init 21 = .ok (.putfield 21, 3) := by decide +kernel
theorem e_Ro_init_24 : decode b_Ro_init 24 = .ok (.return_, 1) := by decide +kernel
theorem e_Ro_copyFrom_0 : decode b_Ro_copyFrom 0 = .ok (.aload_n 0, 1) := by decide +kernel
theorem e_Ro_copyFrom_1 : decode b_Ro_copyFrom 1 = .ok (.getfield 15, 3) := by decide +kernel
theorem e_Ro_copyFrom_4 : decode b_Ro_copyFrom 4 = .ok (.arraylength, 1) := by decide +kernel
theorem e_Ro_copyFrom_5 : decode b_Ro_copyFrom 5 = .ok (.aload_n 1, 1) := by decide +kernel
theorem e_Ro_copyFrom_6 : decode b_Ro_copyFrom 6 = .ok (.getfield 15, 3) := by decide +kernel
theorem e_Ro_copyFrom_9 : decode b_Ro_copyFrom 9 = .ok (.arraylength, 1) := by decide +kernel
theorem e_Ro_copyFrom_10 : decode b_Ro_copyFrom 10 = .ok (.invokestatic 24, 3) := by decide +kernel
theorem e_Ro_copyFrom_13 : decode b_Ro_copyFrom 13 = .ok (.istore_n 2, 1) := by decide +kernel
theorem e_Ro_copyFrom_14 : decode b_Ro_copyFrom 14 = .ok (.aload_n 1, 1) := by decide +kernel
theorem e_Ro_copyFrom_15 : decode b_Ro_copyFrom 15 = .ok (.getfield 15, 3) := by decide +kernel
theorem e_Ro_copyFrom_18 : decode b_Ro_copyFrom 18 = .ok (.iconst 0, 1) := by decide +kernel
theorem e_Ro_copyFrom_19 : decode b_Ro_copyFrom 19 = .ok (.aload_n 0, 1) := by decide +kernel
theorem e_Ro_copyFrom_20 : decode b_Ro_copyFrom 20 = .ok (.getfield 15, 3) := by decide +kernel
theorem e_Ro_copyFrom_23 : decode b_Ro_copyFrom 23 = .ok (.iconst 0, 1) := by decide +kernel
theorem e_Ro_copyFrom_24 : decode b_Ro_copyFrom 24 = .ok (.iload_n 2, 1) := by decide +kernel
theorem e_Ro_copyFrom_25 : decode b_Ro_copyFrom 25 = .ok (.invokestatic 27, 3) := by decide +kernel
theorem e_Ro_copyFrom_28 : decode b_Ro_copyFrom 28 = .ok (.aload_n 1, 1) := by decide +kernel
theorem e_Ro_copyFrom_29 : decode b_Ro_copyFrom 29 = .ok (.getfield 21, 3) := by decide +kernel
theorem e_Ro_copyFrom_32 : decode b_Ro_copyFrom 32 = .ok (.iconst 0, 1) := by decide +kernel
theorem e_Ro_copyFrom_33 : decode b_Ro_copyFrom 33 = .ok (.aload_n 0, 1) := by decide +kernel
theorem e_Ro_copyFrom_34 : decode b_Ro_copyFrom 34 = .ok (.getfield 21, 3) := by decide +kernel
theorem e_Ro_copyFrom_37 : decode b_Ro_copyFrom 37 = .ok (.iconst 0, 1) := by decide +kernel
theorem e_Ro_copyFrom_38 : decode b_Ro_copyFrom 38 = .ok (.iload_n 2, 1) := by decide +kernel
theorem e_Ro_copyFrom_39 : decode b_Ro_copyFrom 39 = .ok (.invokestatic 27, 3) := by decide +kernel
theorem e_Ro_copyFrom_42 : decode b_Ro_copyFrom 42 = .ok (.aload_n 0, 1) := by decide +kernel
theorem e_Ro_copyFrom_43 : decode b_Ro_copyFrom 43 = .ok (.aload_n 1, 1) := by decide +kernel
theorem e_Ro_copyFrom_44 : decode b_Ro_copyFrom 44 = .ok (.getfield 33, 3) := by decide +kernel
theorem e_Ro_copyFrom_47 : decode b_Ro_copyFrom 47 = .ok (.putfield 33, 3) := by decide +kernel
theorem e_Ro_copyFrom_50 : decode b_Ro_copyFrom 50 = .ok (.return_, 1) := by decide +kernel
theorem e_Ro_empty_0 : decode b_Ro_empty 0 = .ok (.aload_n 0, 1) := by decide +kernel
theorem e_Ro_empty_1 : decode b_Ro_empty 1 = .ok (.iconst 0, 1) := by decide +kernel
theorem e_Ro_empty_2 : decode b_Ro_empty 2 = .ok (.putfield 33, 3) := by decide +kernel
theorem e_Ro_empty_5 : decode b_Ro_empty 5 = .ok (.iconst 0, 1) := by decide +kernel
theorem e_Ro_empty_6 : decode b_Ro_empty 6 = .ok (.ireturn, 1) := by decide +kernel
theorem e_Ro_add_0 : decode b_Ro_add 0 = .ok (.aload_n 0, 1) := by decide +kernel
theorem e_Ro_add_1 : decode b_Ro_add 1 = .ok (.getfield 33, 3) := by decide +kernel
theorem e_Ro_add_4 : decode b_Ro_add 4 = .ok (.ifCond .lt 27, 3) := by decide +kernel
theorem e_Ro_add_7 : decode b_Ro_add 7 = .ok (.aload_n 0, 1) := by decide +kernel
theorem e_Ro_add_8 : decode b_Ro_add 8 = .ok (.getfield 33, 3) := by decide +kernel
theorem e_Ro_add_11 : decode b_Ro_add 11 = .ok (.aload_n 0, 1) := by decide +kernel
theorem e_Ro_add_12 : decode b_Ro_add 12 = .ok (.getfield 15, 3) := by decide +kernel
theorem e_Ro_add_15 : decode b_Ro_add 15 = .ok (.arraylength, 1) := by decide +kernel
theorem e_Ro_add_16 : decode b_Ro_add 16 = .ok (.if_icmp .ge 15, 3) := by decide +kernel
theorem e_Ro_add_19 : decode b_Ro_add 19 = .ok (.aload_n 0, 1) := by decide +kernel
theorem e_Ro_add_20 : decode b_Ro_add 20 = .ok (.getfield 33, 3) := by decide +kernel
theorem e_Ro_add_23 : decode b_Ro_add 23 = .ok (.aload_n 0, 1) := by decide +kernel
theorem e_Ro_add_24 : decode b_Ro_add 24 = .ok (.getfield 21, 3) := by decide +kernel
theorem e_Ro_add_27 : decode b_Ro_add 27 = .ok (.arraylength, 1) := by decide +kernel
theorem e_Ro_add_28 : decode b_Ro_add 28 = .ok (.if_icmp .lt 6, 3) := by decide +kernel
theorem e_Ro_add_31 : decode b_Ro_add 31 = .ok (.bipush (-4), 2) := by decide +kernel
theorem e_Ro_add_33 : decode b_Ro_add 33 = .ok (.ireturn, 1) := by decide +kernel
theorem e_Ro_add_34 : decode b_Ro_add 34 = .ok (.aload_n 0, 1) := by decide +kernel
theorem e_Ro_add_35 : decode b_Ro_add 35 = .ok (.getfield 15, 3) := by decide +kernel
theorem e_Ro_add_38 : decode b_Ro_add 38 = .ok (.aload_n 0, 1) := by decide +kernel
theorem e_Ro_add_39 : decode b_Ro_add 39 = .ok (.getfield 33, 3) := by decide +kernel
theorem e_Ro_add_42 : decode b_Ro_add 42 = .ok (.iload_n 1, 1) := by decide +kernel
theorem e_Ro_add_43 : decode b_Ro_add 43 = .ok (.iastore, 1) := by decide +kernel
theorem e_Ro_add_44 : decode b_Ro_add 44 = .ok (.aload_n 0, 1) := by decide +kernel
theorem e_Ro_add_45 : decode b_Ro_add 45 = .ok (.getfield 21, 3) := by decide +kernel
theorem e_Ro_add_48 : decode b_Ro_add 48 = .ok (.aload_n 0, 1) := by decide +kernel
theorem e_Ro_add_49 : decode b_Ro_add 49 = .ok (.getfield 33, 3) := by decide +kernel
theorem e_Ro_add_52 : decode b_Ro_add 52 = .ok (.iload_n 2, 1) := by decide +kernel
theorem e_Ro_add_53 : decode b_Ro_add 53 = .ok (.iastore, 1) := by decide +kernel
theorem e_Ro_add_54 : decode b_Ro_add 54 = .ok (.aload_n 0, 1) := by decide +kernel
theorem e_Ro_add_55 : decode b_Ro_add 55 = .ok (.dup, 1) := by decide +kernel
theorem e_Ro_add_56 : decode b_Ro_add 56 = .ok (.getfield 33, 3) := by decide +kernel
theorem e_Ro_add_59 : decode b_Ro_add 59 = .ok (.iconst 1, 1) := by decide +kernel
theorem e_Ro_add_60 : decode b_Ro_add 60 = .ok (.iadd, 1) := by decide +kernel
theorem e_Ro_add_61 : decode b_Ro_add 61 = .ok (.putfield 33, 3) := by decide +kernel
theorem e_Ro_add_64 : decode b_Ro_add 64 = .ok (.aload_n 0, 1) := by decide +kernel
theorem e_Ro_add_65 : decode b_Ro_add 65 = .ok (.getfield 33, 3) := by decide +kernel
theorem e_Ro_add_68 : decode b_Ro_add 68 = .ok (.ireturn, 1) := by decide +kernel
