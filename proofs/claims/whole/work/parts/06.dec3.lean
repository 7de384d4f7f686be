theorem dX6_free_87 : decode cX6_free 87 = .ok (.aload_n 0, 1) := by decide +kernel
theorem dX6_free_88 : decode cX6_free 88 = .ok (.getfield 75, 3) := by decide +kernel
theorem dX6_free_91 : decode cX6_free 91 = .ok (.iload 6, 2) := by decide +kernel
theorem dX6_free_93 : decode cX6_free 93 = .ok (.iaload, 1) := by decide +kernel
theorem dX6_free_94 : decode cX6_free 94 = .ok (.iconst 4, 1) := by decide +kernel
theorem dX6_free_95 : decode cX6_free 95 = .ok (.if_icmp .ne 22, 3) := by decide +kernel
theorem dX6_free_98 : decode cX6_free 98 = .ok (.aload_n 0, 1) := by decide +kernel
theorem dX6_free_99 : decode cX6_free 99 = .ok (.getfield 75, 3) := by decide +kernel
theorem dX6_free_102 : decode cX6_free 102 = .ok (.iload 6, 2) := by decide +kernel
theorem dX6_free_104 : decode cX6_free 104 = .ok (.iconst 1, 1) := by decide +kernel
theorem dX6_free_105 : decode cX6_free 105 = .ok (.iadd, 1) := by decide +kernel
theorem dX6_free_106 : decode cX6_free 106 = .ok (.iaload, 1) := by decide +kernel
theorem dX6_free_107 : decode cX6_free 107 = .ok (.iconst 4, 1) := by decide +kernel
theorem dX6_free_108 : decode cX6_free 108 = .ok (.if_icmp .ge 9, 3) := by decide +kernel
theorem dX6_free_111 : decode cX6_free 111 = .ok (.aload_n 0, 1) := by decide +kernel
theorem dX6_free_112 : decode cX6_free 112 = .ok (.iload 6, 2) := by decide +kernel
theorem dX6_free_114 : decode cX6_free 114 = .ok (.invokevirtual 153, 3) := by decide +kernel
theorem dX6_free_117 : decode cX6_free 117 = .ok (.aload_n 0, 1) := by decide +kernel
theorem dX6_free_118 : decode cX6_free 118 = .ok (.getfield 75, 3) := by decide +kernel
theorem dX6_free_121 : decode cX6_free 121 = .ok (.iload 6, 2) := by decide +kernel
theorem dX6_free_123 : decode cX6_free 123 = .ok (.iaload, 1) := by decide +kernel
theorem dX6_free_124 : decode cX6_free 124 = .ok (.iconst 4, 1) := by decide +kernel
theorem dX6_free_125 : decode cX6_free 125 = .ok (.if_icmp .ne 93, 3) := by decide +kernel
theorem dX6_free_128 : decode cX6_free 128 = .ok (.aload_n 0, 1) := by decide +kernel
theorem dX6_free_129 : decode cX6_free 129 = .ok (.getfield 81, 3) := by decide +kernel
theorem dX6_free_132 : decode cX6_free 132 = .ok (.iload 5, 2) := by decide +kernel
theorem dX6_free_134 : decode cX6_free 134 = .ok (.iaload, 1) := by decide +kernel
theorem dX6_free_135 : decode cX6_free 135 = .ok (.iconst 3, 1) := by decide +kernel
theorem dX6_free_136 : decode cX6_free 136 = .ok (.if_icmp .ge 82, 3) := by decide +kernel
theorem dX6_free_139 : decode cX6_free 139 = .ok (.iconst 0, 1) := by decide +kernel
theorem dX6_free_140 : decode cX6_free 140 = .ok (.istore 7, 2) := by decide +kernel
theorem dX6_free_142 : decode cX6_free 142 = .ok (.iload 7, 2) := by decide +kernel
theorem dX6_free_144 : decode cX6_free 144 = .ok (.iconst 4, 1) := by decide +kernel
theorem dX6_free_145 : decode cX6_free 145 = .ok (.if_icmp .ge 46, 3) := by decide +kernel
theorem dX6_free_148 : decode cX6_free 148 = .ok (.aload_n 0, 1) := by decide +kernel
theorem dX6_free_149 : decode cX6_free 149 = .ok (.getfield 84, 3) := by decide +kernel
theorem dX6_free_152 : decode cX6_free 152 = .ok (.bipush 12, 2) := by decide +kernel
theorem dX6_free_154 : decode cX6_free 154 = .ok (.iload 5, 2) := by decide +kernel
theorem dX6_free_156 : decode cX6_free 156 = .ok (.imul, 1) := by decide +kernel
theorem dX6_free_157 : decode cX6_free 157 = .ok (.iconst 4, 1) := by decide +kernel
theorem dX6_free_158 : decode cX6_free 158 = .ok (.aload_n 0, 1) := by decide +kernel
theorem dX6_free_159 : decode cX6_free 159 = .ok (.getfield 81, 3) := by decide +kernel
theorem dX6_free_162 : decode cX6_free 162 = .ok (.iload 5, 2) := by decide +kernel
theorem dX6_free_164 : decode cX6_free 164 = .ok (.iaload, 1) := by decide +kernel
theorem dX6_free_165 : decode cX6_free 165 = .ok (.imul, 1) := by decide +kernel
theorem dX6_free_166 : decode cX6_free 166 = .ok (.iadd, 1) := by decide +kernel
theorem dX6_free_167 : decode cX6_free 167 = .ok (.iload 7, 2) := by decide +kernel
theorem dX6_free_169 : decode cX6_free 169 = .ok (.iadd, 1) := by decide +kernel
theorem dX6_free_170 : decode cX6_free 170 = .ok (.aload_n 0, 1) := by decide +kernel
theorem dX6_free_171 : decode cX6_free 171 = .ok (.getfield 78, 3) := by decide +kernel
theorem dX6_free_174 : decode cX6_free 174 = .ok (.iconst 4, 1) := by decide +kernel
theorem dX6_free_175 : decode cX6_free 175 = .ok (.iload 6, 2) := by decide +kernel
theorem dX6_free_177 : decode cX6_free 177 = .ok (.imul, 1) := by decide +kernel
theorem dX6_free_178 : decode cX6_free 178 = .ok (.iconst 4, 1) := by decide +kernel
theorem dX6_free_179 : decode cX6_free 179 = .ok (.iadd, 1) := by decide +kernel
theorem dX6_free_180 : decode cX6_free 180 = .ok (.iload 7, 2) := by decide +kernel
theorem dX6_free_182 : decode cX6_free 182 = .ok (.iadd, 1) := by decide +kernel
theorem dX6_free_183 : decode cX6_free 183 = .ok (.iaload, 1) := by decide +kernel
theorem dX6_free_184 : decode cX6_free 184 = .ok (.iastore, 1) := by decide +kernel
theorem dX6_free_185 : decode cX6_free 185 = .ok (.iinc 7 1, 3) := by decide +kernel
theorem dX6_free_188 : decode cX6_free 188 = .ok (.goto (-46), 3) := by decide +kernel
theorem dX6_free_191 : decode cX6_free 191 = .ok (.aload_n 0, 1) := by decide +kernel
theorem dX6_free_192 : decode cX6_free 192 = .ok (.getfield 81, 3) := by decide +kernel
theorem dX6_free_195 : decode cX6_free 195 = .ok (.iload 5, 2) := by decide +kernel
theorem dX6_free_197 : decode cX6_free 197 = .ok (.dup2, 1) := by decide +kernel
theorem dX6_free_198 : decode cX6_free 198 = .ok (.iaload, 1) := by decide +kernel
theorem dX6_free_199 : decode cX6_free 199 = .ok (.iconst 1, 1) := by decide +kernel
theorem dX6_free_200 : decode cX6_free 200 = .ok (.iadd, 1) := by decide +kernel
theorem dX6_free_201 : decode cX6_free 201 = .ok (.iastore, 1) := by decide +kernel
theorem dX6_free_202 : decode cX6_free 202 = .ok (.aload_n 0, 1) := by decide +kernel
theorem dX6_free_203 : decode cX6_free 203 = .ok (.getfield 75, 3) := by decide +kernel
theorem dX6_free_206 : decode cX6_free 206 = .ok (.iload 6, 2) := by decide +kernel
theorem dX6_free_208 : decode cX6_free 208 = .ok (.iconst 1, 1) := by decide +kernel
theorem dX6_free_209 : decode cX6_free 209 = .ok (.iadd, 1) := by decide +kernel
theorem dX6_free_210 : decode cX6_free 210 = .ok (.iconst 0, 1) := by decide +kernel
theorem dX6_free_211 : decode cX6_free 211 = .ok (.iastore, 1) := by decide +kernel
theorem dX6_free_212 : decode cX6_free 212 = .ok (.aload_n 0, 1) := by decide +kernel
theorem dX6_free_213 : decode cX6_free 213 = .ok (.iload 6, 2) := by decide +kernel
theorem dX6_free_215 : decode cX6_free 215 = .ok (.invokevirtual 153, 3) := by decide +kernel
theorem dX6_free_218 : decode cX6_free 218 = .ok (.aload_n 0, 1) := by decide +kernel
theorem dX6_free_219 : decode cX6_free 219 = .ok (.getfield 75, 3) := by decide +kernel
theorem dX6_free_222 : decode cX6_free 222 = .ok (.iload 6, 2) := by decide +kernel
theorem dX6_free_224 : decode cX6_free 224 = .ok (.iaload, 1) := by decide +kernel
theorem dX6_free_225 : decode cX6_free 225 = .ok (.iconst 4, 1) := by decide +kernel
theorem dX6_free_226 : decode cX6_free 226 = .ok (.if_icmp .ge 44, 3) := by decide +kernel
theorem dX6_free_229 : decode cX6_free 229 = .ok (.aload_n 0, 1) := by decide +kernel
theorem dX6_free_230 : decode cX6_free 230 = .ok (.getfield 78, 3) := by decide +kernel
theorem dX6_free_233 : decode cX6_free 233 = .ok (.iconst 4, 1) := by decide +kernel
theorem dX6_free_234 : decode cX6_free 234 = .ok (.iload 6, 2) := by decide +kernel
theorem dX6_free_236 : decode cX6_free 236 = .ok (.imul, 1) := by decide +kernel
theorem dX6_free_237 : decode cX6_free 237 = .ok (.aload_n 0, 1) := by decide +kernel
theorem dX6_free_238 : decode cX6_free 238 = .ok (.getfield 75, 3) := by decide +kernel
theorem dX6_free_241 : decode cX6_free 241 = .ok (.iload 6, 2) := by decide +kernel
theorem dX6_free_243 : decode cX6_free 243 = .ok (.iaload, 1) := by decide +kernel
theorem dX6_free_244 : decode cX6_free 244 = .ok (.iadd, 1) := by decide +kernel
theorem dX6_free_245 : decode cX6_free 245 = .ok (.iload 4, 2) := by decide +kernel
theorem dX6_free_247 : decode cX6_free 247 = .ok (.iastore, 1) := by decide +kernel
theorem dX6_free_248 : decode cX6_free 248 = .ok (.aload_n 0, 1) := by decide +kernel
theorem dX6_free_249 : decode cX6_free 249 = .ok (.getfield 75, 3) := by decide +kernel
theorem dX6_free_252 : decode cX6_free 252 = .ok (.iload 6, 2) := by decide +kernel
theorem dX6_free_254 : decode cX6_free 254 = .ok (.dup2, 1) := by decide +kernel
theorem dX6_free_255 : decode cX6_free 255 = .ok (.iaload, 1) := by decide +kernel
theorem dX6_free_256 : decode cX6_free 256 = .ok (.iconst 1, 1) := by decide +kernel
theorem dX6_free_257 : decode cX6_free 257 = .ok (.iadd, 1) := by decide +kernel
theorem dX6_free_258 : decode cX6_free 258 = .ok (.iastore, 1) := by decide +kernel
theorem dX6_free_259 : decode cX6_free 259 = .ok (.aload_n 0, 1) := by decide +kernel
theorem dX6_free_260 : decode cX6_free 260 = .ok (.getfield 60, 3) := by decide +kernel
theorem dX6_free_263 : decode cX6_free 263 = .ok (.iload 4, 2) := by decide +kernel
theorem dX6_free_265 : decode cX6_free 265 = .ok (.iconst 3, 1) := by decide +kernel
theorem dX6_free_266 : decode cX6_free 266 = .ok (.iastore, 1) := by decide +kernel
theorem dX6_free_267 : decode cX6_free 267 = .ok (.goto 9, 3) := by decide +kernel
theorem dX6_free_270 : decode cX6_free 270 = .ok (.aload_n 0, 1) := by decide +kernel
theorem dX6_free_271 : decode cX6_free 271 = .ok (.iload 4, 2) := by decide +kernel
theorem dX6_free_273 : decode cX6_free 273 = .ok (.invokevirtual 137, 3) := by decide +kernel
theorem dX6_free_276 : decode cX6_free 276 = .ok (.iload 5, 2) := by decide +kernel
theorem dX6_free_278 : decode cX6_free 278 = .ok (.ireturn, 1) := by decide +kernel
theorem dX6_mark_0 : decode cX6_mark 0 = .ok (.aload_n 0, 1) := by decide +kernel
theorem dX6_mark_1 : decode cX6_mark 1 = .ok (.aload_n 0, 1) := by decide +kernel
theorem dX6_mark_2 : decode cX6_mark 2 = .ok (.iload_n 1, 1) := by decide +kernel
theorem dX6_mark_3 : decode cX6_mark 3 = .ok (.invokevirtual 160, 3) := by decide +kernel
theorem dX6_mark_6 : decode cX6_mark 6 = .ok (.ifCond .eq 7, 3) := by decide +kernel
theorem dX6_mark_9 : decode cX6_mark 9 = .ok (.iconst 0, 1) := by decide +kernel
theorem dX6_mark_10 : decode cX6_mark 10 = .ok (.goto 4, 3) := by decide +kernel
theorem dX6_mark_13 : decode cX6_mark 13 = .ok (.iconst 1, 1) := by decide +kernel
theorem dX6_mark_14 : decode cX6_mark 14 = .ok (.invokevirtual 134, 3) := by decide +kernel
theorem dX6_mark_17 : decode cX6_mark 17 = .ok (.ifCond .eq 5, 3) := by decide +kernel
theorem dX6_mark_20 : decode cX6_mark 20 = .ok (.iconst 0, 1) := by decide +kernel
theorem dX6_mark_21 : decode cX6_mark 21 = .ok (.ireturn, 1) := by decide +kernel
theorem dX6_mark_22 : decode cX6_mark 22 = .ok (.aload_n 0, 1) := by decide +kernel
theorem dX6_mark_23 : decode cX6_mark 23 = .ok (.getfield 66, 3) := by decide +kernel
theorem dX6_mark_26 : decode cX6_mark 26 = .ok (.iload_n 1, 1) := by decide +kernel
theorem dX6_mark_27 : decode cX6_mark 27 = .ok (.bipush 8, 2) := by decide +kernel
theorem dX6_mark_29 : decode cX6_mark 29 = .ok (.idiv, 1) := by decide +kernel
theorem dX6_mark_30 : decode cX6_mark 30 = .ok (.iaload, 1) := by decide +kernel
theorem dX6_mark_31 : decode cX6_mark 31 = .ok (.istore_n 3, 1) := by decide +kernel
theorem dX6_mark_32 : decode cX6_mark 32 = .ok (.aload_n 0, 1) := by decide +kernel
theorem dX6_mark_33 : decode cX6_mark 33 = .ok (.getfield 66, 3) := by decide +kernel
theorem dX6_mark_36 : decode cX6_mark 36 = .ok (.iload_n 1, 1) := by decide +kernel
theorem dX6_mark_37 : decode cX6_mark 37 = .ok (.bipush 8, 2) := by decide +kernel
theorem dX6_mark_39 : decode cX6_mark 39 = .ok (.idiv, 1) := by decide +kernel
theorem dX6_mark_40 : decode cX6_mark 40 = .ok (.iload_n 2, 1) := by decide +kernel
theorem dX6_mark_41 : decode cX6_mark 41 = .ok (.iastore, 1) := by decide +kernel
theorem dX6_mark_42 : decode cX6_mark 42 = .ok (.iload_n 3, 1) := by decide +kernel
theorem dX6_mark_43 : decode cX6_mark 43 = .ok (.ireturn, 1) := by decide +kernel
theorem dX6_flush_0 : decode cX6_flush 0 = .ok (.aload_n 0, 1) := by decide +kernel
theorem dX6_flush_1 : decode cX6_flush 1 = .ok (.iload_n 1, 1) := by decide +kernel
theorem dX6_flush_2 : decode cX6_flush 2 = .ok (.iconst 0, 1) := by decide +kernel
theorem dX6_flush_3 : decode cX6_flush 3 = .ok (.iconst 3, 1) := by decide +kernel
theorem dX6_flush_4 : decode cX6_flush 4 = .ok (.invokestatic 94, 3) := by decide +kernel
theorem dX6_flush_7 : decode cX6_flush 7 = .ok (.ifCond .eq 7, 3) := by decide +kernel
theorem dX6_flush_10 : decode cX6_flush 10 = .ok (.iconst 0, 1) := by decide +kernel
theorem dX6_flush_11 : decode cX6_flush 11 = .ok (.goto 4, 3) := by decide +kernel
theorem dX6_flush_14 : decode cX6_flush 14 = .ok (.iconst 1, 1) := by decide +kernel
theorem dX6_flush_15 : decode cX6_flush 15 = .ok (.invokevirtual 134, 3) := by decide +kernel
theorem dX6_flush_18 : decode cX6_flush 18 = .ok (.ifCond .eq 5, 3) := by decide +kernel
theorem dX6_flush_21 : decode cX6_flush 21 = .ok (.iconst 0, 1) := by decide +kernel
theorem dX6_flush_22 : decode cX6_flush 22 = .ok (.ireturn, 1) := by decide +kernel
theorem dX6_flush_23 : decode cX6_flush 23 = .ok (.iconst 0, 1) := by decide +kernel
theorem dX6_flush_24 : decode cX6_flush 24 = .ok (.istore_n 2, 1) := by decide +kernel
theorem dX6_flush_25 : decode cX6_flush 25 = .ok (.iconst 0, 1) := by decide +kernel
theorem dX6_flush_26 : decode cX6_flush 26 = .ok (.istore_n 3, 1) := by decide +kernel
theorem dX6_flush_27 : decode cX6_flush 27 = .ok (.iload_n 3, 1) := by decide +kernel
theorem dX6_flush_28 : decode cX6_flush 28 = .ok (.aload_n 0, 1) := by decide +kernel
theorem dX6_flush_29 : decode cX6_flush 29 = .ok (.getfield 91, 3) := by decide +kernel
theorem dX6_flush_32 : decode cX6_flush 32 = .ok (.if_icmp .ge 39, 3) := by decide +kernel
theorem dX6_flush_35 : decode cX6_flush 35 = .ok (.iconst 2, 1) := by decide +kernel
theorem dX6_flush_36 : decode cX6_flush 36 = .ok (.bipush 8, 2) := by decide +kernel
theorem dX6_flush_38 : decode cX6_flush 38 = .ok (.iload_n 1, 1) := by decide +kernel
theorem dX6_flush_39 : decode cX6_flush 39 = .ok (.imul, 1) := by decide +kernel
theorem dX6_flush_40 : decode cX6_flush 40 = .ok (.iload_n 3, 1) := by decide +kernel
theorem dX6_flush_41 : decode cX6_flush 41 = .ok (.iadd, 1) := by decide +kernel
theorem dX6_flush_42 : decode cX6_flush 42 = .ok (.imul, 1) := by decide +kernel
theorem dX6_flush_43 : decode cX6_flush 43 = .ok (.istore 4, 2) := by decide +kernel
theorem dX6_flush_45 : decode cX6_flush 45 = .ok (.iload_n 2, 1) := by decide +kernel
theorem dX6_flush_46 : decode cX6_flush 46 = .ok (.aload_n 0, 1) := by decide +kernel
theorem dX6_flush_47 : decode cX6_flush 47 = .ok (.iload 4, 2) := by decide +kernel
theorem dX6_flush_49 : decode cX6_flush 49 = .ok (.invokevirtual 147, 3) := by decide +kernel
theorem dX6_flush_52 : decode cX6_flush 52 = .ok (.iadd, 1) := by decide +kernel
theorem dX6_flush_53 : decode cX6_flush 53 = .ok (.istore_n 2, 1) := by decide +kernel
theorem dX6_flush_54 : decode cX6_flush 54 = .ok (.iload_n 2, 1) := by decide +kernel
theorem dX6_flush_55 : decode cX6_flush 55 = .ok (.aload_n 0, 1) := by decide +kernel
theorem dX6_flush_56 : decode cX6_flush 56 = .ok (.iload 4, 2) := by decide +kernel
theorem dX6_flush_58 : decode cX6_flush 58 = .ok (.iconst 1, 1) := by decide +kernel
theorem dX6_flush_59 : decode cX6_flush 59 = .ok (.iadd, 1) := by decide +kernel
theorem dX6_flush_60 : decode cX6_flush 60 = .ok (.invokevirtual 147, 3) := by decide +kernel
theorem dX6_flush_63 : decode cX6_flush 63 = .ok (.iadd, 1) := by decide +kernel
theorem dX6_flush_64 : decode cX6_flush 64 = .ok (.istore_n 2, 1) := by decide +kernel
theorem dX6_flush_65 : decode cX6_flush 65 = .ok (.iinc 3 1, 3) := by decide +kernel
theorem dX6_flush_68 : decode cX6_flush 68 = .ok (.goto (-41), 3) := by decide +kernel
theorem dX6_flush_71 : decode cX6_flush 71 = .ok (.iload_n 2, 1) := by decide +kernel
theorem dX6_flush_72 : decode cX6_flush 72 = .ok (.ireturn, 1) := by decide +kernel
theorem dX6_empty_0 : decode cX6_empty 0 = .ok (.aload_n 0, 1) := by decide +kernel
theorem dX6_empty_1 : decode cX6_empty 1 = .ok (.aload_n 0, 1) := by decide +kernel
theorem dX6_empty_2 : decode cX6_empty 2 = .ok (.iload_n 1, 1) := by decide +kernel
theorem dX6_empty_3 : decode cX6_empty 3 = .ok (.invokevirtual 141, 3) := by decide +kernel
theorem dX6_empty_6 : decode cX6_empty 6 = .ok (.ifCond .eq 7, 3) := by decide +kernel
theorem dX6_empty_9 : decode cX6_empty 9 = .ok (.iconst 0, 1) := by decide +kernel
theorem dX6_empty_10 : decode cX6_empty 10 = .ok (.goto 4, 3) := by decide +kernel
theorem dX6_empty_13 : decode cX6_empty 13 = .ok (.iconst 1, 1) := by decide +kernel
theorem dX6_empty_14 : decode cX6_empty 14 = .ok (.invokevirtual 134, 3) := by decide +kernel
theorem dX6_empty_17 : decode cX6_empty 17 = .ok (.ifCond .eq 7, 3) := by decide +kernel
theorem dX6_empty_20 : decode cX6_empty 20 = .ok (.iconst 0, 1) := by decide +kernel
theorem dX6_empty_21 : decode cX6_empty 21 = .ok (.goto 8, 3) := by decide +kernel
theorem dX6_empty_24 : decode cX6_empty 24 = .ok (.aload_n 0, 1) := by decide +kernel
theorem dX6_empty_25 : decode cX6_empty 25 = .ok (.iload_n 1, 1) := by decide +kernel
theorem dX6_empty_26 : decode cX6_empty 26 = .ok (.invokevirtual 150, 3) := by decide +kernel
theorem dX6_empty_29 : decode cX6_empty 29 = .ok (.ireturn, 1) := by decide +kernel
theorem dX6_reap_0 : decode cX6_reap 0 = .ok (.aload_n 0, 1) := by decide +kernel
theorem dX6_reap_1 : decode cX6_reap 1 = .ok (.iconst 0, 1) := by decide +kernel
theorem dX6_reap_2 : decode cX6_reap 2 = .ok (.putfield 87, 3) := by decide +kernel
theorem dX6_reap_5 : decode cX6_reap 5 = .ok (.aload_n 0, 1) := by decide +kernel
theorem dX6_reap_6 : decode cX6_reap 6 = .ok (.invokevirtual 112, 3) := by decide +kernel
theorem dX6_reap_9 : decode cX6_reap 9 = .ok (.ireturn, 1) := by decide +kernel
theorem dX6_slabAt_0 : decode cX6_slabAt 0 = .ok (.iload_n 1, 1) := by decide +kernel
theorem dX6_slabAt_1 : decode cX6_slabAt 1 = .ok (.iconst 0, 1) := by decide +kernel
theorem dX6_slabAt_2 : decode cX6_slabAt 2 = .ok (.ldc 159, 2) := by decide +kernel
theorem dX6_slabAt_4 : decode cX6_slabAt 4 = .ok (.invokestatic 94, 3) := by decide +kernel
theorem dX6_slabAt_7 : decode cX6_slabAt 7 = .ok (.ifCond .eq 16, 3) := by decide +kernel
theorem dX6_slabAt_10 : decode cX6_slabAt 10 = .ok (.aload_n 0, 1) := by decide +kernel
theorem dX6_slabAt_11 : decode cX6_slabAt 11 = .ok (.getfield 13, 3) := by decide +kernel
theorem dX6_slabAt_14 : decode cX6_slabAt 14 = .ok (.iload_n 1, 1) := by decide +kernel
theorem dX6_slabAt_15 : decode cX6_slabAt 15 = .ok (.sipush 1024, 3) := by decide +kernel
theorem dX6_slabAt_18 : decode cX6_slabAt 18 = .ok (.idiv, 1) := by decide +kernel
theorem dX6_slabAt_19 : decode cX6_slabAt 19 = .ok (.iaload, 1) := by decide +kernel
theorem dX6_slabAt_20 : decode cX6_slabAt 20 = .ok (.goto 4, 3) := by decide +kernel
theorem dX6_slabAt_23 : decode cX6_slabAt 23 = .ok (.iconst (-1), 1) := by decide +kernel
theorem dX6_slabAt_24 : decode cX6_slabAt 24 = .ok (.ireturn, 1) := by decide +kernel
theorem dX6_cacheOf_0 : decode cX6_cacheOf 0 = .ok (.aload_n 0, 1) := by decide +kernel
theorem dX6_cacheOf_1 : decode cX6_cacheOf 1 = .ok (.iconst 0, 1) := by decide +kernel
theorem dX6_cacheOf_2 : decode cX6_cacheOf 2 = .ok (.putfield 87, 3) := by decide +kernel
theorem dX6_cacheOf_5 : decode cX6_cacheOf 5 = .ok (.aload_n 0, 1) := by decide +kernel
theorem dX6_cacheOf_6 : decode cX6_cacheOf 6 = .ok (.iload_n 1, 1) := by decide +kernel
theorem dX6_cacheOf_7 : decode cX6_cacheOf 7 = .ok (.invokevirtual 166, 3) := by decide +kernel
theorem dX6_cacheOf_10 : decode cX6_cacheOf 10 = .ok (.istore_n 2, 1) := by decide +kernel
theorem dX6_cacheOf_11 : decode cX6_cacheOf 11 = .ok (.iload_n 2, 1) := by decide +kernel
theorem dX6_cacheOf_12 : decode cX6_cacheOf 12 = .ok (.ifCond .ge 7, 3) := by decide +kernel
theorem dX6_cacheOf_15 : decode cX6_cacheOf 15 = .ok (.iconst (-1), 1) := by decide +kernel
theorem dX6_cacheOf_16 : decode cX6_cacheOf 16 = .ok (.goto 9, 3) := by decide +kernel
theorem dX6_cacheOf_19 : decode cX6_cacheOf 19 = .ok (.aload_n 0, 1) := by decide +kernel
theorem dX6_cacheOf_20 : decode cX6_cacheOf 20 = .ok (.getfield 47, 3) := by decide +kernel
theorem dX6_cacheOf_23 : decode cX6_cacheOf 23 = .ok (.iload_n 2, 1) := by decide +kernel
theorem dX6_cacheOf_24 : decode cX6_cacheOf 24 = .ok (.iaload, 1) := by decide +kernel
theorem dX6_cacheOf_25 : decode cX6_cacheOf 25 = .ok (.ireturn, 1) := by decide +kernel
theorem dX6_objectOf_0 : decode cX6_objectOf 0 = .ok (.aload_n 0, 1) := by decide +kernel
theorem dX6_objectOf_1 : decode cX6_objectOf 1 = .ok (.iconst 0, 1) := by decide +kernel
theorem dX6_objectOf_2 : decode cX6_objectOf 2 = .ok (.putfield 87, 3) := by decide +kernel
theorem dX6_objectOf_5 : decode cX6_objectOf 5 = .ok (.aload_n 0, 1) := by decide +kernel
theorem dX6_objectOf_6 : decode cX6_objectOf 6 = .ok (.iload_n 1, 1) := by decide +kernel
theorem dX6_objectOf_7 : decode cX6_objectOf 7 = .ok (.invokevirtual 166, 3) := by decide +kernel
theorem dX6_objectOf_10 : decode cX6_objectOf 10 = .ok (.istore_n 2, 1) := by decide +kernel
theorem dX6_objectOf_11 : decode cX6_objectOf 11 = .ok (.iload_n 2, 1) := by decide +kernel
theorem dX6_objectOf_12 : decode cX6_objectOf 12 = .ok (.ifCond .ge 5, 3) := by decide +kernel
theorem dX6_objectOf_15 : decode cX6_objectOf 15 = .ok (.iconst (-1), 1) := by decide +kernel
theorem dX6_objectOf_16 : decode cX6_objectOf 16 = .ok (.ireturn, 1) := by decide +kernel
theorem dX6_objectOf_17 : decode cX6_objectOf 17 = .ok (.aload_n 0, 1) := by decide +kernel
theorem dX6_objectOf_18 : decode cX6_objectOf 18 = .ok (.getfield 47, 3) := by decide +kernel
theorem dX6_objectOf_21 : decode cX6_objectOf 21 = .ok (.iload_n 2, 1) := by decide +kernel
theorem dX6_objectOf_22 : decode cX6_objectOf 22 = .ok (.iaload, 1) := by decide +kernel
theorem dX6_objectOf_23 : decode cX6_objectOf 23 = .ok (.istore_n 3, 1) := by decide +kernel
theorem dX6_objectOf_24 : decode cX6_objectOf 24 = .ok (.iconst 0, 1) := by decide +kernel
theorem dX6_objectOf_25 : decode cX6_objectOf 25 = .ok (.istore 4, 2) := by decide +kernel
theorem dX6_objectOf_27 : decode cX6_objectOf 27 = .ok (.iload 4, 2) := by decide +kernel
theorem dX6_objectOf_29 : decode cX6_objectOf 29 = .ok (.aload_n 0, 1) := by decide +kernel
theorem dX6_objectOf_30 : decode cX6_objectOf 30 = .ok (.getfield 35, 3) := by decide +kernel
theorem dX6_objectOf_33 : decode cX6_objectOf 33 = .ok (.iload_n 3, 1) := by decide +kernel
theorem dX6_objectOf_34 : decode cX6_objectOf 34 = .ok (.iaload, 1) := by decide +kernel
theorem dX6_objectOf_35 : decode cX6_objectOf 35 = .ok (.if_icmp .ge 58, 3) := by decide +kernel
theorem dX6_objectOf_38 : decode cX6_objectOf 38 = .ok (.bipush 8, 2) := by decide +kernel
theorem dX6_objectOf_40 : decode cX6_objectOf 40 = .ok (.aload_n 0, 1) := by decide +kernel
theorem dX6_objectOf_41 : decode cX6_objectOf 41 = .ok (.iload_n 2, 1) := by decide +kernel
theorem dX6_objectOf_42 : decode cX6_objectOf 42 = .ok (.iload 4, 2) := by decide +kernel
theorem dX6_objectOf_44 : decode cX6_objectOf 44 = .ok (.invokevirtual 116, 3) := by decide +kernel
theorem dX6_objectOf_47 : decode cX6_objectOf 47 = .ok (.imul, 1) := by decide +kernel
theorem dX6_objectOf_48 : decode cX6_objectOf 48 = .ok (.istore 5, 2) := by decide +kernel
theorem dX6_objectOf_50 : decode cX6_objectOf 50 = .ok (.aload_n 0, 1) := by decide +kernel
theorem dX6_objectOf_51 : decode cX6_objectOf 51 = .ok (.getfield 60, 3) := by decide +kernel
theorem dX6_objectOf_54 : decode cX6_objectOf 54 = .ok (.iload 5, 2) := by decide +kernel
theorem dX6_objectOf_56 : decode cX6_objectOf 56 = .ok (.bipush 8, 2) := by decide +kernel
theorem dX6_objectOf_58 : decode cX6_objectOf 58 = .ok (.idiv, 1) := by decide +kernel
theorem dX6_objectOf_59 : decode cX6_objectOf 59 = .ok (.iaload, 1) := by decide +kernel
theorem dX6_objectOf_60 : decode cX6_objectOf 60 = .ok (.iconst 2, 1) := by decide +kernel
theorem dX6_objectOf_61 : decode cX6_objectOf 61 = .ok (.if_icmp .ne 26, 3) := by decide +kernel
theorem dX6_objectOf_64 : decode cX6_objectOf 64 = .ok (.iload_n 1, 1) := by decide +kernel
theorem dX6_objectOf_65 : decode cX6_objectOf 65 = .ok (.iload 5, 2) := by decide +kernel
theorem dX6_objectOf_67 : decode cX6_objectOf 67 = .ok (.iload 5, 2) := by decide +kernel
theorem dX6_objectOf_69 : decode cX6_objectOf 69 = .ok (.aload_n 0, 1) := by decide +kernel
theorem dX6_objectOf_70 : decode cX6_objectOf 70 = .ok (.getfield 20, 3) := by decide +kernel
theorem dX6_objectOf_73 : decode cX6_objectOf 73 = .ok (.iload_n 3, 1) := by decide +kernel
theorem dX6_objectOf_74 : decode cX6_objectOf 74 = .ok (.iaload, 1) := by decide +kernel
theorem dX6_objectOf_75 : decode cX6_objectOf 75 = .ok (.iadd, 1) := by decide +kernel
theorem dX6_objectOf_76 : decode cX6_objectOf 76 = .ok (.iconst 1, 1) := by decide +kernel
theorem dX6_objectOf_77 : decode cX6_objectOf 77 = .ok (.isub, 1) := by decide +kernel
theorem dX6_objectOf_78 : decode cX6_objectOf 78 = .ok (.invokestatic 94, 3) := by decide +kernel
theorem dX6_objectOf_81 : decode cX6_objectOf 81 = .ok (.ifCond .eq 6, 3) := by decide +kernel
theorem dX6_objectOf_84 : decode cX6_objectOf 84 = .ok (.iload 5, 2) := by decide +kernel
theorem dX6_objectOf_86 : decode cX6_objectOf 86 = .ok (.ireturn, 1) := by decide +kernel
theorem dX6_objectOf_87 : decode cX6_objectOf 87 = .ok (.iinc 4 1, 3) := by decide +kernel
theorem dX6_objectOf_90 : decode cX6_objectOf 90 = .ok (.goto (-63), 3) := by decide +kernel
theorem dX6_objectOf_93 : decode cX6_objectOf 93 = .ok (.iconst (-1), 1) := by decide +kernel
theorem dX6_objectOf_94 : decode cX6_objectOf 94 = .ok (.ireturn, 1) := by decide +kernel
theorem dX6_about_0 : decode cX6_about 0 = .ok (.aload_n 0, 1) := by decide +kernel
theorem dX6_about_1 : decode cX6_about 1 = .ok (.aload_n 0, 1) := by decide +kernel
theorem dX6_about_2 : decode cX6_about 2 = .ok (.iload_n 1, 1) := by decide +kernel
theorem dX6_about_3 : decode cX6_about 3 = .ok (.invokevirtual 141, 3) := by decide +kernel
theorem dX6_about_6 : decode cX6_about 6 = .ok (.ifCond .ne 7, 3) := by decide +kernel
theorem dX6_about_9 : decode cX6_about 9 = .ok (.iconst 1, 1) := by decide +kernel
theorem dX6_about_10 : decode cX6_about 10 = .ok (.goto 18, 3) := by decide +kernel
theorem dX6_about_13 : decode cX6_about 13 = .ok (.iload_n 2, 1) := by decide +kernel
theorem dX6_about_14 : decode cX6_about 14 = .ok (.iconst 0, 1) := by decide +kernel
theorem dX6_about_15 : decode cX6_about 15 = .ok (.bipush 7, 2) := by decide +kernel
theorem dX6_about_17 : decode cX6_about 17 = .ok (.invokestatic 94, 3) := by decide +kernel
theorem dX6_about_20 : decode cX6_about 20 = .ok (.ifCond .ne 7, 3) := by decide +kernel
theorem dX6_about_23 : decode cX6_about 23 = .ok (.iconst 2, 1) := by decide +kernel
theorem dX6_about_24 : decode cX6_about 24 = .ok (.goto 4, 3) := by decide +kernel
theorem dX6_about_27 : decode cX6_about 27 = .ok (.iconst 0, 1) := by decide +kernel
theorem dX6_about_28 : decode cX6_about 28 = .ok (.invokevirtual 134, 3) := by decide +kernel
theorem dX6_about_31 : decode cX6_about 31 = .ok (.ifCond .eq 5, 3) := by decide +kernel
theorem dX6_about_34 : decode cX6_about 34 = .ok (.iconst 0, 1) := by decide +kernel
theorem dX6_about_35 : decode cX6_about 35 = .ok (.ireturn, 1) := by decide +kernel
theorem dX6_about_36 : decode cX6_about 36 = .ok (.iload_n 2, 1) := by decide +kernel
theorem dX6_about_37 : decode cX6_about 37 = .ok (.iconst 4, 1) := by decide +kernel
theorem dX6_about_38 : decode cX6_about 38 = .ok (.if_icmp .ge 51, 3) := by decide +kernel
theorem dX6_about_41 : decode cX6_about 41 = .ok (.iload_n 2, 1) := by decide +kernel
theorem dX6_about_42 : decode cX6_about 42 = .ok (.ifCond .ne 12, 3) := by decide +kernel
theorem dX6_about_45 : decode cX6_about 45 = .ok (.aload_n 0, 1) := by decide +kernel
theorem dX6_about_46 : decode cX6_about 46 = .ok (.getfield 32, 3) := by decide +kernel
theorem dX6_about_49 : decode cX6_about 49 = .ok (.iload_n 1, 1) := by decide +kernel
theorem dX6_about_50 : decode cX6_about 50 = .ok (.iaload, 1) := by decide +kernel
theorem dX6_about_51 : decode cX6_about 51 = .ok (.goto 37, 3) := by decide +kernel
theorem dX6_about_54 : decode cX6_about 54 = .ok (.iload_n 2, 1) := by decide +kernel
theorem dX6_about_55 : decode cX6_about 55 = .ok (.iconst 1, 1) := by decide +kernel
theorem dX6_about_56 : decode cX6_about 56 = .ok (.if_icmp .ne 12, 3) := by decide +kernel
theorem dX6_about_59 : decode cX6_about 59 = .ok (.aload_n 0, 1) := by decide +kernel
theorem dX6_about_60 : decode cX6_about 60 = .ok (.getfield 35, 3) := by decide +kernel
theorem dX6_about_63 : decode cX6_about 63 = .ok (.iload_n 1, 1) := by decide +kernel
theorem dX6_about_64 : decode cX6_about 64 = .ok (.iaload, 1) := by decide +kernel
theorem dX6_about_65 : decode cX6_about 65 = .ok (.goto 23, 3) := by decide +kernel
theorem dX6_about_68 : decode cX6_about 68 = .ok (.iload_n 2, 1) := by decide +kernel
theorem dX6_about_69 : decode cX6_about 69 = .ok (.iconst 2, 1) := by decide +kernel
theorem dX6_about_70 : decode cX6_about 70 = .ok (.if_icmp .ne 12, 3) := by decide +kernel
theorem dX6_about_73 : decode cX6_about 73 = .ok (.aload_n 0, 1) := by decide +kernel
theorem dX6_about_74 : decode cX6_about 74 = .ok (.getfield 38, 3) := by decide +kernel
theorem dX6_about_77 : decode cX6_about 77 = .ok (.iload_n 1, 1) := by decide +kernel
theorem dX6_about_78 : decode cX6_about 78 = .ok (.iaload, 1) := by decide +kernel
theorem dX6_about_79 : decode cX6_about 79 = .ok (.goto 9, 3) := by decide +kernel
theorem dX6_about_82 : decode cX6_about 82 = .ok (.aload_n 0, 1) := by decide +kernel
theorem dX6_about_83 : decode cX6_about 83 = .ok (.getfield 41, 3) := by decide +kernel
theorem dX6_about_86 : decode cX6_about 86 = .ok (.iload_n 1, 1) := by decide +kernel
theorem dX6_about_87 : decode cX6_about 87 = .ok (.iaload, 1) := by decide +kernel
theorem dX6_about_88 : decode cX6_about 88 = .ok (.ireturn, 1) := by decide +kernel
theorem dX6_about_89 : decode cX6_about 89 = .ok (.iconst 0, 1) := by decide +kernel
theorem dX6_about_90 : decode cX6_about 90 = .ok (.istore_n 3, 1) := by decide +kernel
theorem dX6_about_91 : decode cX6_about 91 = .ok (.iload_n 2, 1) := by decide +kernel
theorem dX6_about_92 : decode cX6_about 92 = .ok (.bipush 6, 2) := by decide +kernel
theorem dX6_about_94 : decode cX6_about 94 = .ok (.if_icmp .ne 58, 3) := by decide +kernel
theorem dX6_about_97 : decode cX6_about 97 = .ok (.iconst 4, 1) := by decide +kernel
theorem dX6_about_98 : decode cX6_about 98 = .ok (.aload_n 0, 1) := by decide +kernel
theorem dX6_about_99 : decode cX6_about 99 = .ok (.getfield 81, 3) := by decide +kernel
theorem dX6_about_102 : decode cX6_about 102 = .ok (.iload_n 1, 1) := by decide +kernel
theorem dX6_about_103 : decode cX6_about 103 = .ok (.iaload, 1) := by decide +kernel
theorem dX6_about_104 : decode cX6_about 104 = .ok (.imul, 1) := by decide +kernel
theorem dX6_about_105 : decode cX6_about 105 = .ok (.istore_n 3, 1) := by decide +kernel
theorem dX6_about_106 : decode cX6_about 106 = .ok (.iconst 0, 1) := by decide +kernel
theorem dX6_about_107 : decode cX6_about 107 = .ok (.istore 4, 2) := by decide +kernel
theorem dX6_about_109 : decode cX6_about 109 = .ok (.iload 4, 2) := by decide +kernel
theorem dX6_about_111 : decode cX6_about 111 = .ok (.iconst 4, 1) := by decide +kernel
theorem dX6_about_112 : decode cX6_about 112 = .ok (.if_icmp .ge 40, 3) := by decide +kernel
theorem dX6_about_115 : decode cX6_about 115 = .ok (.iconst 2, 1) := by decide +kernel
theorem dX6_about_116 : decode cX6_about 116 = .ok (.bipush 8, 2) := by decide +kernel
theorem dX6_about_118 : decode cX6_about 118 = .ok (.iload 4, 2) := by decide +kernel
theorem dX6_about_120 : decode cX6_about 120 = .ok (.imul, 1) := by decide +kernel
theorem dX6_about_121 : decode cX6_about 121 = .ok (.iload_n 1, 1) := by decide +kernel
theorem dX6_about_122 : decode cX6_about 122 = .ok (.iadd, 1) := by decide +kernel
theorem dX6_about_123 : decode cX6_about 123 = .ok (.imul, 1) := by decide +kernel
theorem dX6_about_124 : decode cX6_about 124 = .ok (.istore 5, 2) := by decide +kernel
theorem dX6_about_126 : decode cX6_about 126 = .ok (.iload_n 3, 1) := by decide +kernel
theorem dX6_about_127 : decode cX6_about 127 = .ok (.aload_n 0, 1) := by decide +kernel
theorem dX6_about_128 : decode cX6_about 128 = .ok (.getfield 75, 3) := by decide +kernel
theorem dX6_about_131 : decode cX6_about 131 = .ok (.iload 5, 2) := by decide +kernel
theorem dX6_about_133 : decode cX6_about 133 = .ok (.iaload, 1) := by decide +kernel
theorem dX6_about_134 : decode cX6_about 134 = .ok (.iadd, 1) := by decide +kernel
theorem dX6_about_135 : decode cX6_about 135 = .ok (.aload_n 0, 1) := by decide +kernel
theorem dX6_about_136 : decode cX6_about 136 = .ok (.getfield 75, 3) := by decide +kernel
theorem dX6_about_139 : decode cX6_about 139 = .ok (.iload 5, 2) := by decide +kernel
theorem dX6_about_141 : decode cX6_about 141 = .ok (.iconst 1, 1) := by decide +kernel
theorem dX6_about_142 : decode cX6_about 142 = .ok (.iadd, 1) := by decide +kernel
theorem dX6_about_143 : decode cX6_about 143 = .ok (.iaload, 1) := by decide +kernel
theorem dX6_about_144 : decode cX6_about 144 = .ok (.iadd, 1) := by decide +kernel
theorem dX6_about_145 : decode cX6_about 145 = .ok (.istore_n 3, 1) := by decide +kernel
theorem dX6_about_146 : decode cX6_about 146 = .ok (.iinc 4 1, 3) := by decide +kernel
theorem dX6_about_149 : decode cX6_about 149 = .ok (.goto (-40), 3) := by decide +kernel
theorem dX6_about_152 : decode cX6_about 152 = .ok (.aload_n 0, 1) := by decide +kernel
theorem dX6_about_153 : decode cX6_about 153 = .ok (.getfield 69, 3) := by decide +kernel
theorem dX6_about_156 : decode cX6_about 156 = .ok (.iconst 3, 1) := by decide +kernel
theorem dX6_about_157 : decode cX6_about 157 = .ok (.iload_n 1, 1) := by decide +kernel
theorem dX6_about_158 : decode cX6_about 158 = .ok (.imul, 1) := by decide +kernel
theorem dX6_about_159 : decode cX6_about 159 = .ok (.iaload, 1) := by decide +kernel
theorem dX6_about_160 : decode cX6_about 160 = .ok (.aload_n 0, 1) := by decide +kernel
theorem dX6_about_161 : decode cX6_about 161 = .ok (.getfield 69, 3) := by decide +kernel
theorem dX6_about_164 : decode cX6_about 164 = .ok (.iconst 3, 1) := by decide +kernel
theorem dX6_about_165 : decode cX6_about 165 = .ok (.iload_n 1, 1) := by decide +kernel
theorem dX6_about_166 : decode cX6_about 166 = .ok (.imul, 1) := by decide +kernel
theorem dX6_about_167 : decode cX6_about 167 = .ok (.iconst 1, 1) := by decide +kernel
theorem dX6_about_168 : decode cX6_about 168 = .ok (.iadd, 1) := by decide +kernel
theorem dX6_about_169 : decode cX6_about 169 = .ok (.iaload, 1) := by decide +kernel
theorem dX6_about_170 : decode cX6_about 170 = .ok (.iadd, 1) := by decide +kernel
theorem dX6_about_171 : decode cX6_about 171 = .ok (.aload_n 0, 1) := by decide +kernel
theorem dX6_about_172 : decode cX6_about 172 = .ok (.getfield 69, 3) := by decide +kernel
theorem dX6_about_175 : decode cX6_about 175 = .ok (.iconst 3, 1) := by decide +kernel
theorem dX6_about_176 : decode cX6_about 176 = .ok (.iload_n 1, 1) := by decide +kernel
theorem dX6_about_177 : decode cX6_about 177 = .ok (.imul, 1) := by decide +kernel
theorem dX6_about_178 : decode cX6_about 178 = .ok (.iconst 2, 1) := by decide +kernel
theorem dX6_about_179 : decode cX6_about 179 = .ok (.iadd, 1) := by decide +kernel
theorem dX6_about_180 : decode cX6_about 180 = .ok (.iaload, 1) := by decide +kernel
theorem dX6_about_181 : decode cX6_about 181 = .ok (.iadd, 1) := by decide +kernel
theorem dX6_about_182 : decode cX6_about 182 = .ok (.istore 4, 2) := by decide +kernel
theorem dX6_about_184 : decode cX6_about 184 = .ok (.iload_n 2, 1) := by decide +kernel
theorem dX6_about_185 : decode cX6_about 185 = .ok (.iconst 4, 1) := by decide +kernel
theorem dX6_about_186 : decode cX6_about 186 = .ok (.if_icmp .ne 8, 3) := by decide +kernel
theorem dX6_about_189 : decode cX6_about 189 = .ok (.iload 4, 2) := by decide +kernel
theorem dX6_about_191 : decode cX6_about 191 = .ok (.goto 32, 3) := by decide +kernel
theorem dX6_about_194 : decode cX6_about 194 = .ok (.iload_n 2, 1) := by decide +kernel
theorem dX6_about_195 : decode cX6_about 195 = .ok (.iconst 5, 1) := by decide +kernel
theorem dX6_about_196 : decode cX6_about 196 = .ok (.if_icmp .ne 11, 3) := by decide +kernel
theorem dX6_about_199 : decode cX6_about 199 = .ok (.aload_n 0, 1) := by decide +kernel
theorem dX6_about_200 : decode cX6_about 200 = .ok (.iload_n 1, 1) := by decide +kernel
theorem dX6_about_201 : decode cX6_about 201 = .ok (.invokevirtual 144, 3) := by decide +kernel
theorem dX6_about_204 : decode cX6_about 204 = .ok (.goto 19, 3) := by decide +kernel
theorem dX6_about_207 : decode cX6_about 207 = .ok (.iload_n 2, 1) := by decide +kernel
theorem dX6_about_208 : decode cX6_about 208 = .ok (.bipush 6, 2) := by decide +kernel
theorem dX6_about_210 : decode cX6_about 210 = .ok (.if_icmp .ne 7, 3) := by decide +kernel
theorem dX6_about_213 : decode cX6_about 213 = .ok (.iload_n 3, 1) := by decide +kernel
theorem dX6_about_214 : decode cX6_about 214 = .ok (.goto 9, 3) := by decide +kernel
theorem dX6_about_217 : decode cX6_about 217 = .ok (.aload_n 0, 1) := by decide +kernel
theorem dX6_about_218 : decode cX6_about 218 = .ok (.getfield 44, 3) := by decide +kernel
theorem dX6_about_221 : decode cX6_about 221 = .ok (.iload_n 1, 1) := by decide +kernel
theorem dX6_about_222 : decode cX6_about 222 = .ok (.iaload, 1) := by decide +kernel
theorem dX6_about_223 : decode cX6_about 223 = .ok (.ireturn, 1) := by decide +kernel
theorem dX6_list_0 : decode cX6_list 0 = .ok (.aload_n 0, 1) := by decide +kernel
theorem dX6_list_1 : decode cX6_list 1 = .ok (.aload_n 0, 1) := by decide +kernel
theorem dX6_list_2 : decode cX6_list 2 = .ok (.iload_n 1, 1) := by decide +kernel
theorem dX6_list_3 : decode cX6_list 3 = .ok (.invokevirtual 141, 3) := by decide +kernel
theorem dX6_list_6 : decode cX6_list 6 = .ok (.ifCond .ne 7, 3) := by decide +kernel
theorem dX6_list_9 : decode cX6_list 9 = .ok (.iconst 1, 1) := by decide +kernel
theorem dX6_list_10 : decode cX6_list 10 = .ok (.goto 17, 3) := by decide +kernel
theorem dX6_list_13 : decode cX6_list 13 = .ok (.iload_n 2, 1) := by decide +kernel
theorem dX6_list_14 : decode cX6_list 14 = .ok (.iconst 0, 1) := by decide +kernel
theorem dX6_list_15 : decode cX6_list 15 = .ok (.iconst 2, 1) := by decide +kernel
theorem dX6_list_16 : decode cX6_list 16 = .ok (.invokestatic 94, 3) := by decide +kernel
theorem dX6_list_19 : decode cX6_list 19 = .ok (.ifCond .ne 7, 3) := by decide +kernel
theorem dX6_list_22 : decode cX6_list 22 = .ok (.iconst 2, 1) := by decide +kernel
theorem dX6_list_23 : decode cX6_list 23 = .ok (.goto 4, 3) := by decide +kernel
theorem dX6_list_26 : decode cX6_list 26 = .ok (.iconst 0, 1) := by decide +kernel
theorem dX6_list_27 : decode cX6_list 27 = .ok (.invokevirtual 134, 3) := by decide +kernel
theorem dX6_list_30 : decode cX6_list 30 = .ok (.ifCond .eq 5, 3) := by decide +kernel
theorem dX6_list_33 : decode cX6_list 33 = .ok (.iconst 0, 1) := by decide +kernel
theorem dX6_list_34 : decode cX6_list 34 = .ok (.ireturn, 1) := by decide +kernel
theorem dX6_list_35 : decode cX6_list 35 = .ok (.iconst 3, 1) := by decide +kernel
theorem dX6_list_36 : decode cX6_list 36 = .ok (.iload_n 1, 1) := by decide +kernel
theorem dX6_list_37 : decode cX6_list 37 = .ok (.imul, 1) := by decide +kernel
theorem dX6_list_38 : decode cX6_list 38 = .ok (.iload_n 2, 1) := by decide +kernel
theorem dX6_list_39 : decode cX6_list 39 = .ok (.iadd, 1) := by decide +kernel
theorem dX6_list_40 : decode cX6_list 40 = .ok (.istore 4, 2) := by decide +kernel
theorem dX6_list_42 : decode cX6_list 42 = .ok (.iload_n 3, 1) := by decide +kernel
theorem dX6_list_43 : decode cX6_list 43 = .ok (.iconst 0, 1) := by decide +kernel
theorem dX6_list_44 : decode cX6_list 44 = .ok (.aload_n 0, 1) := by decide +kernel
theorem dX6_list_45 : decode cX6_list 45 = .ok (.getfield 69, 3) := by decide +kernel
theorem dX6_list_48 : decode cX6_list 48 = .ok (.iload 4, 2) := by decide +kernel
theorem dX6_list_50 : decode cX6_list 50 = .ok (.iaload, 1) := by decide +kernel
theorem dX6_list_51 : decode cX6_list 51 = .ok (.iconst 1, 1) := by decide +kernel
theorem dX6_list_52 : decode cX6_list 52 = .ok (.isub, 1) := by decide +kernel
theorem dX6_list_53 : decode cX6_list 53 = .ok (.invokestatic 94, 3) := by decide +kernel
theorem dX6_list_56 : decode cX6_list 56 = .ok (.ifCond .eq 23, 3) := by decide +kernel
theorem dX6_list_59 : decode cX6_list 59 = .ok (.sipush 1024, 3) := by decide +kernel
theorem dX6_list_62 : decode cX6_list 62 = .ok (.aload_n 0, 1) := by decide +kernel
theorem dX6_list_63 : decode cX6_list 63 = .ok (.getfield 72, 3) := by decide +kernel
theorem dX6_list_66 : decode cX6_list 66 = .ok (.sipush 256, 3) := by decide +kernel
theorem dX6_list_69 : decode cX6_list 69 = .ok (.iload 4, 2) := by decide +kernel
theorem dX6_list_71 : decode cX6_list 71 = .ok (.imul, 1) := by decide +kernel
theorem dX6_list_72 : decode cX6_list 72 = .ok (.iload_n 3, 1) := by decide +kernel
theorem dX6_list_73 : decode cX6_list 73 = .ok (.iadd, 1) := by decide +kernel
theorem dX6_list_74 : decode cX6_list 74 = .ok (.iaload, 1) := by decide +kernel
theorem dX6_list_75 : decode cX6_list 75 = .ok (.imul, 1) := by decide +kernel
theorem dX6_list_76 : decode cX6_list 76 = .ok (.goto 4, 3) := by decide +kernel
theorem dX6_list_79 : decode cX6_list 79 = .ok (.iconst (-1), 1) := by decide +kernel
theorem dX6_list_80 : decode cX6_list 80 = .ok (.ireturn, 1) := by decide +kernel
theorem dX6_slab_0 : decode cX6_slab 0 = .ok (.aload_n 0, 1) := by decide +kernel
theorem dX6_slab_1 : decode cX6_slab 1 = .ok (.iload_n 1, 1) := by decide +kernel
theorem dX6_slab_2 : decode cX6_slab 2 = .ok (.invokevirtual 166, 3) := by decide +kernel
theorem dX6_slab_5 : decode cX6_slab 5 = .ok (.istore_n 3, 1) := by decide +kernel
theorem dX6_slab_6 : decode cX6_slab 6 = .ok (.aload_n 0, 1) := by decide +kernel
theorem dX6_slab_7 : decode cX6_slab 7 = .ok (.iload_n 3, 1) := by decide +kernel
theorem dX6_slab_8 : decode cX6_slab 8 = .ok (.ifCond .ge 7, 3) := by decide +kernel
theorem dX6_slab_11 : decode cX6_slab 11 = .ok (.iconst 1, 1) := by decide +kernel
theorem dX6_slab_12 : decode cX6_slab 12 = .ok (.goto 17, 3) := by decide +kernel
theorem dX6_slab_15 : decode cX6_slab 15 = .ok (.iload_n 2, 1) := by decide +kernel
theorem dX6_slab_16 : decode cX6_slab 16 = .ok (.iconst 0, 1) := by decide +kernel
theorem dX6_slab_17 : decode cX6_slab 17 = .ok (.iconst 3, 1) := by decide +kernel
theorem dX6_slab_18 : decode cX6_slab 18 = .ok (.invokestatic 94, 3) := by decide +kernel
theorem dX6_slab_21 : decode cX6_slab 21 = .ok (.ifCond .ne 7, 3) := by decide +kernel
theorem dX6_slab_24 : decode cX6_slab 24 = .ok (.iconst 2, 1) := by decide +kernel
theorem dX6_slab_25 : decode cX6_slab 25 = .ok (.goto 4, 3) := by decide +kernel
theorem dX6_slab_28 : decode cX6_slab 28 = .ok (.iconst 0, 1) := by decide +kernel
theorem dX6_slab_29 : decode cX6_slab 29 = .ok (.invokevirtual 134, 3) := by decide +kernel
theorem dX6_slab_32 : decode cX6_slab 32 = .ok (.ifCond .eq 5, 3) := by decide +kernel
theorem dX6_slab_35 : decode cX6_slab 35 = .ok (.iconst 0, 1) := by decide +kernel
theorem dX6_slab_36 : decode cX6_slab 36 = .ok (.ireturn, 1) := by decide +kernel
theorem dX6_slab_37 : decode cX6_slab 37 = .ok (.iload_n 2, 1) := by decide +kernel
theorem dX6_slab_38 : decode cX6_slab 38 = .ok (.iconst 3, 1) := by decide +kernel
theorem dX6_slab_39 : decode cX6_slab 39 = .ok (.if_icmp .ge 36, 3) := by decide +kernel
theorem dX6_slab_42 : decode cX6_slab 42 = .ok (.iload_n 2, 1) := by decide +kernel
theorem dX6_slab_43 : decode cX6_slab 43 = .ok (.ifCond .ne 11, 3) := by decide +kernel
theorem dX6_slab_46 : decode cX6_slab 46 = .ok (.sipush 1024, 3) := by decide +kernel
theorem dX6_slab_49 : decode cX6_slab 49 = .ok (.iload_n 3, 1) := by decide +kernel
theorem dX6_slab_50 : decode cX6_slab 50 = .ok (.imul, 1) := by decide +kernel
theorem dX6_slab_51 : decode cX6_slab 51 = .ok (.goto 23, 3) := by decide +kernel
theorem dX6_slab_54 : decode cX6_slab 54 = .ok (.iload_n 2, 1) := by decide +kernel
theorem dX6_slab_55 : decode cX6_slab 55 = .ok (.iconst 1, 1) := by decide +kernel
theorem dX6_slab_56 : decode cX6_slab 56 = .ok (.if_icmp .ne 12, 3) := by decide +kernel
theorem dX6_slab_59 : decode cX6_slab 59 = .ok (.aload_n 0, 1) := by decide +kernel
theorem dX6_slab_60 : decode cX6_slab 60 = .ok (.getfield 50, 3) := by decide +kernel
theorem dX6_slab_63 : decode cX6_slab 63 = .ok (.iload_n 3, 1) := by decide +kernel
theorem dX6_slab_64 : decode cX6_slab 64 = .ok (.iaload, 1) := by decide +kernel
theorem dX6_slab_65 : decode cX6_slab 65 = .ok (.goto 9, 3) := by decide +kernel
theorem dX6_slab_68 : decode cX6_slab 68 = .ok (.aload_n 0, 1) := by decide +kernel
theorem dX6_slab_69 : decode cX6_slab 69 = .ok (.getfield 53, 3) := by decide +kernel
theorem dX6_slab_72 : decode cX6_slab 72 = .ok (.iload_n 3, 1) := by decide +kernel
theorem dX6_slab_73 : decode cX6_slab 73 = .ok (.iaload, 1) := by decide +kernel
theorem dX6_slab_74 : decode cX6_slab 74 = .ok (.ireturn, 1) := by decide +kernel
theorem dX6_slab_75 : decode cX6_slab 75 = .ok (.iconst 0, 1) := by decide +kernel
theorem dX6_slab_76 : decode cX6_slab 76 = .ok (.istore 4, 2) := by decide +kernel
theorem dX6_slab_78 : decode cX6_slab 78 = .ok (.iload 4, 2) := by decide +kernel
theorem dX6_slab_80 : decode cX6_slab 80 = .ok (.aload_n 0, 1) := by decide +kernel
theorem dX6_slab_81 : decode cX6_slab 81 = .ok (.getfield 35, 3) := by decide +kernel
theorem dX6_slab_84 : decode cX6_slab 84 = .ok (.aload_n 0, 1) := by decide +kernel
theorem dX6_slab_85 : decode cX6_slab 85 = .ok (.getfield 47, 3) := by decide +kernel
theorem dX6_slab_88 : decode cX6_slab 88 = .ok (.iload_n 3, 1) := by decide +kernel
theorem dX6_slab_89 : decode cX6_slab 89 = .ok (.iaload, 1) := by decide +kernel
theorem dX6_slab_90 : decode cX6_slab 90 = .ok (.iaload, 1) := by decide +kernel
theorem dX6_slab_91 : decode cX6_slab 91 = .ok (.if_icmp .ge 25, 3) := by decide +kernel
theorem dX6_slab_94 : decode cX6_slab 94 = .ok (.aload_n 0, 1) := by decide +kernel
theorem dX6_slab_95 : decode cX6_slab 95 = .ok (.iload_n 3, 1) := by decide +kernel
theorem dX6_slab_96 : decode cX6_slab 96 = .ok (.iload 4, 2) := by decide +kernel
theorem dX6_slab_98 : decode cX6_slab 98 = .ok (.invokevirtual 116, 3) := by decide +kernel
theorem dX6_slab_101 : decode cX6_slab 101 = .ok (.aload_n 0, 1) := by decide +kernel
theorem dX6_slab_102 : decode cX6_slab 102 = .ok (.getfield 56, 3) := by decide +kernel
theorem dX6_slab_105 : decode cX6_slab 105 = .ok (.iload_n 3, 1) := by decide +kernel
theorem dX6_slab_106 : decode cX6_slab 106 = .ok (.iaload, 1) := by decide +kernel
theorem dX6_slab_107 : decode cX6_slab 107 = .ok (.if_icmp .eq 9, 3) := by decide +kernel
theorem dX6_slab_110 : decode cX6_slab 110 = .ok (.iinc 4 1, 3) := by decide +kernel
theorem dX6_slab_113 : decode cX6_slab 113 = .ok (.goto (-35), 3) := by decide +kernel
theorem dX6_slab_116 : decode cX6_slab 116 = .ok (.iload 4, 2) := by decide +kernel
theorem dX6_slab_118 : decode cX6_slab 118 = .ok (.aload_n 0, 1) := by decide +kernel
theorem dX6_slab_119 : decode cX6_slab 119 = .ok (.getfield 35, 3) := by decide +kernel
theorem dX6_slab_122 : decode cX6_slab 122 = .ok (.aload_n 0, 1) := by decide +kernel
theorem dX6_slab_123 : decode cX6_slab 123 = .ok (.getfield 47, 3) := by decide +kernel
theorem dX6_slab_126 : decode cX6_slab 126 = .ok (.iload_n 3, 1) := by decide +kernel
theorem dX6_slab_127 : decode cX6_slab 127 = .ok (.iaload, 1) := by decide +kernel
theorem dX6_slab_128 : decode cX6_slab 128 = .ok (.iaload, 1) := by decide +kernel
theorem dX6_slab_129 : decode cX6_slab 129 = .ok (.if_icmp .ge 8, 3) := by decide +kernel
theorem dX6_slab_132 : decode cX6_slab 132 = .ok (.iload 4, 2) := by decide +kernel
theorem dX6_slab_134 : decode cX6_slab 134 = .ok (.goto 4, 3) := by decide +kernel
theorem dX6_slab_137 : decode cX6_slab 137 = .ok (.iconst (-1), 1) := by decide +kernel
theorem dX6_slab_138 : decode cX6_slab 138 = .ok (.ireturn, 1) := by decide +kernel
theorem dX6_magazine_0 : decode cX6_magazine 0 = .ok (.aload_n 0, 1) := by decide +kernel
theorem dX6_magazine_1 : decode cX6_magazine 1 = .ok (.aload_n 0, 1) := by decide +kernel
theorem dX6_magazine_2 : decode cX6_magazine 2 = .ok (.iload_n 1, 1) := by decide +kernel
theorem dX6_magazine_3 : decode cX6_magazine 3 = .ok (.invokevirtual 141, 3) := by decide +kernel
theorem dX6_magazine_6 : decode cX6_magazine 6 = .ok (.ifCond .ne 7, 3) := by decide +kernel
theorem dX6_magazine_9 : decode cX6_magazine 9 = .ok (.iconst 1, 1) := by decide +kernel
theorem dX6_magazine_10 : decode cX6_magazine 10 = .ok (.goto 26, 3) := by decide +kernel
theorem dX6_magazine_13 : decode cX6_magazine 13 = .ok (.iload_n 2, 1) := by decide +kernel
theorem dX6_magazine_14 : decode cX6_magazine 14 = .ok (.iconst 0, 1) := by decide +kernel
theorem dX6_magazine_15 : decode cX6_magazine 15 = .ok (.iconst 3, 1) := by decide +kernel
theorem dX6_magazine_16 : decode cX6_magazine 16 = .ok (.invokestatic 94, 3) := by decide +kernel
theorem dX6_magazine_19 : decode cX6_magazine 19 = .ok (.ifCond .eq 12, 3) := by decide +kernel
theorem dX6_magazine_22 : decode cX6_magazine 22 = .ok (.iload_n 3, 1) := by decide +kernel
theorem dX6_magazine_23 : decode cX6_magazine 23 = .ok (.iconst 0, 1) := by decide +kernel
theorem dX6_magazine_24 : decode cX6_magazine 24 = .ok (.iconst 2, 1) := by decide +kernel
theorem dX6_magazine_25 : decode cX6_magazine 25 = .ok (.invokestatic 94, 3) := by decide +kernel
theorem dX6_magazine_28 : decode cX6_magazine 28 = .ok (.ifCond .ne 7, 3) := by decide +kernel
theorem dX6_magazine_31 : decode cX6_magazine 31 = .ok (.iconst 2, 1) := by decide +kernel
theorem dX6_magazine_32 : decode cX6_magazine 32 = .ok (.goto 4, 3) := by decide +kernel
theorem dX6_magazine_35 : decode cX6_magazine 35 = .ok (.iconst 0, 1) := by decide +kernel
theorem dX6_magazine_36 : decode cX6_magazine 36 = .ok (.invokevirtual 134, 3) := by decide +kernel
theorem dX6_magazine_39 : decode cX6_magazine 39 = .ok (.ifCond .eq 5, 3) := by decide +kernel
theorem dX6_magazine_42 : decode cX6_magazine 42 = .ok (.iconst 0, 1) := by decide +kernel
theorem dX6_magazine_43 : decode cX6_magazine 43 = .ok (.ireturn, 1) := by decide +kernel
theorem dX6_magazine_44 : decode cX6_magazine 44 = .ok (.iload_n 3, 1) := by decide +kernel
theorem dX6_magazine_45 : decode cX6_magazine 45 = .ok (.iconst 2, 1) := by decide +kernel
theorem dX6_magazine_46 : decode cX6_magazine 46 = .ok (.if_icmp .ne 12, 3) := by decide +kernel
theorem dX6_magazine_49 : decode cX6_magazine 49 = .ok (.aload_n 0, 1) := by decide +kernel
theorem dX6_magazine_50 : decode cX6_magazine 50 = .ok (.getfield 81, 3) := by decide +kernel
theorem dX6_magazine_53 : decode cX6_magazine 53 = .ok (.iload_n 1, 1) := by decide +kernel
theorem dX6_magazine_54 : decode cX6_magazine 54 = .ok (.iaload, 1) := by decide +kernel
theorem dX6_magazine_55 : decode cX6_magazine 55 = .ok (.goto 18, 3) := by decide +kernel
theorem dX6_magazine_58 : decode cX6_magazine 58 = .ok (.aload_n 0, 1) := by decide +kernel
theorem dX6_magazine_59 : decode cX6_magazine 59 = .ok (.getfield 75, 3) := by decide +kernel
theorem dX6_magazine_62 : decode cX6_magazine 62 = .ok (.iconst 2, 1) := by decide +kernel
theorem dX6_magazine_63 : decode cX6_magazine 63 = .ok (.bipush 8, 2) := by decide +kernel
theorem dX6_magazine_65 : decode cX6_magazine 65 = .ok (.iload_n 2, 1) := by decide +kernel
theorem dX6_magazine_66 : decode cX6_magazine 66 = .ok (.imul, 1) := by decide +kernel
theorem dX6_magazine_67 : decode cX6_magazine 67 = .ok (.iload_n 1, 1) := by decide +kernel
theorem dX6_magazine_68 : decode cX6_magazine 68 = .ok (.iadd, 1) := by decide +kernel
theorem dX6_magazine_69 : decode cX6_magazine 69 = .ok (.imul, 1) := by decide +kernel
theorem dX6_magazine_70 : decode cX6_magazine 70 = .ok (.iload_n 3, 1) := by decide +kernel
theorem dX6_magazine_71 : decode cX6_magazine 71 = .ok (.iadd, 1) := by decide +kernel
theorem dX6_magazine_72 : decode cX6_magazine 72 = .ok (.iaload, 1) := by decide +kernel
theorem dX6_magazine_73 : decode cX6_magazine 73 = .ok (.ireturn, 1) := by decide +kernel
theorem dX6_block_0 : decode cX6_block 0 = .ok (.aload_n 0, 1) := by decide +kernel
theorem dX6_block_1 : decode cX6_block 1 = .ok (.iload_n 1, 1) := by decide +kernel
theorem dX6_block_2 : decode cX6_block 2 = .ok (.iconst 0, 1) := by decide +kernel
theorem dX6_block_3 : decode cX6_block 3 = .ok (.bipush 6, 2) := by decide +kernel
theorem dX6_block_5 : decode cX6_block 5 = .ok (.invokestatic 94, 3) := by decide +kernel
theorem dX6_block_8 : decode cX6_block 8 = .ok (.ifCond .eq 7, 3) := by decide +kernel
theorem dX6_block_11 : decode cX6_block 11 = .ok (.iconst 0, 1) := by decide +kernel
theorem dX6_block_12 : decode cX6_block 12 = .ok (.goto 4, 3) := by decide +kernel
theorem dX6_block_15 : decode cX6_block 15 = .ok (.iconst 1, 1) := by decide +kernel
theorem dX6_block_16 : decode cX6_block 16 = .ok (.invokevirtual 134, 3) := by decide +kernel
theorem dX6_block_19 : decode cX6_block 19 = .ok (.ifCond .eq 5, 3) := by decide +kernel
theorem dX6_block_22 : decode cX6_block 22 = .ok (.iconst 0, 1) := by decide +kernel
theorem dX6_block_23 : decode cX6_block 23 = .ok (.ireturn, 1) := by decide +kernel
theorem dX6_block_24 : decode cX6_block 24 = .ok (.iconst 0, 1) := by decide +kernel
theorem dX6_block_25 : decode cX6_block 25 = .ok (.istore_n 3, 1) := by decide +kernel
theorem dX6_block_26 : decode cX6_block 26 = .ok (.iconst 0, 1) := by decide +kernel
theorem dX6_block_27 : decode cX6_block 27 = .ok (.istore 4, 2) := by decide +kernel
theorem dX6_block_29 : decode cX6_block 29 = .ok (.iload 4, 2) := by decide +kernel
theorem dX6_block_31 : decode cX6_block 31 = .ok (.sipush 256, 3) := by decide +kernel
theorem dX6_block_34 : decode cX6_block 34 = .ok (.if_icmp .ge 31, 3) := by decide +kernel
theorem dX6_block_37 : decode cX6_block 37 = .ok (.aload_n 0, 1) := by decide +kernel
theorem dX6_block_38 : decode cX6_block 38 = .ok (.getfield 7, 3) := by decide +kernel
theorem dX6_block_41 : decode cX6_block 41 = .ok (.iload 4, 2) := by decide +kernel
theorem dX6_block_43 : decode cX6_block 43 = .ok (.iaload, 1) := by decide +kernel
theorem dX6_block_44 : decode cX6_block 44 = .ok (.iload_n 1, 1) := by decide +kernel
theorem dX6_block_45 : decode cX6_block 45 = .ok (.if_icmp .ne 14, 3) := by decide +kernel
theorem dX6_block_48 : decode cX6_block 48 = .ok (.iload_n 3, 1) := by decide +kernel
theorem dX6_block_49 : decode cX6_block 49 = .ok (.iload_n 2, 1) := by decide +kernel
theorem dX6_block_50 : decode cX6_block 50 = .ok (.if_icmp .ne 6, 3) := by decide +kernel
theorem dX6_block_53 : decode cX6_block 53 = .ok (.iload 4, 2) := by decide +kernel
theorem dX6_block_55 : decode cX6_block 55 = .ok (.ireturn, 1) := by decide +kernel
theorem dX6_block_56 : decode cX6_block 56 = .ok (.iinc 3 1, 3) := by decide +kernel
theorem dX6_block_59 : decode cX6_block 59 = .ok (.iinc 4 1, 3) := by decide +kernel
theorem dX6_block_62 : decode cX6_block 62 = .ok (.goto (-33), 3) := by decide +kernel
theorem dX6_block_65 : decode cX6_block 65 = .ok (.iconst (-1), 1) := by decide +kernel
theorem dX6_block_66 : decode cX6_block 66 = .ok (.ireturn, 1) := by decide +kernel
theorem dX6_pages_0 : decode cX6_pages 0 = .ok (.aload_n 0, 1) := by decide +kernel
theorem dX6_pages_1 : decode cX6_pages 1 = .ok (.iconst 0, 1) := by decide +kernel
theorem dX6_pages_2 : decode cX6_pages 2 = .ok (.putfield 87, 3) := by decide +kernel
theorem dX6_pages_5 : decode cX6_pages 5 = .ok (.iconst 0, 1) := by decide +kernel
theorem dX6_pages_6 : decode cX6_pages 6 = .ok (.istore_n 2, 1) := by decide +kernel
theorem dX6_pages_7 : decode cX6_pages 7 = .ok (.iconst 0, 1) := by decide +kernel
theorem dX6_pages_8 : decode cX6_pages 8 = .ok (.istore_n 3, 1) := by decide +kernel
theorem dX6_pages_9 : decode cX6_pages 9 = .ok (.iload_n 3, 1) := by decide +kernel
theorem dX6_pages_10 : decode cX6_pages 10 = .ok (.sipush 256, 3) := by decide +kernel
theorem dX6_pages_13 : decode cX6_pages 13 = .ok (.if_icmp .ge 26, 3) := by decide +kernel
theorem dX6_pages_16 : decode cX6_pages 16 = .ok (.aload_n 0, 1) := by decide +kernel
theorem dX6_pages_17 : decode cX6_pages 17 = .ok (.getfield 13, 3) := by decide +kernel
theorem dX6_pages_20 : decode cX6_pages 20 = .ok (.iload_n 3, 1) := by decide +kernel
theorem dX6_pages_21 : decode cX6_pages 21 = .ok (.iaload, 1) := by decide +kernel
theorem dX6_pages_22 : decode cX6_pages 22 = .ok (.ifCond .lt 9, 3) := by decide +kernel
theorem dX6_pages_25 : decode cX6_pages 25 = .ok (.iload_n 2, 1) := by decide +kernel
theorem dX6_pages_26 : decode cX6_pages 26 = .ok (.iconst 1, 1) := by decide +kernel
theorem dX6_pages_27 : decode cX6_pages 27 = .ok (.iadd, 1) := by decide +kernel
theorem dX6_pages_28 : decode cX6_pages 28 = .ok (.goto 4, 3) := by decide +kernel
theorem dX6_pages_31 : decode cX6_pages 31 = .ok (.iload_n 2, 1) := by decide +kernel
theorem dX6_pages_32 : decode cX6_pages 32 = .ok (.istore_n 2, 1) := by decide +kernel
theorem dX6_pages_33 : decode cX6_pages 33 = .ok (.iinc 3 1, 3) := by decide +kernel
theorem dX6_pages_36 : decode cX6_pages 36 = .ok (.goto (-27), 3) := by decide +kernel
theorem dX6_pages_39 : decode cX6_pages 39 = .ok (.iload_n 1, 1) := by decide +kernel
theorem dX6_pages_40 : decode cX6_pages 40 = .ok (.ifCond .ne 11, 3) := by decide +kernel
theorem dX6_pages_43 : decode cX6_pages 43 = .ok (.sipush 256, 3) := by decide +kernel
theorem dX6_pages_46 : decode cX6_pages 46 = .ok (.iload_n 2, 1) := by decide +kernel
theorem dX6_pages_47 : decode cX6_pages 47 = .ok (.isub, 1) := by decide +kernel
theorem dX6_pages_48 : decode cX6_pages 48 = .ok (.goto 13, 3) := by decide +kernel
theorem dX6_pages_51 : decode cX6_pages 51 = .ok (.iload_n 1, 1) := by decide +kernel
theorem dX6_pages_52 : decode cX6_pages 52 = .ok (.iconst 1, 1) := by decide +kernel
theorem dX6_pages_53 : decode cX6_pages 53 = .ok (.if_icmp .ne 7, 3) := by decide +kernel
theorem dX6_pages_56 : decode cX6_pages 56 = .ok (.iload_n 2, 1) := by decide +kernel
theorem dX6_pages_57 : decode cX6_pages 57 = .ok (.goto 4, 3) := by decide +kernel
theorem dX6_pages_60 : decode cX6_pages 60 = .ok (.iconst (-1), 1) := by decide +kernel
theorem dX6_pages_61 : decode cX6_pages 61 = .ok (.ireturn, 1) := by decide +kernel
theorem dJ9_max_7cf53_0 : decode cJ9_max_7cf53 0 = .ok (.iload_n 0, 1) := by decide +kernel
theorem dJ9_max_7cf53_1 : decode cJ9_max_7cf53 1 = .ok (.iload_n 1, 1) := by decide +kernel
theorem dJ9_max_7cf53_2 : decode cJ9_max_7cf53 2 = .ok (.if_icmp .lt 7, 3) := by decide +kernel
theorem dJ9_max_7cf53_5 : decode cJ9_max_7cf53 5 = .ok (.iload_n 0, 1) := by decide +kernel
theorem dJ9_max_7cf53_6 : decode cJ9_max_7cf53 6 = .ok (.goto 4, 3) := by decide +kernel
theorem dJ9_max_7cf53_9 : decode cJ9_max_7cf53 9 = .ok (.iload_n 1, 1) := by decide +kernel
theorem dJ9_max_7cf53_10 : decode cJ9_max_7cf53 10 = .ok (.ireturn, 1) := by decide +kernel
theorem dJ9_min_7cf53_0 : decode cJ9_min_7cf53 0 = .ok (.iload_n 0, 1) := by decide +kernel
theorem dJ9_min_7cf53_1 : decode cJ9_min_7cf53 1 = .ok (.iload_n 1, 1) := by decide +kernel
theorem dJ9_min_7cf53_2 : decode cJ9_min_7cf53 2 = .ok (.if_icmp .gt 7, 3) := by decide +kernel
theorem dJ9_min_7cf53_5 : decode cJ9_min_7cf53 5 = .ok (.iload_n 0, 1) := by decide +kernel
theorem dJ9_min_7cf53_6 : decode cJ9_min_7cf53 6 = .ok (.goto 4, 3) := by decide +kernel
theorem dJ9_min_7cf53_9 : decode cJ9_min_7cf53 9 = .ok (.iload_n 1, 1) := by decide +kernel
theorem dJ9_min_7cf53_10 : decode cJ9_min_7cf53 10 = .ok (.ireturn, 1) := by decide +kernel
theorem dJ7_fill_53178_0 : decode cJ7_fill_53178 0 = .ok (.iconst 0, 1) := by decide +kernel
theorem dJ7_fill_53178_1 : decode cJ7_fill_53178 1 = .ok (.istore_n 2, 1) := by decide +kernel
theorem dJ7_fill_53178_2 : decode cJ7_fill_53178 2 = .ok (.aload_n 0, 1) := by decide +kernel
theorem dJ7_fill_53178_3 : decode cJ7_fill_53178 3 = .ok (.arraylength, 1) := by decide +kernel
theorem dJ7_fill_53178_4 : decode cJ7_fill_53178 4 = .ok (.istore_n 3, 1) := by decide +kernel
theorem dJ7_fill_53178_5 : decode cJ7_fill_53178 5 = .ok (.iload_n 2, 1) := by decide +kernel
theorem dJ7_fill_53178_6 : decode cJ7_fill_53178 6 = .ok (.iload_n 3, 1) := by decide +kernel
theorem dJ7_fill_53178_7 : decode cJ7_fill_53178 7 = .ok (.if_icmp .ge 13, 3) := by decide +kernel
theorem dJ7_fill_53178_10 : decode cJ7_fill_53178 10 = .ok (.aload_n 0, 1) := by decide +kernel
theorem dJ7_fill_53178_11 : decode cJ7_fill_53178 11 = .ok (.iload_n 2, 1) := by decide +kernel
theorem dJ7_fill_53178_12 : decode cJ7_fill_53178 12 = .ok (.iload_n 1, 1) := by decide +kernel
theorem dJ7_fill_53178_13 : decode cJ7_fill_53178 13 = .ok (.iastore, 1) := by decide +kernel
theorem dJ7_fill_53178_14 : decode cJ7_fill_53178 14 = .ok (.iinc 2 1, 3) := by decide +kernel
theorem dJ7_fill_53178_17 : decode cJ7_fill_53178 17 = .ok (.goto (-12), 3) := by decide +kernel
theorem dJ7_fill_53178_20 : decode cJ7_fill_53178 20 = .ok (.return_, 1) := by decide +kernel
theorem dJ7_copyOf_59c91_0 : decode cJ7_copyOf_59c91 0 = .ok (.iload_n 1, 1) := by decide +kernel
theorem dJ7_copyOf_59c91_1 : decode cJ7_copyOf_59c91 1 = .ok (.aload_n 0, 1) := by decide +kernel
theorem dJ7_copyOf_59c91_2 : decode cJ7_copyOf_59c91 2 = .ok (.arraylength, 1) := by decide +kernel
theorem dJ7_copyOf_59c91_3 : decode cJ7_copyOf_59c91 3 = .ok (.if_icmp .ne 11, 3) := by decide +kernel
theorem dJ7_copyOf_59c91_6 : decode cJ7_copyOf_59c91 6 = .ok (.aload_n 0, 1) := by decide +kernel
theorem dJ7_copyOf_59c91_7 : decode cJ7_copyOf_59c91 7 = .ok (.invokevirtual 316, 3) := by decide +kernel
theorem dJ7_copyOf_59c91_10 : decode cJ7_copyOf_59c91 10 = .ok (.checkcast 317, 3) := by decide +kernel
theorem dJ7_copyOf_59c91_13 : decode cJ7_copyOf_59c91 13 = .ok (.areturn, 1) := by decide +kernel
theorem dJ7_copyOf_59c91_14 : decode cJ7_copyOf_59c91 14 = .ok (.iload_n 1, 1) := by decide +kernel
theorem dJ7_copyOf_59c91_15 : decode cJ7_copyOf_59c91 15 = .ok (.newarray .int, 2) := by decide +kernel
theorem dJ7_copyOf_59c91_17 : decode cJ7_copyOf_59c91 17 = .ok (.astore_n 2, 1) := by decide +kernel
theorem dJ7_copyOf_59c91_18 : decode cJ7_copyOf_59c91 18 = .ok (.aload_n 0, 1) := by decide +kernel
theorem dJ7_copyOf_59c91_19 : decode cJ7_copyOf_59c91 19 = .ok (.iconst 0, 1) := by decide +kernel
theorem dJ7_copyOf_59c91_20 : decode cJ7_copyOf_59c91 20 = .ok (.aload_n 2, 1) := by decide +kernel
theorem dJ7_copyOf_59c91_21 : decode cJ7_copyOf_59c91 21 = .ok (.iconst 0, 1) := by decide +kernel
theorem dJ7_copyOf_59c91_22 : decode cJ7_copyOf_59c91 22 = .ok (.aload_n 0, 1) := by decide +kernel
theorem dJ7_copyOf_59c91_23 : decode cJ7_copyOf_59c91 23 = .ok (.arraylength, 1) := by decide +kernel
theorem dJ7_copyOf_59c91_24 : decode cJ7_copyOf_59c91 24 = .ok (.iload_n 1, 1) := by decide +kernel
theorem dJ7_copyOf_59c91_25 : decode cJ7_copyOf_59c91 25 = .ok (.invokestatic 304, 3) := by decide +kernel
theorem dJ7_copyOf_59c91_28 : decode cJ7_copyOf_59c91 28 = .ok (.invokestatic 150, 3) := by decide +kernel
theorem dJ7_copyOf_59c91_31 : decode cJ7_copyOf_59c91 31 = .ok (.aload_n 2, 1) := by decide +kernel
theorem dJ7_copyOf_59c91_32 : decode cJ7_copyOf_59c91 32 = .ok (.areturn, 1) := by decide +kernel
theorem dL_cache_0 : decode cL_cache 0 = .ok (.aload 5, 2) := by decide +kernel
theorem dL_cache_2 : decode cL_cache 2 = .ok (.iconst 0, 1) := by decide +kernel
theorem dL_cache_3 : decode cL_cache 3 = .ok (.aload_n 0, 1) := by decide +kernel
theorem dL_cache_4 : decode cL_cache 4 = .ok (.iload_n 1, 1) := by decide +kernel
theorem dL_cache_5 : decode cL_cache 5 = .ok (.iload_n 2, 1) := by decide +kernel
theorem dL_cache_6 : decode cL_cache 6 = .ok (.iload_n 3, 1) := by decide +kernel
theorem dL_cache_7 : decode cL_cache 7 = .ok (.iload 4, 2) := by decide +kernel
theorem dL_cache_9 : decode cL_cache 9 = .ok (.invokevirtual 7, 3) := by decide +kernel
theorem dL_cache_12 : decode cL_cache 12 = .ok (.i2l, 1) := by decide +kernel
theorem dL_cache_13 : decode cL_cache 13 = .ok (.lastore, 1) := by decide +kernel
theorem dL_cache_14 : decode cL_cache 14 = .ok (.goto 7, 3) := by decide +kernel
theorem dL_cache_17 : decode cL_cache 17 = .ok (.astore 6, 2) := by decide +kernel
theorem dL_cache_19 : decode cL_cache 19 = .ok (.iconst 1, 1) := by decide +kernel
theorem dL_cache_20 : decode cL_cache 20 = .ok (.ireturn, 1) := by decide +kernel
theorem dL_cache_21 : decode cL_cache 21 = .ok (.iconst 0, 1) := by decide +kernel
theorem dL_cache_22 : decode cL_cache 22 = .ok (.ireturn, 1) := by decide +kernel
theorem dL_drop_0 : decode cL_drop 0 = .ok (.aload_n 2, 1) := by decide +kernel
theorem dL_drop_1 : decode cL_drop 1 = .ok (.iconst 0, 1) := by decide +kernel
theorem dL_drop_2 : decode cL_drop 2 = .ok (.aload_n 0, 1) := by decide +kernel
theorem dL_drop_3 : decode cL_drop 3 = .ok (.iload_n 1, 1) := by decide +kernel
theorem dL_drop_4 : decode cL_drop 4 = .ok (.invokevirtual 15, 3) := by decide +kernel
theorem dL_drop_7 : decode cL_drop 7 = .ok (.i2l, 1) := by decide +kernel
theorem dL_drop_8 : decode cL_drop 8 = .ok (.lastore, 1) := by decide +kernel
theorem dL_drop_9 : decode cL_drop 9 = .ok (.goto 9, 3) := by decide +kernel
theorem dL_drop_12 : decode cL_drop 12 = .ok (.astore_n 3, 1) := by decide +kernel
theorem dL_drop_13 : decode cL_drop 13 = .ok (.iconst 1, 1) := by decide +kernel
theorem dL_drop_14 : decode cL_drop 14 = .ok (.ireturn, 1) := by decide +kernel
theorem dL_drop_15 : decode cL_drop 15 = .ok (.astore_n 3, 1) := by decide +kernel
theorem dL_drop_16 : decode cL_drop 16 = .ok (.iconst 2, 1) := by decide +kernel
theorem dL_drop_17 : decode cL_drop 17 = .ok (.ireturn, 1) := by decide +kernel
theorem dL_drop_18 : decode cL_drop 18 = .ok (.iconst 0, 1) := by decide +kernel
theorem dL_drop_19 : decode cL_drop 19 = .ok (.ireturn, 1) := by decide +kernel
theorem dL_allocate_0 : decode cL_allocate 0 = .ok (.aload_n 3, 1) := by decide +kernel
theorem dL_allocate_1 : decode cL_allocate 1 = .ok (.iconst 0, 1) := by decide +kernel
theorem dL_allocate_2 : decode cL_allocate 2 = .ok (.aload_n 0, 1) := by decide +kernel
theorem dL_allocate_3 : decode cL_allocate 3 = .ok (.iload_n 1, 1) := by decide +kernel
theorem dL_allocate_4 : decode cL_allocate 4 = .ok (.iload_n 2, 1) := by decide +kernel
theorem dL_allocate_5 : decode cL_allocate 5 = .ok (.invokevirtual 23, 3) := by decide +kernel
theorem dL_allocate_8 : decode cL_allocate 8 = .ok (.i2l, 1) := by decide +kernel
theorem dL_allocate_9 : decode cL_allocate 9 = .ok (.lastore, 1) := by decide +kernel
theorem dL_allocate_10 : decode cL_allocate 10 = .ok (.goto 11, 3) := by decide +kernel
theorem dL_allocate_13 : decode cL_allocate 13 = .ok (.astore 4, 2) := by decide +kernel
theorem dL_allocate_15 : decode cL_allocate 15 = .ok (.iconst 1, 1) := by decide +kernel
theorem dL_allocate_16 : decode cL_allocate 16 = .ok (.ireturn, 1) := by decide +kernel
theorem dL_allocate_17 : decode cL_allocate 17 = .ok (.astore 4, 2) := by decide +kernel
theorem dL_allocate_19 : decode cL_allocate 19 = .ok (.iconst 2, 1) := by decide +kernel
theorem dL_allocate_20 : decode cL_allocate 20 = .ok (.ireturn, 1) := by decide +kernel
theorem dL_allocate_21 : decode cL_allocate 21 = .ok (.iconst 0, 1) := by decide +kernel
theorem dL_allocate_22 : decode cL_allocate 22 = .ok (.ireturn, 1) := by decide +kernel
theorem dL_free_0 : decode cL_free 0 = .ok (.aload_n 3, 1) := by decide +kernel
theorem dL_free_1 : decode cL_free 1 = .ok (.iconst 0, 1) := by decide +kernel
theorem dL_free_2 : decode cL_free 2 = .ok (.aload_n 0, 1) := by decide +kernel
theorem dL_free_3 : decode cL_free 3 = .ok (.iload_n 1, 1) := by decide +kernel
theorem dL_free_4 : decode cL_free 4 = .ok (.iload_n 2, 1) := by decide +kernel
theorem dL_free_5 : decode cL_free 5 = .ok (.invokevirtual 27, 3) := by decide +kernel
theorem dL_free_8 : decode cL_free 8 = .ok (.i2l, 1) := by decide +kernel
theorem dL_free_9 : decode cL_free 9 = .ok (.lastore, 1) := by decide +kernel
theorem dL_free_10 : decode cL_free 10 = .ok (.goto 15, 3) := by decide +kernel
theorem dL_free_13 : decode cL_free 13 = .ok (.astore 4, 2) := by decide +kernel
theorem dL_free_15 : decode cL_free 15 = .ok (.iconst 1, 1) := by decide +kernel
theorem dL_free_16 : decode cL_free 16 = .ok (.ireturn, 1) := by decide +kernel
theorem dL_free_17 : decode cL_free 17 = .ok (.astore 4, 2) := by decide +kernel
theorem dL_free_19 : decode cL_free 19 = .ok (.iconst 2, 1) := by decide +kernel
theorem dL_free_20 : decode cL_free 20 = .ok (.ireturn, 1) := by decide +kernel
theorem dL_free_21 : decode cL_free 21 = .ok (.astore 4, 2) := by decide +kernel
theorem dL_free_23 : decode cL_free 23 = .ok (.iconst 3, 1) := by decide +kernel
theorem dL_free_24 : decode cL_free 24 = .ok (.ireturn, 1) := by decide +kernel
theorem dL_free_25 : decode cL_free 25 = .ok (.iconst 0, 1) := by decide +kernel
theorem dL_free_26 : decode cL_free 26 = .ok (.ireturn, 1) := by decide +kernel
theorem dL_mark_0 : decode cL_mark 0 = .ok (.aload_n 3, 1) := by decide +kernel
theorem dL_mark_1 : decode cL_mark 1 = .ok (.iconst 0, 1) := by decide +kernel
theorem dL_mark_2 : decode cL_mark 2 = .ok (.aload_n 0, 1) := by decide +kernel
theorem dL_mark_3 : decode cL_mark 3 = .ok (.iload_n 1, 1) := by decide +kernel
theorem dL_mark_4 : decode cL_mark 4 = .ok (.iload_n 2, 1) := by decide +kernel
theorem dL_mark_5 : decode cL_mark 5 = .ok (.invokevirtual 30, 3) := by decide +kernel
theorem dL_mark_8 : decode cL_mark 8 = .ok (.i2l, 1) := by decide +kernel
theorem dL_mark_9 : decode cL_mark 9 = .ok (.lastore, 1) := by decide +kernel
theorem dL_mark_10 : decode cL_mark 10 = .ok (.goto 7, 3) := by decide +kernel
theorem dL_mark_13 : decode cL_mark 13 = .ok (.astore 4, 2) := by decide +kernel
theorem dL_mark_15 : decode cL_mark 15 = .ok (.iconst 1, 1) := by decide +kernel
theorem dL_mark_16 : decode cL_mark 16 = .ok (.ireturn, 1) := by decide +kernel
theorem dL_mark_17 : decode cL_mark 17 = .ok (.iconst 0, 1) := by decide +kernel
theorem dL_mark_18 : decode cL_mark 18 = .ok (.ireturn, 1) := by decide +kernel
theorem dL_flush_0 : decode cL_flush 0 = .ok (.aload_n 2, 1) := by decide +kernel
theorem dL_flush_1 : decode cL_flush 1 = .ok (.iconst 0, 1) := by decide +kernel
theorem dL_flush_2 : decode cL_flush 2 = .ok (.aload_n 0, 1) := by decide +kernel
theorem dL_flush_3 : decode cL_flush 3 = .ok (.iload_n 1, 1) := by decide +kernel
theorem dL_flush_4 : decode cL_flush 4 = .ok (.invokevirtual 33, 3) := by decide +kernel
theorem dL_flush_7 : decode cL_flush 7 = .ok (.i2l, 1) := by decide +kernel
theorem dL_flush_8 : decode cL_flush 8 = .ok (.lastore, 1) := by decide +kernel
theorem dL_flush_9 : decode cL_flush 9 = .ok (.goto 6, 3) := by decide +kernel
theorem dL_flush_12 : decode cL_flush 12 = .ok (.astore_n 3, 1) := by decide +kernel
theorem dL_flush_13 : decode cL_flush 13 = .ok (.iconst 1, 1) := by decide +kernel
theorem dL_flush_14 : decode cL_flush 14 = .ok (.ireturn, 1) := by decide +kernel
theorem dL_flush_15 : decode cL_flush 15 = .ok (.iconst 0, 1) := by decide +kernel
theorem dL_flush_16 : decode cL_flush 16 = .ok (.ireturn, 1) := by decide +kernel
theorem dL_empty_0 : decode cL_empty 0 = .ok (.aload_n 2, 1) := by decide +kernel
theorem dL_empty_1 : decode cL_empty 1 = .ok (.iconst 0, 1) := by decide +kernel
theorem dL_empty_2 : decode cL_empty 2 = .ok (.aload_n 0, 1) := by decide +kernel
theorem dL_empty_3 : decode cL_empty 3 = .ok (.iload_n 1, 1) := by decide +kernel
theorem dL_empty_4 : decode cL_empty 4 = .ok (.invokevirtual 36, 3) := by decide +kernel
theorem dL_empty_7 : decode cL_empty 7 = .ok (.i2l, 1) := by decide +kernel
theorem dL_empty_8 : decode cL_empty 8 = .ok (.lastore, 1) := by decide +kernel
theorem dL_empty_9 : decode cL_empty 9 = .ok (.goto 6, 3) := by decide +kernel
theorem dL_empty_12 : decode cL_empty 12 = .ok (.astore_n 3, 1) := by decide +kernel
theorem dL_empty_13 : decode cL_empty 13 = .ok (.iconst 1, 1) := by decide +kernel
theorem dL_empty_14 : decode cL_empty 14 = .ok (.ireturn, 1) := by decide +kernel
theorem dL_empty_15 : decode cL_empty 15 = .ok (.iconst 0, 1) := by decide +kernel
theorem dL_empty_16 : decode cL_empty 16 = .ok (.ireturn, 1) := by decide +kernel
theorem dL_about_0 : decode cL_about 0 = .ok (.aload_n 3, 1) := by decide +kernel
theorem dL_about_1 : decode cL_about 1 = .ok (.iconst 0, 1) := by decide +kernel
theorem dL_about_2 : decode cL_about 2 = .ok (.aload_n 0, 1) := by decide +kernel
theorem dL_about_3 : decode cL_about 3 = .ok (.iload_n 1, 1) := by decide +kernel
theorem dL_about_4 : decode cL_about 4 = .ok (.iload_n 2, 1) := by decide +kernel
theorem dL_about_5 : decode cL_about 5 = .ok (.invokevirtual 39, 3) := by decide +kernel
theorem dL_about_8 : decode cL_about 8 = .ok (.i2l, 1) := by decide +kernel
theorem dL_about_9 : decode cL_about 9 = .ok (.lastore, 1) := by decide +kernel
theorem dL_about_10 : decode cL_about 10 = .ok (.goto 11, 3) := by decide +kernel
theorem dL_about_13 : decode cL_about 13 = .ok (.astore 4, 2) := by decide +kernel
theorem dL_about_15 : decode cL_about 15 = .ok (.iconst 1, 1) := by decide +kernel
theorem dL_about_16 : decode cL_about 16 = .ok (.ireturn, 1) := by decide +kernel
theorem dL_about_17 : decode cL_about 17 = .ok (.astore 4, 2) := by decide +kernel
theorem dL_about_19 : decode cL_about 19 = .ok (.iconst 2, 1) := by decide +kernel
theorem dL_about_20 : decode cL_about 20 = .ok (.ireturn, 1) := by decide +kernel
theorem dL_about_21 : decode cL_about 21 = .ok (.iconst 0, 1) := by decide +kernel
theorem dL_about_22 : decode cL_about 22 = .ok (.ireturn, 1) := by decide +kernel
theorem dL_list_0 : decode cL_list 0 = .ok (.aload 4, 2) := by decide +kernel
theorem dL_list_2 : decode cL_list 2 = .ok (.iconst 0, 1) := by decide +kernel
theorem dL_list_3 : decode cL_list 3 = .ok (.aload_n 0, 1) := by decide +kernel
theorem dL_list_4 : decode cL_list 4 = .ok (.iload_n 1, 1) := by decide +kernel
theorem dL_list_5 : decode cL_list 5 = .ok (.iload_n 2, 1) := by decide +kernel
theorem dL_list_6 : decode cL_list 6 = .ok (.iload_n 3, 1) := by decide +kernel
theorem dL_list_7 : decode cL_list 7 = .ok (.invokevirtual 42, 3) := by decide +kernel
theorem dL_list_10 : decode cL_list 10 = .ok (.i2l, 1) := by decide +kernel
theorem dL_list_11 : decode cL_list 11 = .ok (.lastore, 1) := by decide +kernel
theorem dL_list_12 : decode cL_list 12 = .ok (.goto 11, 3) := by decide +kernel
theorem dL_list_15 : decode cL_list 15 = .ok (.astore 5, 2) := by decide +kernel
theorem dL_list_17 : decode cL_list 17 = .ok (.iconst 1, 1) := by decide +kernel
theorem dL_list_18 : decode cL_list 18 = .ok (.ireturn, 1) := by decide +kernel
theorem dL_list_19 : decode cL_list 19 = .ok (.astore 5, 2) := by decide +kernel
theorem dL_list_21 : decode cL_list 21 = .ok (.iconst 2, 1) := by decide +kernel
theorem dL_list_22 : decode cL_list 22 = .ok (.ireturn, 1) := by decide +kernel
theorem dL_list_23 : decode cL_list 23 = .ok (.iconst 0, 1) := by decide +kernel
theorem dL_list_24 : decode cL_list 24 = .ok (.ireturn, 1) := by decide +kernel
theorem dL_slab_0 : decode cL_slab 0 = .ok (.aload_n 3, 1) := by decide +kernel
theorem dL_slab_1 : decode cL_slab 1 = .ok (.iconst 0, 1) := by decide +kernel
theorem dL_slab_2 : decode cL_slab 2 = .ok (.aload_n 0, 1) := by decide +kernel
theorem dL_slab_3 : decode cL_slab 3 = .ok (.iload_n 1, 1) := by decide +kernel
theorem dL_slab_4 : decode cL_slab 4 = .ok (.iload_n 2, 1) := by decide +kernel
theorem dL_slab_5 : decode cL_slab 5 = .ok (.invokevirtual 46, 3) := by decide +kernel
theorem dL_slab_8 : decode cL_slab 8 = .ok (.i2l, 1) := by decide +kernel
theorem dL_slab_9 : decode cL_slab 9 = .ok (.lastore, 1) := by decide +kernel
theorem dL_slab_10 : decode cL_slab 10 = .ok (.goto 11, 3) := by decide +kernel
theorem dL_slab_13 : decode cL_slab 13 = .ok (.astore 4, 2) := by decide +kernel
theorem dL_slab_15 : decode cL_slab 15 = .ok (.iconst 1, 1) := by decide +kernel
theorem dL_slab_16 : decode cL_slab 16 = .ok (.ireturn, 1) := by decide +kernel
theorem dL_slab_17 : decode cL_slab 17 = .ok (.astore 4, 2) := by decide +kernel
theorem dL_slab_19 : decode cL_slab 19 = .ok (.iconst 2, 1) := by decide +kernel
theorem dL_slab_20 : decode cL_slab 20 = .ok (.ireturn, 1) := by decide +kernel
theorem dL_slab_21 : decode cL_slab 21 = .ok (.iconst 0, 1) := by decide +kernel
theorem dL_slab_22 : decode cL_slab 22 = .ok (.ireturn, 1) := by decide +kernel
theorem dL_magazine_0 : decode cL_magazine 0 = .ok (.aload 4, 2) := by decide +kernel
theorem dL_magazine_2 : decode cL_magazine 2 = .ok (.iconst 0, 1) := by decide +kernel
theorem dL_magazine_3 : decode cL_magazine 3 = .ok (.aload_n 0, 1) := by decide +kernel
theorem dL_magazine_4 : decode cL_magazine 4 = .ok (.iload_n 1, 1) := by decide +kernel
theorem dL_magazine_5 : decode cL_magazine 5 = .ok (.iload_n 2, 1) := by decide +kernel
theorem dL_magazine_6 : decode cL_magazine 6 = .ok (.iload_n 3, 1) := by decide +kernel
theorem dL_magazine_7 : decode cL_magazine 7 = .ok (.invokevirtual 49, 3) := by decide +kernel
theorem dL_magazine_10 : decode cL_magazine 10 = .ok (.i2l, 1) := by decide +kernel
theorem dL_magazine_11 : decode cL_magazine 11 = .ok (.lastore, 1) := by decide +kernel
theorem dL_magazine_12 : decode cL_magazine 12 = .ok (.goto 11, 3) := by decide +kernel
theorem dL_magazine_15 : decode cL_magazine 15 = .ok (.astore 5, 2) := by decide +kernel
theorem dL_magazine_17 : decode cL_magazine 17 = .ok (.iconst 1, 1) := by decide +kernel
theorem dL_magazine_18 : decode cL_magazine 18 = .ok (.ireturn, 1) := by decide +kernel
theorem dL_magazine_19 : decode cL_magazine 19 = .ok (.astore 5, 2) := by decide +kernel
theorem dL_magazine_21 : decode cL_magazine 21 = .ok (.iconst 2, 1) := by decide +kernel
theorem dL_magazine_22 : decode cL_magazine 22 = .ok (.ireturn, 1) := by decide +kernel
theorem dL_magazine_23 : decode cL_magazine 23 = .ok (.iconst 0, 1) := by decide +kernel
theorem dL_magazine_24 : decode cL_magazine 24 = .ok (.ireturn, 1) := by decide +kernel
theorem dL_block_0 : decode cL_block 0 = .ok (.aload_n 3, 1) := by decide +kernel
theorem dL_block_1 : decode cL_block 1 = .ok (.iconst 0, 1) := by decide +kernel
theorem dL_block_2 : decode cL_block 2 = .ok (.aload_n 0, 1) := by decide +kernel
theorem dL_block_3 : decode cL_block 3 = .ok (.iload_n 1, 1) := by decide +kernel
theorem dL_block_4 : decode cL_block 4 = .ok (.iload_n 2, 1) := by decide +kernel
theorem dL_block_5 : decode cL_block 5 = .ok (.invokevirtual 52, 3) := by decide +kernel
theorem dL_block_8 : decode cL_block 8 = .ok (.i2l, 1) := by decide +kernel
theorem dL_block_9 : decode cL_block 9 = .ok (.lastore, 1) := by decide +kernel
theorem dL_block_10 : decode cL_block 10 = .ok (.goto 7, 3) := by decide +kernel
theorem dL_block_13 : decode cL_block 13 = .ok (.astore 4, 2) := by decide +kernel
theorem dL_block_15 : decode cL_block 15 = .ok (.iconst 1, 1) := by decide +kernel
theorem dL_block_16 : decode cL_block 16 = .ok (.ireturn, 1) := by decide +kernel
theorem dL_block_17 : decode cL_block 17 = .ok (.iconst 0, 1) := by decide +kernel
theorem dL_block_18 : decode cL_block 18 = .ok (.ireturn, 1) := by decide +kernel
theorem dL_law_0 : decode cL_law 0 = .ok (.new 8, 3) := by decide +kernel
theorem dL_law_3 : decode cL_law 3 = .ok (.dup, 1) := by decide +kernel
theorem dL_law_4 : decode cL_law 4 = .ok (.invokespecial 55, 3) := by decide +kernel
theorem dL_law_7 : decode cL_law 7 = .ok (.astore_n 1, 1) := by decide +kernel
theorem dL_law_8 : decode cL_law 8 = .ok (.new 56, 3) := by decide +kernel
theorem dL_law_11 : decode cL_law 11 = .ok (.dup, 1) := by decide +kernel
theorem dL_law_12 : decode cL_law 12 = .ok (.invokespecial 58, 3) := by decide +kernel
theorem dL_law_15 : decode cL_law 15 = .ok (.astore_n 2, 1) := by decide +kernel
theorem dL_law_16 : decode cL_law 16 = .ok (.iconst 1, 1) := by decide +kernel
theorem dL_law_17 : decode cL_law 17 = .ok (.newarray .long, 2) := by decide +kernel
theorem dL_law_19 : decode cL_law 19 = .ok (.astore_n 3, 1) := by decide +kernel
theorem dL_law_20 : decode cL_law 20 = .ok (.iconst 0, 1) := by decide +kernel
theorem dL_law_21 : decode cL_law 21 = .ok (.istore 4, 2) := by decide +kernel
theorem dL_law_23 : decode cL_law 23 = .ok (.iload 4, 2) := by decide +kernel
theorem dL_law_25 : decode cL_law 25 = .ok (.aload_n 0, 1) := by decide +kernel
theorem dL_law_26 : decode cL_law 26 = .ok (.arraylength, 1) := by decide +kernel
theorem dL_law_27 : decode cL_law 27 = .ok (.iconst 5, 1) := by decide +kernel
theorem dL_law_28 : decode cL_law 28 = .ok (.isub, 1) := by decide +kernel
theorem dL_law_29 : decode cL_law 29 = .ok (.if_icmp .gt 1009, 3) := by decide +kernel
theorem dL_law_32 : decode cL_law 32 = .ok (.aload_n 0, 1) := by decide +kernel
theorem dL_law_33 : decode cL_law 33 = .ok (.iload 4, 2) := by decide +kernel
theorem dL_law_35 : decode cL_law 35 = .ok (.iaload, 1) := by decide +kernel
theorem dL_law_36 : decode cL_law 36 = .ok (.bipush 15, 2) := by decide +kernel
theorem dL_law_38 : decode cL_law 38 = .ok (.iand, 1) := by decide +kernel
theorem dL_law_39 : decode cL_law 39 = .ok (.tableswitch 993 0 15 #[77, 169, 225, 293, 361, 429, 485, 541, 554, 579, 604, 672, 752, 820, 900, 968], 77) := by decide +kernel
theorem dL_law_116 : decode cL_law 116 = .ok (.aload_n 1, 1) := by decide +kernel
theorem dL_law_117 : decode cL_law 117 = .ok (.aload_n 0, 1) := by decide +kernel
theorem dL_law_118 : decode cL_law 118 = .ok (.iload 4, 2) := by decide +kernel
theorem dL_law_120 : decode cL_law 120 = .ok (.iconst 1, 1) := by decide +kernel
theorem dL_law_121 : decode cL_law 121 = .ok (.iadd, 1) := by decide +kernel
theorem dL_law_122 : decode cL_law 122 = .ok (.iaload, 1) := by decide +kernel
theorem dL_law_123 : decode cL_law 123 = .ok (.aload_n 0, 1) := by decide +kernel
theorem dL_law_124 : decode cL_law 124 = .ok (.iload 4, 2) := by decide +kernel
theorem dL_law_126 : decode cL_law 126 = .ok (.iconst 2, 1) := by decide +kernel
theorem dL_law_127 : decode cL_law 127 = .ok (.iadd, 1) := by decide +kernel
theorem dL_law_128 : decode cL_law 128 = .ok (.iaload, 1) := by decide +kernel
theorem dL_law_129 : decode cL_law 129 = .ok (.aload_n 0, 1) := by decide +kernel
theorem dL_law_130 : decode cL_law 130 = .ok (.iload 4, 2) := by decide +kernel
theorem dL_law_132 : decode cL_law 132 = .ok (.iconst 3, 1) := by decide +kernel
theorem dL_law_133 : decode cL_law 133 = .ok (.iadd, 1) := by decide +kernel
theorem dL_law_134 : decode cL_law 134 = .ok (.iaload, 1) := by decide +kernel
theorem dL_law_135 : decode cL_law 135 = .ok (.aload_n 0, 1) := by decide +kernel
theorem dL_law_136 : decode cL_law 136 = .ok (.iload 4, 2) := by decide +kernel
theorem dL_law_138 : decode cL_law 138 = .ok (.iconst 4, 1) := by decide +kernel
theorem dL_law_139 : decode cL_law 139 = .ok (.iadd, 1) := by decide +kernel
theorem dL_law_140 : decode cL_law 140 = .ok (.iaload, 1) := by decide +kernel
theorem dL_law_141 : decode cL_law 141 = .ok (.aload_n 3, 1) := by decide +kernel
theorem dL_law_142 : decode cL_law 142 = .ok (.invokestatic 59, 3) := by decide +kernel
theorem dL_law_145 : decode cL_law 145 = .ok (.istore 5, 2) := by decide +kernel
theorem dL_law_147 : decode cL_law 147 = .ok (.aload_n 2, 1) := by decide +kernel
theorem dL_law_148 : decode cL_law 148 = .ok (.aload_n 0, 1) := by decide +kernel
theorem dL_law_149 : decode cL_law 149 = .ok (.iload 4, 2) := by decide +kernel
theorem dL_law_151 : decode cL_law 151 = .ok (.iconst 1, 1) := by decide +kernel
theorem dL_law_152 : decode cL_law 152 = .ok (.iadd, 1) := by decide +kernel
theorem dL_law_153 : decode cL_law 153 = .ok (.iaload, 1) := by decide +kernel
theorem dL_law_154 : decode cL_law 154 = .ok (.aload_n 0, 1) := by decide +kernel
theorem dL_law_155 : decode cL_law 155 = .ok (.iload 4, 2) := by decide +kernel
theorem dL_law_157 : decode cL_law 157 = .ok (.iconst 2, 1) := by decide +kernel
theorem dL_law_158 : decode cL_law 158 = .ok (.iadd, 1) := by decide +kernel
theorem dL_law_159 : decode cL_law 159 = .ok (.iaload, 1) := by decide +kernel
theorem dL_law_160 : decode cL_law 160 = .ok (.aload_n 0, 1) := by decide +kernel
theorem dL_law_161 : decode cL_law 161 = .ok (.iload 4, 2) := by decide +kernel
theorem dL_law_163 : decode cL_law 163 = .ok (.iconst 3, 1) := by decide +kernel
theorem dL_law_164 : decode cL_law 164 = .ok (.iadd, 1) := by decide +kernel
theorem dL_law_165 : decode cL_law 165 = .ok (.iaload, 1) := by decide +kernel
theorem dL_law_166 : decode cL_law 166 = .ok (.aload_n 0, 1) := by decide +kernel
theorem dL_law_167 : decode cL_law 167 = .ok (.iload 4, 2) := by decide +kernel
theorem dL_law_169 : decode cL_law 169 = .ok (.iconst 4, 1) := by decide +kernel
theorem dL_law_170 : decode cL_law 170 = .ok (.iadd, 1) := by decide +kernel
theorem dL_law_171 : decode cL_law 171 = .ok (.iaload, 1) := by decide +kernel
theorem dL_law_172 : decode cL_law 172 = .ok (.invokevirtual 64, 3) := by decide +kernel
theorem dL_law_175 : decode cL_law 175 = .ok (.istore 6, 2) := by decide +kernel
theorem dL_law_177 : decode cL_law 177 = .ok (.aload_n 2, 1) := by decide +kernel
theorem dL_law_178 : decode cL_law 178 = .ok (.invokevirtual 65, 3) := by decide +kernel
theorem dL_law_181 : decode cL_law 181 = .ok (.iload 5, 2) := by decide +kernel
theorem dL_law_183 : decode cL_law 183 = .ok (.if_icmp .eq 5, 3) := by decide +kernel
theorem dL_law_186 : decode cL_law 186 = .ok (.iconst 0, 1) := by decide +kernel
theorem dL_law_187 : decode cL_law 187 = .ok (.ireturn, 1) := by decide +kernel
theorem dL_law_188 : decode cL_law 188 = .ok (.iload 5, 2) := by decide +kernel
theorem dL_law_190 : decode cL_law 190 = .ok (.ifCond .ne 15, 3) := by decide +kernel
theorem dL_law_193 : decode cL_law 193 = .ok (.aload_n 3, 1) := by decide +kernel
theorem dL_law_194 : decode cL_law 194 = .ok (.iconst 0, 1) := by decide +kernel
theorem dL_law_195 : decode cL_law 195 = .ok (.laload, 1) := by decide +kernel
theorem dL_law_196 : decode cL_law 196 = .ok (.iload 6, 2) := by decide +kernel
theorem dL_law_198 : decode cL_law 198 = .ok (.i2l, 1) := by decide +kernel
theorem dL_law_199 : decode cL_law 199 = .ok (.lcmp, 1) := by decide +kernel
theorem dL_law_200 : decode cL_law 200 = .ok (.ifCond .eq 5, 3) := by decide +kernel
theorem dL_law_203 : decode cL_law 203 = .ok (.iconst 0, 1) := by decide +kernel
theorem dL_law_204 : decode cL_law 204 = .ok (.ireturn, 1) := by decide +kernel
theorem dL_law_205 : decode cL_law 205 = .ok (.goto 827, 3) := by decide +kernel
theorem dL_law_208 : decode cL_law 208 = .ok (.aload_n 1, 1) := by decide +kernel
theorem dL_law_209 : decode cL_law 209 = .ok (.aload_n 0, 1) := by decide +kernel
theorem dL_law_210 : decode cL_law 210 = .ok (.iload 4, 2) := by decide +kernel
theorem dL_law_212 : decode cL_law 212 = .ok (.iconst 1, 1) := by decide +kernel
theorem dL_law_213 : decode cL_law 213 = .ok (.iadd, 1) := by decide +kernel
theorem dL_law_214 : decode cL_law 214 = .ok (.iaload, 1) := by decide +kernel
theorem dL_law_215 : decode cL_law 215 = .ok (.aload_n 3, 1) := by decide +kernel
theorem dL_law_216 : decode cL_law 216 = .ok (.invokestatic 69, 3) := by decide +kernel
theorem dL_law_219 : decode cL_law 219 = .ok (.istore 5, 2) := by decide +kernel
theorem dL_law_221 : decode cL_law 221 = .ok (.aload_n 2, 1) := by decide +kernel
theorem dL_law_222 : decode cL_law 222 = .ok (.aload_n 0, 1) := by decide +kernel
theorem dL_law_223 : decode cL_law 223 = .ok (.iload 4, 2) := by decide +kernel
theorem dL_law_225 : decode cL_law 225 = .ok (.iconst 1, 1) := by decide +kernel
theorem dL_law_226 : decode cL_law 226 = .ok (.iadd, 1) := by decide +kernel
theorem dL_law_227 : decode cL_law 227 = .ok (.iaload, 1) := by decide +kernel
theorem dL_law_228 : decode cL_law 228 = .ok (.invokevirtual 72, 3) := by decide +kernel
theorem dL_law_231 : decode cL_law 231 = .ok (.istore 6, 2) := by decide +kernel
theorem dL_law_233 : decode cL_law 233 = .ok (.aload_n 2, 1) := by decide +kernel
theorem dL_law_234 : decode cL_law 234 = .ok (.invokevirtual 65, 3) := by decide +kernel
theorem dL_law_237 : decode cL_law 237 = .ok (.iload 5, 2) := by decide +kernel
theorem dL_law_239 : decode cL_law 239 = .ok (.if_icmp .eq 5, 3) := by decide +kernel
theorem dL_law_242 : decode cL_law 242 = .ok (.iconst 0, 1) := by decide +kernel
theorem dL_law_243 : decode cL_law 243 = .ok (.ireturn, 1) := by decide +kernel
theorem dL_law_244 : decode cL_law 244 = .ok (.iload 5, 2) := by decide +kernel
theorem dL_law_246 : decode cL_law 246 = .ok (.ifCond .ne 15, 3) := by decide +kernel
theorem dL_law_249 : decode cL_law 249 = .ok (.aload_n 3, 1) := by decide +kernel
theorem dL_law_250 : decode cL_law 250 = .ok (.iconst 0, 1) := by decide +kernel
theorem dL_law_251 : decode cL_law 251 = .ok (.laload, 1) := by decide +kernel
theorem dL_law_252 : decode cL_law 252 = .ok (.iload 6, 2) := by decide +kernel
theorem dL_law_254 : decode cL_law 254 = .ok (.i2l, 1) := by decide +kernel
theorem dL_law_255 : decode cL_law 255 = .ok (.lcmp, 1) := by decide +kernel
theorem dL_law_256 : decode cL_law 256 = .ok (.ifCond .eq 5, 3) := by decide +kernel
theorem dL_law_259 : decode cL_law 259 = .ok (.iconst 0, 1) := by decide +kernel
theorem dL_law_260 : decode cL_law 260 = .ok (.ireturn, 1) := by decide +kernel
theorem dL_law_261 : decode cL_law 261 = .ok (.goto 771, 3) := by decide +kernel
theorem dL_law_264 : decode cL_law 264 = .ok (.aload_n 1, 1) := by decide +kernel
theorem dL_law_265 : decode cL_law 265 = .ok (.aload_n 0, 1) := by decide +kernel
theorem dL_law_266 : decode cL_law 266 = .ok (.iload 4, 2) := by decide +kernel
theorem dL_law_268 : decode cL_law 268 = .ok (.iconst 1, 1) := by decide +kernel
theorem dL_law_269 : decode cL_law 269 = .ok (.iadd, 1) := by decide +kernel
theorem dL_law_270 : decode cL_law 270 = .ok (.iaload, 1) := by decide +kernel
theorem dL_law_271 : decode cL_law 271 = .ok (.aload_n 0, 1) := by decide +kernel
theorem dL_law_272 : decode cL_law 272 = .ok (.iload 4, 2) := by decide +kernel
theorem dL_law_274 : decode cL_law 274 = .ok (.iconst 2, 1) := by decide +kernel
theorem dL_law_275 : decode cL_law 275 = .ok (.iadd, 1) := by decide +kernel
theorem dL_law_276 : decode cL_law 276 = .ok (.iaload, 1) := by decide +kernel
theorem dL_law_277 : decode cL_law 277 = .ok (.aload_n 3, 1) := by decide +kernel
theorem dL_law_278 : decode cL_law 278 = .ok (.invokestatic 73, 3) := by decide +kernel
theorem dL_law_281 : decode cL_law 281 = .ok (.istore 5, 2) := by decide +kernel
theorem dL_law_283 : decode cL_law 283 = .ok (.aload_n 2, 1) := by decide +kernel
theorem dL_law_284 : decode cL_law 284 = .ok (.aload_n 0, 1) := by decide +kernel
theorem dL_law_285 : decode cL_law 285 = .ok (.iload 4, 2) := by decide +kernel
theorem dL_law_287 : decode cL_law 287 = .ok (.iconst 1, 1) := by decide +kernel
theorem dL_law_288 : decode cL_law 288 = .ok (.iadd, 1) := by decide +kernel
theorem dL_law_289 : decode cL_law 289 = .ok (.iaload, 1) := by decide +kernel
theorem dL_law_290 : decode cL_law 290 = .ok (.aload_n 0, 1) := by decide +kernel
theorem dL_law_291 : decode cL_law 291 = .ok (.iload 4, 2) := by decide +kernel
theorem dL_law_293 : decode cL_law 293 = .ok (.iconst 2, 1) := by decide +kernel
theorem dL_law_294 : decode cL_law 294 = .ok (.iadd, 1) := by decide +kernel
theorem dL_law_295 : decode cL_law 295 = .ok (.iaload, 1) := by decide +kernel
theorem dL_law_296 : decode cL_law 296 = .ok (.invokevirtual 76, 3) := by decide +kernel
theorem dL_law_299 : decode cL_law 299 = .ok (.istore 6, 2) := by decide +kernel
theorem dL_law_301 : decode cL_law 301 = .ok (.aload_n 2, 1) := by decide +kernel
theorem dL_law_302 : decode cL_law 302 = .ok (.invokevirtual 65, 3) := by decide +kernel
theorem dL_law_305 : decode cL_law 305 = .ok (.iload 5, 2) := by decide +kernel
theorem dL_law_307 : decode cL_law 307 = .ok (.if_icmp .eq 5, 3) := by decide +kernel
theorem dL_law_310 : decode cL_law 310 = .ok (.iconst 0, 1) := by decide +kernel
theorem dL_law_311 : decode cL_law 311 = .ok (.ireturn, 1) := by decide +kernel
theorem dL_law_312 : decode cL_law 312 = .ok (.iload 5, 2) := by decide +kernel
theorem dL_law_314 : decode cL_law 314 = .ok (.ifCond .ne 15, 3) := by decide +kernel
theorem dL_law_317 : decode cL_law 317 = .ok (.aload_n 3, 1) := by decide +kernel
theorem dL_law_318 : decode cL_law 318 = .ok (.iconst 0, 1) := by decide +kernel
theorem dL_law_319 : decode cL_law 319 = .ok (.laload, 1) := by decide +kernel
theorem dL_law_320 : decode cL_law 320 = .ok (.iload 6, 2) := by decide +kernel
theorem dL_law_322 : decode cL_law 322 = .ok (.i2l, 1) := by decide +kernel
theorem dL_law_323 : decode cL_law 323 = .ok (.lcmp, 1) := by decide +kernel
theorem dL_law_324 : decode cL_law 324 = .ok (.ifCond .eq 5, 3) := by decide +kernel
theorem dL_law_327 : decode cL_law 327 = .ok (.iconst 0, 1) := by decide +kernel
theorem dL_law_328 : decode cL_law 328 = .ok (.ireturn, 1) := by decide +kernel
theorem dL_law_329 : decode cL_law 329 = .ok (.goto 703, 3) := by decide +kernel
theorem dL_law_332 : decode cL_law 332 = .ok (.aload_n 1, 1) := by decide +kernel
theorem dL_law_333 : decode cL_law 333 = .ok (.aload_n 0, 1) := by decide +kernel
theorem dL_law_334 : decode cL_law 334 = .ok (.iload 4, 2) := by decide +kernel
theorem dL_law_336 : decode cL_law 336 = .ok (.iconst 1, 1) := by decide +kernel
theorem dL_law_337 : decode cL_law 337 = .ok (.iadd, 1) := by decide +kernel
theorem dL_law_338 : decode cL_law 338 = .ok (.iaload, 1) := by decide +kernel
theorem dL_law_339 : decode cL_law 339 = .ok (.aload_n 0, 1) := by decide +kernel
theorem dL_law_340 : decode cL_law 340 = .ok (.iload 4, 2) := by decide +kernel
theorem dL_law_342 : decode cL_law 342 = .ok (.iconst 2, 1) := by decide +kernel
theorem dL_law_343 : decode cL_law 343 = .ok (.iadd, 1) := by decide +kernel
theorem dL_law_344 : decode cL_law 344 = .ok (.iaload, 1) := by decide +kernel
theorem dL_law_345 : decode cL_law 345 = .ok (.aload_n 3, 1) := by decide +kernel
theorem dL_law_346 : decode cL_law 346 = .ok (.invokestatic 77, 3) := by decide +kernel
theorem dL_law_349 : decode cL_law 349 = .ok (.istore 5, 2) := by decide +kernel
theorem dL_law_351 : decode cL_law 351 = .ok (.aload_n 2, 1) := by decide +kernel
theorem dL_law_352 : decode cL_law 352 = .ok (.aload_n 0, 1) := by decide +kernel
theorem dL_law_353 : decode cL_law 353 = .ok (.iload 4, 2) := by decide +kernel
theorem dL_law_355 : decode cL_law 355 = .ok (.iconst 1, 1) := by decide +kernel
theorem dL_law_356 : decode cL_law 356 = .ok (.iadd, 1) := by decide +kernel
theorem dL_law_357 : decode cL_law 357 = .ok (.iaload, 1) := by decide +kernel
theorem dL_law_358 : decode cL_law 358 = .ok (.aload_n 0, 1) := by decide +kernel
theorem dL_law_359 : decode cL_law 359 = .ok (.iload 4, 2) := by decide +kernel
theorem dL_law_361 : decode cL_law 361 = .ok (.iconst 2, 1) := by decide +kernel
theorem dL_law_362 : decode cL_law 362 = .ok (.iadd, 1) := by decide +kernel
theorem dL_law_363 : decode cL_law 363 = .ok (.iaload, 1) := by decide +kernel
theorem dL_law_364 : decode cL_law 364 = .ok (.invokevirtual 79, 3) := by decide +kernel
theorem dL_law_367 : decode cL_law 367 = .ok (.istore 6, 2) := by decide +kernel
theorem dL_law_369 : decode cL_law 369 = .ok (.aload_n 2, 1) := by decide +kernel
theorem dL_law_370 : decode cL_law 370 = .ok (.invokevirtual 65, 3) := by decide +kernel
theorem dL_law_373 : decode cL_law 373 = .ok (.iload 5, 2) := by decide +kernel
theorem dL_law_375 : decode cL_law 375 = .ok (.if_icmp .eq 5, 3) := by decide +kernel
theorem dL_law_378 : decode cL_law 378 = .ok (.iconst 0, 1) := by decide +kernel
theorem dL_law_379 : decode cL_law 379 = .ok (.ireturn, 1) := by decide +kernel
theorem dL_law_380 : decode cL_law 380 = .ok (.iload 5, 2) := by decide +kernel
theorem dL_law_382 : decode cL_law 382 = .ok (.ifCond .ne 15, 3) := by decide +kernel
theorem dL_law_385 : decode cL_law 385 = .ok (.aload_n 3, 1) := by decide +kernel
theorem dL_law_386 : decode cL_law 386 = .ok (.iconst 0, 1) := by decide +kernel
theorem dL_law_387 : decode cL_law 387 = .ok (.laload, 1) := by decide +kernel
theorem dL_law_388 : decode cL_law 388 = .ok (.iload 6, 2) := by decide +kernel
theorem dL_law_390 : decode cL_law 390 = .ok (.i2l, 1) := by decide +kernel
theorem dL_law_391 : decode cL_law 391 = .ok (.lcmp, 1) := by decide +kernel
theorem dL_law_392 : decode cL_law 392 = .ok (.ifCond .eq 5, 3) := by decide +kernel
theorem dL_law_395 : decode cL_law 395 = .ok (.iconst 0, 1) := by decide +kernel
theorem dL_law_396 : decode cL_law 396 = .ok (.ireturn, 1) := by decide +kernel
theorem dL_law_397 : decode cL_law 397 = .ok (.goto 635, 3) := by decide +kernel
theorem dL_law_400 : decode cL_law 400 = .ok (.aload_n 1, 1) := by decide +kernel
theorem dL_law_401 : decode cL_law 401 = .ok (.aload_n 0, 1) := by decide +kernel
theorem dL_law_402 : decode cL_law 402 = .ok (.iload 4, 2) := by decide +kernel
theorem dL_law_404 : decode cL_law 404 = .ok (.iconst 1, 1) := by decide +kernel
theorem dL_law_405 : decode cL_law 405 = .ok (.iadd, 1) := by decide +kernel
theorem dL_law_406 : decode cL_law 406 = .ok (.iaload, 1) := by decide +kernel
theorem dL_law_407 : decode cL_law 407 = .ok (.aload_n 0, 1) := by decide +kernel
theorem dL_law_408 : decode cL_law 408 = .ok (.iload 4, 2) := by decide +kernel
theorem dL_law_410 : decode cL_law 410 = .ok (.iconst 2, 1) := by decide +kernel
theorem dL_law_411 : decode cL_law 411 = .ok (.iadd, 1) := by decide +kernel
theorem dL_law_412 : decode cL_law 412 = .ok (.iaload, 1) := by decide +kernel
theorem dL_law_413 : decode cL_law 413 = .ok (.aload_n 3, 1) := by decide +kernel
theorem dL_law_414 : decode cL_law 414 = .ok (.invokestatic 80, 3) := by decide +kernel
theorem dL_law_417 : decode cL_law 417 = .ok (.istore 5, 2) := by decide +kernel
theorem dL_law_419 : decode cL_law 419 = .ok (.aload_n 2, 1) := by decide +kernel
theorem dL_law_420 : decode cL_law 420 = .ok (.aload_n 0, 1) := by decide +kernel
theorem dL_law_421 : decode cL_law 421 = .ok (.iload 4, 2) := by decide +kernel
theorem dL_law_423 : decode cL_law 423 = .ok (.iconst 1, 1) := by decide +kernel
theorem dL_law_424 : decode cL_law 424 = .ok (.iadd, 1) := by decide +kernel
theorem dL_law_425 : decode cL_law 425 = .ok (.iaload, 1) := by decide +kernel
theorem dL_law_426 : decode cL_law 426 = .ok (.aload_n 0, 1) := by decide +kernel
theorem dL_law_427 : decode cL_law 427 = .ok (.iload 4, 2) := by decide +kernel
theorem dL_law_429 : decode cL_law 429 = .ok (.iconst 2, 1) := by decide +kernel
theorem dL_law_430 : decode cL_law 430 = .ok (.iadd, 1) := by decide +kernel
theorem dL_law_431 : decode cL_law 431 = .ok (.iaload, 1) := by decide +kernel
theorem dL_law_432 : decode cL_law 432 = .ok (.invokevirtual 82, 3) := by decide +kernel
theorem dL_law_435 : decode cL_law 435 = .ok (.istore 6, 2) := by decide +kernel
theorem dL_law_437 : decode cL_law 437 = .ok (.aload_n 2, 1) := by decide +kernel
theorem dL_law_438 : decode cL_law 438 = .ok (.invokevirtual 65, 3) := by decide +kernel
theorem dL_law_441 : decode cL_law 441 = .ok (.iload 5, 2) := by decide +kernel
theorem dL_law_443 : decode cL_law 443 = .ok (.if_icmp .eq 5, 3) := by decide +kernel
theorem dL_law_446 : decode cL_law 446 = .ok (.iconst 0, 1) := by decide +kernel
theorem dL_law_447 : decode cL_law 447 = .ok (.ireturn, 1) := by decide +kernel
theorem dL_law_448 : decode cL_law 448 = .ok (.iload 5, 2) := by decide +kernel
theorem dL_law_450 : decode cL_law 450 = .ok (.ifCond .ne 15, 3) := by decide +kernel
theorem dL_law_453 : decode cL_law 453 = .ok (.aload_n 3, 1) := by decide +kernel
theorem dL_law_454 : decode cL_law 454 = .ok (.iconst 0, 1) := by decide +kernel
theorem dL_law_455 : decode cL_law 455 = .ok (.laload, 1) := by decide +kernel
theorem dL_law_456 : decode cL_law 456 = .ok (.iload 6, 2) := by decide +kernel
theorem dL_law_458 : decode cL_law 458 = .ok (.i2l, 1) := by decide +kernel
theorem dL_law_459 : decode cL_law 459 = .ok (.lcmp, 1) := by decide +kernel
theorem dL_law_460 : decode cL_law 460 = .ok (.ifCond .eq 5, 3) := by decide +kernel
theorem dL_law_463 : decode cL_law 463 = .ok (.iconst 0, 1) := by decide +kernel
theorem dL_law_464 : decode cL_law 464 = .ok (.ireturn, 1) := by decide +kernel
theorem dL_law_465 : decode cL_law 465 = .ok (.goto 567, 3) := by decide +kernel
theorem dL_law_468 : decode cL_law 468 = .ok (.aload_n 1, 1) := by decide +kernel
theorem dL_law_469 : decode cL_law 469 = .ok (.aload_n 0, 1) := by decide +kernel
theorem dL_law_470 : decode cL_law 470 = .ok (.iload 4, 2) := by decide +kernel
theorem dL_law_472 : decode cL_law 472 = .ok (.iconst 1, 1) := by decide +kernel
theorem dL_law_473 : decode cL_law 473 = .ok (.iadd, 1) := by decide +kernel
theorem dL_law_474 : decode cL_law 474 = .ok (.iaload, 1) := by decide +kernel
theorem dL_law_475 : decode cL_law 475 = .ok (.aload_n 3, 1) := by decide +kernel
theorem dL_law_476 : decode cL_law 476 = .ok (.invokestatic 83, 3) := by decide +kernel
theorem dL_law_479 : decode cL_law 479 = .ok (.istore 5, 2) := by decide +kernel
theorem dL_law_481 : decode cL_law 481 = .ok (.aload_n 2, 1) := by decide +kernel
theorem dL_law_482 : decode cL_law 482 = .ok (.aload_n 0, 1) := by decide +kernel
theorem dL_law_483 : decode cL_law 483 = .ok (.iload 4, 2) := by decide +kernel
theorem dL_law_485 : decode cL_law 485 = .ok (.iconst 1, 1) := by decide +kernel
theorem dL_law_486 : decode cL_law 486 = .ok (.iadd, 1) := by decide +kernel
theorem dL_law_487 : decode cL_law 487 = .ok (.iaload, 1) := by decide +kernel
theorem dL_law_488 : decode cL_law 488 = .ok (.invokevirtual 85, 3) := by decide +kernel
theorem dL_law_491 : decode cL_law 491 = .ok (.istore 6, 2) := by decide +kernel
theorem dL_law_493 : decode cL_law 493 = .ok (.aload_n 2, 1) := by decide +kernel
theorem dL_law_494 : decode cL_law 494 = .ok (.invokevirtual 65, 3) := by decide +kernel
theorem dL_law_497 : decode cL_law 497 = .ok (.iload 5, 2) := by decide +kernel
theorem dL_law_499 : decode cL_law 499 = .ok (.if_icmp .eq 5, 3) := by decide +kernel
theorem dL_law_502 : decode cL_law 502 = .ok (.iconst 0, 1) := by decide +kernel
theorem dL_law_503 : decode cL_law 503 = .ok (.ireturn, 1) := by decide +kernel
theorem dL_law_504 : decode cL_law 504 = .ok (.iload 5, 2) := by decide +kernel
theorem dL_law_506 : decode cL_law 506 = .ok (.ifCond .ne 15, 3) := by decide +kernel
theorem dL_law_509 : decode cL_law 509 = .ok (.aload_n 3, 1) := by decide +kernel
theorem dL_law_510 : decode cL_law 510 = .ok (.iconst 0, 1) := by decide +kernel
theorem dL_law_511 : decode cL_law 511 = .ok (.laload, 1) := by decide +kernel
theorem dL_law_512 : decode cL_law 512 = .ok (.iload 6, 2) := by decide +kernel
theorem dL_law_514 : decode cL_law 514 = .ok (.i2l, 1) := by decide +kernel
theorem dL_law_515 : decode cL_law 515 = .ok (.lcmp, 1) := by decide +kernel
theorem dL_law_516 : decode cL_law 516 = .ok (.ifCond .eq 5, 3) := by decide +kernel
theorem dL_law_519 : decode cL_law 519 = .ok (.iconst 0, 1) := by decide +kernel
theorem dL_law_520 : decode cL_law 520 = .ok (.ireturn, 1) := by decide +kernel
theorem dL_law_521 : decode cL_law 521 = .ok (.goto 511, 3) := by decide +kernel
theorem dL_law_524 : decode cL_law 524 = .ok (.aload_n 1, 1) := by decide +kernel
theorem dL_law_525 : decode cL_law 525 = .ok (.aload_n 0, 1) := by decide +kernel
theorem dL_law_526 : decode cL_law 526 = .ok (.iload 4, 2) := by decide +kernel
theorem dL_law_528 : decode cL_law 528 = .ok (.iconst 1, 1) := by decide +kernel
theorem dL_law_529 : decode cL_law 529 = .ok (.iadd, 1) := by decide +kernel
theorem dL_law_530 : decode cL_law 530 = .ok (.iaload, 1) := by decide +kernel
theorem dL_law_531 : decode cL_law 531 = .ok (.aload_n 3, 1) := by decide +kernel
theorem dL_law_532 : decode cL_law 532 = .ok (.invokestatic 86, 3) := by decide +kernel
theorem dL_law_535 : decode cL_law 535 = .ok (.istore 5, 2) := by decide +kernel
theorem dL_law_537 : decode cL_law 537 = .ok (.aload_n 2, 1) := by decide +kernel
theorem dL_law_538 : decode cL_law 538 = .ok (.aload_n 0, 1) := by decide +kernel
theorem dL_law_539 : decode cL_law 539 = .ok (.iload 4, 2) := by decide +kernel
theorem dL_law_541 : decode cL_law 541 = .ok (.iconst 1, 1) := by decide +kernel
theorem dL_law_542 : decode cL_law 542 = .ok (.iadd, 1) := by decide +kernel
theorem dL_law_543 : decode cL_law 543 = .ok (.iaload, 1) := by decide +kernel
theorem dL_law_544 : decode cL_law 544 = .ok (.invokevirtual 88, 3) := by decide +kernel
theorem dL_law_547 : decode cL_law 547 = .ok (.istore 6, 2) := by decide +kernel
theorem dL_law_549 : decode cL_law 549 = .ok (.aload_n 2, 1) := by decide +kernel
theorem dL_law_550 : decode cL_law 550 = .ok (.invokevirtual 65, 3) := by decide +kernel
theorem dL_law_553 : decode cL_law 553 = .ok (.iload 5, 2) := by decide +kernel
theorem dL_law_555 : decode cL_law 555 = .ok (.if_icmp .eq 5, 3) := by decide +kernel
theorem dL_law_558 : decode cL_law 558 = .ok (.iconst 0, 1) := by decide +kernel
theorem dL_law_559 : decode cL_law 559 = .ok (.ireturn, 1) := by decide +kernel
theorem dL_law_560 : decode cL_law 560 = .ok (.iload 5, 2) := by decide +kernel
theorem dL_law_562 : decode cL_law 562 = .ok (.ifCond .ne 15, 3) := by decide +kernel
theorem dL_law_565 : decode cL_law 565 = .ok (.aload_n 3, 1) := by decide +kernel
theorem dL_law_566 : decode cL_law 566 = .ok (.iconst 0, 1) := by decide +kernel
theorem dL_law_567 : decode cL_law 567 = .ok (.laload, 1) := by decide +kernel
theorem dL_law_568 : decode cL_law 568 = .ok (.iload 6, 2) := by decide +kernel
theorem dL_law_570 : decode cL_law 570 = .ok (.i2l, 1) := by decide +kernel
theorem dL_law_571 : decode cL_law 571 = .ok (.lcmp, 1) := by decide +kernel
theorem dL_law_572 : decode cL_law 572 = .ok (.ifCond .eq 5, 3) := by decide +kernel
theorem dL_law_575 : decode cL_law 575 = .ok (.iconst 0, 1) := by decide +kernel
theorem dL_law_576 : decode cL_law 576 = .ok (.ireturn, 1) := by decide +kernel
theorem dL_law_577 : decode cL_law 577 = .ok (.goto 455, 3) := by decide +kernel
theorem dL_law_580 : decode cL_law 580 = .ok (.aload_n 1, 1) := by decide +kernel
theorem dL_law_581 : decode cL_law 581 = .ok (.invokevirtual 89, 3) := by decide +kernel
theorem dL_law_584 : decode cL_law 584 = .ok (.aload_n 2, 1) := by decide +kernel
theorem dL_law_585 : decode cL_law 585 = .ok (.invokevirtual 92, 3) := by decide +kernel
theorem dL_law_588 : decode cL_law 588 = .ok (.if_icmp .eq 444, 3) := by decide +kernel
theorem dL_law_591 : decode cL_law 591 = .ok (.iconst 0, 1) := by decide +kernel
theorem dL_law_592 : decode cL_law 592 = .ok (.ireturn, 1) := by decide +kernel
theorem dL_law_593 : decode cL_law 593 = .ok (.aload_n 1, 1) := by decide +kernel
theorem dL_law_594 : decode cL_law 594 = .ok (.aload_n 0, 1) := by decide +kernel
theorem dL_law_595 : decode cL_law 595 = .ok (.iload 4, 2) := by decide +kernel
theorem dL_law_597 : decode cL_law 597 = .ok (.iconst 1, 1) := by decide +kernel
theorem dL_law_598 : decode cL_law 598 = .ok (.iadd, 1) := by decide +kernel
theorem dL_law_599 : decode cL_law 599 = .ok (.iaload, 1) := by decide +kernel
theorem dL_law_600 : decode cL_law 600 = .ok (.invokevirtual 93, 3) := by decide +kernel
theorem dL_law_603 : decode cL_law 603 = .ok (.aload_n 2, 1) := by decide +kernel
theorem dL_law_604 : decode cL_law 604 = .ok (.aload_n 0, 1) := by decide +kernel
theorem dL_law_605 : decode cL_law 605 = .ok (.iload 4, 2) := by decide +kernel
theorem dL_law_607 : decode cL_law 607 = .ok (.iconst 1, 1) := by decide +kernel
theorem dL_law_608 : decode cL_law 608 = .ok (.iadd, 1) := by decide +kernel
theorem dL_law_609 : decode cL_law 609 = .ok (.iaload, 1) := by decide +kernel
theorem dL_law_610 : decode cL_law 610 = .ok (.invokevirtual 96, 3) := by decide +kernel
theorem dL_law_613 : decode cL_law 613 = .ok (.if_icmp .eq 419, 3) := by decide +kernel
theorem dL_law_616 : decode cL_law 616 = .ok (.iconst 0, 1) := by decide +kernel
theorem dL_law_617 : decode cL_law 617 = .ok (.ireturn, 1) := by decide +kernel
theorem dL_law_618 : decode cL_law 618 = .ok (.aload_n 1, 1) := by decide +kernel
theorem dL_law_619 : decode cL_law 619 = .ok (.aload_n 0, 1) := by decide +kernel
theorem dL_law_620 : decode cL_law 620 = .ok (.iload 4, 2) := by decide +kernel
theorem dL_law_622 : decode cL_law 622 = .ok (.iconst 1, 1) := by decide +kernel
theorem dL_law_623 : decode cL_law 623 = .ok (.iadd, 1) := by decide +kernel
theorem dL_law_624 : decode cL_law 624 = .ok (.iaload, 1) := by decide +kernel
theorem dL_law_625 : decode cL_law 625 = .ok (.invokevirtual 97, 3) := by decide +kernel
theorem dL_law_628 : decode cL_law 628 = .ok (.aload_n 2, 1) := by decide +kernel
theorem dL_law_629 : decode cL_law 629 = .ok (.aload_n 0, 1) := by decide +kernel
theorem dL_law_630 : decode cL_law 630 = .ok (.iload 4, 2) := by decide +kernel
theorem dL_law_632 : decode cL_law 632 = .ok (.iconst 1, 1) := by decide +kernel
theorem dL_law_633 : decode cL_law 633 = .ok (.iadd, 1) := by decide +kernel
theorem dL_law_634 : decode cL_law 634 = .ok (.iaload, 1) := by decide +kernel
theorem dL_law_635 : decode cL_law 635 = .ok (.invokevirtual 100, 3) := by decide +kernel
theorem dL_law_638 : decode cL_law 638 = .ok (.if_icmp .eq 394, 3) := by decide +kernel
theorem dL_law_641 : decode cL_law 641 = .ok (.iconst 0, 1) := by decide +kernel
theorem dL_law_642 : decode cL_law 642 = .ok (.ireturn, 1) := by decide +kernel
theorem dL_law_643 : decode cL_law 643 = .ok (.aload_n 1, 1) := by decide +kernel
theorem dL_law_644 : decode cL_law 644 = .ok (.aload_n 0, 1) := by decide +kernel
theorem dL_law_645 : decode cL_law 645 = .ok (.iload 4, 2) := by decide +kernel
theorem dL_law_647 : decode cL_law 647 = .ok (.iconst 1, 1) := by decide +kernel
theorem dL_law_648 : decode cL_law 648 = .ok (.iadd, 1) := by decide +kernel
theorem dL_law_649 : decode cL_law 649 = .ok (.iaload, 1) := by decide +kernel
theorem dL_law_650 : decode cL_law 650 = .ok (.aload_n 0, 1) := by decide +kernel
theorem dL_law_651 : decode cL_law 651 = .ok (.iload 4, 2) := by decide +kernel
theorem dL_law_653 : decode cL_law 653 = .ok (.iconst 2, 1) := by decide +kernel
theorem dL_law_654 : decode cL_law 654 = .ok (.iadd, 1) := by decide +kernel
theorem dL_law_655 : decode cL_law 655 = .ok (.iaload, 1) := by decide +kernel
theorem dL_law_656 : decode cL_law 656 = .ok (.aload_n 3, 1) := by decide +kernel
theorem dL_law_657 : decode cL_law 657 = .ok (.invokestatic 101, 3) := by decide +kernel
theorem dL_law_660 : decode cL_law 660 = .ok (.istore 5, 2) := by decide +kernel
theorem dL_law_662 : decode cL_law 662 = .ok (.aload_n 2, 1) := by decide +kernel
theorem dL_law_663 : decode cL_law 663 = .ok (.aload_n 0, 1) := by decide +kernel
theorem dL_law_664 : decode cL_law 664 = .ok (.iload 4, 2) := by decide +kernel
theorem dL_law_666 : decode cL_law 666 = .ok (.iconst 1, 1) := by decide +kernel
theorem dL_law_667 : decode cL_law 667 = .ok (.iadd, 1) := by decide +kernel
theorem dL_law_668 : decode cL_law 668 = .ok (.iaload, 1) := by decide +kernel
theorem dL_law_669 : decode cL_law 669 = .ok (.aload_n 0, 1) := by decide +kernel
theorem dL_law_670 : decode cL_law 670 = .ok (.iload 4, 2) := by decide +kernel
theorem dL_law_672 : decode cL_law 672 = .ok (.iconst 2, 1) := by decide +kernel
theorem dL_law_673 : decode cL_law 673 = .ok (.iadd, 1) := by decide +kernel
theorem dL_law_674 : decode cL_law 674 = .ok (.iaload, 1) := by decide +kernel
theorem dL_law_675 : decode cL_law 675 = .ok (.invokevirtual 103, 3) := by decide +kernel
theorem dL_law_678 : decode cL_law 678 = .ok (.istore 6, 2) := by decide +kernel
theorem dL_law_680 : decode cL_law 680 = .ok (.aload_n 2, 1) := by decide +kernel
theorem dL_law_681 : decode cL_law 681 = .ok (.invokevirtual 65, 3) := by decide +kernel
theorem dL_law_684 : decode cL_law 684 = .ok (.iload 5, 2) := by decide +kernel
theorem dL_law_686 : decode cL_law 686 = .ok (.if_icmp .eq 5, 3) := by decide +kernel
theorem dL_law_689 : decode cL_law 689 = .ok (.iconst 0, 1) := by decide +kernel
theorem dL_law_690 : decode cL_law 690 = .ok (.ireturn, 1) := by decide +kernel
theorem dL_law_691 : decode cL_law 691 = .ok (.iload 5, 2) := by decide +kernel
theorem dL_law_693 : decode cL_law 693 = .ok (.ifCond .ne 15, 3) := by decide +kernel
theorem dL_law_696 : decode cL_law 696 = .ok (.aload_n 3, 1) := by decide +kernel
theorem dL_law_697 : decode cL_law 697 = .ok (.iconst 0, 1) := by decide +kernel
theorem dL_law_698 : decode cL_law 698 = .ok (.laload, 1) := by decide +kernel
theorem dL_law_699 : decode cL_law 699 = .ok (.iload 6, 2) := by decide +kernel
theorem dL_law_701 : decode cL_law 701 = .ok (.i2l, 1) := by decide +kernel
theorem dL_law_702 : decode cL_law 702 = .ok (.lcmp, 1) := by decide +kernel
theorem dL_law_703 : decode cL_law 703 = .ok (.ifCond .eq 5, 3) := by decide +kernel
theorem dL_law_706 : decode cL_law 706 = .ok (.iconst 0, 1) := by decide +kernel
theorem dL_law_707 : decode cL_law 707 = .ok (.ireturn, 1) := by decide +kernel
theorem dL_law_708 : decode cL_law 708 = .ok (.goto 324, 3) := by decide +kernel
theorem dL_law_711 : decode cL_law 711 = .ok (.aload_n 1, 1) := by decide +kernel
theorem dL_law_712 : decode cL_law 712 = .ok (.aload_n 0, 1) := by decide +kernel
theorem dL_law_713 : decode cL_law 713 = .ok (.iload 4, 2) := by decide +kernel
theorem dL_law_715 : decode cL_law 715 = .ok (.iconst 1, 1) := by decide +kernel
theorem dL_law_716 : decode cL_law 716 = .ok (.iadd, 1) := by decide +kernel
theorem dL_law_717 : decode cL_law 717 = .ok (.iaload, 1) := by decide +kernel
theorem dL_law_718 : decode cL_law 718 = .ok (.aload_n 0, 1) := by decide +kernel
theorem dL_law_719 : decode cL_law 719 = .ok (.iload 4, 2) := by decide +kernel
theorem dL_law_721 : decode cL_law 721 = .ok (.iconst 2, 1) := by decide +kernel
theorem dL_law_722 : decode cL_law 722 = .ok (.iadd, 1) := by decide +kernel
theorem dL_law_723 : decode cL_law 723 = .ok (.iaload, 1) := by decide +kernel
theorem dL_law_724 : decode cL_law 724 = .ok (.aload_n 0, 1) := by decide +kernel
theorem dL_law_725 : decode cL_law 725 = .ok (.iload 4, 2) := by decide +kernel
theorem dL_law_727 : decode cL_law 727 = .ok (.iconst 3, 1) := by decide +kernel
theorem dL_law_728 : decode cL_law 728 = .ok (.iadd, 1) := by decide +kernel
theorem dL_law_729 : decode cL_law 729 = .ok (.iaload, 1) := by decide +kernel
theorem dL_law_730 : decode cL_law 730 = .ok (.aload_n 3, 1) := by decide +kernel
theorem dL_law_731 : decode cL_law 731 = .ok (.invokestatic 104, 3) := by decide +kernel
theorem dL_law_734 : decode cL_law 734 = .ok (.istore 5, 2) := by decide +kernel
theorem dL_law_736 : decode cL_law 736 = .ok (.aload_n 2, 1) := by decide +kernel
theorem dL_law_737 : decode cL_law 737 = .ok (.aload_n 0, 1) := by decide +kernel
theorem dL_law_738 : decode cL_law 738 = .ok (.iload 4, 2) := by decide +kernel
theorem dL_law_740 : decode cL_law 740 = .ok (.iconst 1, 1) := by decide +kernel
theorem dL_law_741 : decode cL_law 741 = .ok (.iadd, 1) := by decide +kernel
theorem dL_law_742 : decode cL_law 742 = .ok (.iaload, 1) := by decide +kernel
theorem dL_law_743 : decode cL_law 743 = .ok (.aload_n 0, 1) := by decide +kernel
theorem dL_law_744 : decode cL_law 744 = .ok (.iload 4, 2) := by decide +kernel
theorem dL_law_746 : decode cL_law 746 = .ok (.iconst 2, 1) := by decide +kernel
theorem dL_law_747 : decode cL_law 747 = .ok (.iadd, 1) := by decide +kernel
theorem dL_law_748 : decode cL_law 748 = .ok (.iaload, 1) := by decide +kernel
theorem dL_law_749 : decode cL_law 749 = .ok (.aload_n 0, 1) := by decide +kernel
theorem dL_law_750 : decode cL_law 750 = .ok (.iload 4, 2) := by decide +kernel
theorem dL_law_752 : decode cL_law 752 = .ok (.iconst 3, 1) := by decide +kernel
theorem dL_law_753 : decode cL_law 753 = .ok (.iadd, 1) := by decide +kernel
theorem dL_law_754 : decode cL_law 754 = .ok (.iaload, 1) := by decide +kernel
theorem dL_law_755 : decode cL_law 755 = .ok (.invokevirtual 107, 3) := by decide +kernel
theorem dL_law_758 : decode cL_law 758 = .ok (.istore 6, 2) := by decide +kernel
theorem dL_law_760 : decode cL_law 760 = .ok (.aload_n 2, 1) := by decide +kernel
theorem dL_law_761 : decode cL_law 761 = .ok (.invokevirtual 65, 3) := by decide +kernel
theorem dL_law_764 : decode cL_law 764 = .ok (.iload 5, 2) := by decide +kernel
theorem dL_law_766 : decode cL_law 766 = .ok (.if_icmp .eq 5, 3) := by decide +kernel
theorem dL_law_769 : decode cL_law 769 = .ok (.iconst 0, 1) := by decide +kernel
theorem dL_law_770 : decode cL_law 770 = .ok (.ireturn, 1) := by decide +kernel
theorem dL_law_771 : decode cL_law 771 = .ok (.iload 5, 2) := by decide +kernel
theorem dL_law_773 : decode cL_law 773 = .ok (.ifCond .ne 15, 3) := by decide +kernel
theorem dL_law_776 : decode cL_law 776 = .ok (.aload_n 3, 1) := by decide +kernel
theorem dL_law_777 : decode cL_law 777 = .ok (.iconst 0, 1) := by decide +kernel
theorem dL_law_778 : decode cL_law 778 = .ok (.laload, 1) := by decide +kernel
theorem dL_law_779 : decode cL_law 779 = .ok (.iload 6, 2) := by decide +kernel
theorem dL_law_781 : decode cL_law 781 = .ok (.i2l, 1) := by decide +kernel
theorem dL_law_782 : decode cL_law 782 = .ok (.lcmp, 1) := by decide +kernel
theorem dL_law_783 : decode cL_law 783 = .ok (.ifCond .eq 5, 3) := by decide +kernel
theorem dL_law_786 : decode cL_law 786 = .ok (.iconst 0, 1) := by decide +kernel
theorem dL_law_787 : decode cL_law 787 = .ok (.ireturn, 1) := by decide +kernel
theorem dL_law_788 : decode cL_law 788 = .ok (.goto 244, 3) := by decide +kernel
theorem dL_law_791 : decode cL_law 791 = .ok (.aload_n 1, 1) := by decide +kernel
theorem dL_law_792 : decode cL_law 792 = .ok (.aload_n 0, 1) := by decide +kernel
theorem dL_law_793 : decode cL_law 793 = .ok (.iload 4, 2) := by decide +kernel
theorem dL_law_795 : decode cL_law 795 = .ok (.iconst 1, 1) := by decide +kernel
theorem dL_law_796 : decode cL_law 796 = .ok (.iadd, 1) := by decide +kernel
theorem dL_law_797 : decode cL_law 797 = .ok (.iaload, 1) := by decide +kernel
theorem dL_law_798 : decode cL_law 798 = .ok (.aload_n 0, 1) := by decide +kernel
theorem dL_law_799 : decode cL_law 799 = .ok (.iload 4, 2) := by decide +kernel
theorem dL_law_801 : decode cL_law 801 = .ok (.iconst 2, 1) := by decide +kernel
theorem dL_law_802 : decode cL_law 802 = .ok (.iadd, 1) := by decide +kernel
theorem dL_law_803 : decode cL_law 803 = .ok (.iaload, 1) := by decide +kernel
theorem dL_law_804 : decode cL_law 804 = .ok (.aload_n 3, 1) := by decide +kernel
theorem dL_law_805 : decode cL_law 805 = .ok (.invokestatic 108, 3) := by decide +kernel
theorem dL_law_808 : decode cL_law 808 = .ok (.istore 5, 2) := by decide +kernel
theorem dL_law_810 : decode cL_law 810 = .ok (.aload_n 2, 1) := by decide +kernel
theorem dL_law_811 : decode cL_law 811 = .ok (.aload_n 0, 1) := by decide +kernel
theorem dL_law_812 : decode cL_law 812 = .ok (.iload 4, 2) := by decide +kernel
theorem dL_law_814 : decode cL_law 814 = .ok (.iconst 1, 1) := by decide +kernel
theorem dL_law_815 : decode cL_law 815 = .ok (.iadd, 1) := by decide +kernel
theorem dL_law_816 : decode cL_law 816 = .ok (.iaload, 1) := by decide +kernel
theorem dL_law_817 : decode cL_law 817 = .ok (.aload_n 0, 1) := by decide +kernel
theorem dL_law_818 : decode cL_law 818 = .ok (.iload 4, 2) := by decide +kernel
theorem dL_law_820 : decode cL_law 820 = .ok (.iconst 2, 1) := by decide +kernel
theorem dL_law_821 : decode cL_law 821 = .ok (.iadd, 1) := by decide +kernel
theorem dL_law_822 : decode cL_law 822 = .ok (.iaload, 1) := by decide +kernel
theorem dL_law_823 : decode cL_law 823 = .ok (.invokevirtual 110, 3) := by decide +kernel
theorem dL_law_826 : decode cL_law 826 = .ok (.istore 6, 2) := by decide +kernel
theorem dL_law_828 : decode cL_law 828 = .ok (.aload_n 2, 1) := by decide +kernel
theorem dL_law_829 : decode cL_law 829 = .ok (.invokevirtual 65, 3) := by decide +kernel
theorem dL_law_832 : decode cL_law 832 = .ok (.iload 5, 2) := by decide +kernel
theorem dL_law_834 : decode cL_law 834 = .ok (.if_icmp .eq 5, 3) := by decide +kernel
theorem dL_law_837 : decode cL_law 837 = .ok (.iconst 0, 1) := by decide +kernel
theorem dL_law_838 : decode cL_law 838 = .ok (.ireturn, 1) := by decide +kernel
theorem dL_law_839 : decode cL_law 839 = .ok (.iload 5, 2) := by decide +kernel
theorem dL_law_841 : decode cL_law 841 = .ok (.ifCond .ne 15, 3) := by decide +kernel
theorem dL_law_844 : decode cL_law 844 = .ok (.aload_n 3, 1) := by decide +kernel
theorem dL_law_845 : decode cL_law 845 = .ok (.iconst 0, 1) := by decide +kernel
theorem dL_law_846 : decode cL_law 846 = .ok (.laload, 1) := by decide +kernel
theorem dL_law_847 : decode cL_law 847 = .ok (.iload 6, 2) := by decide +kernel
theorem dL_law_849 : decode cL_law 849 = .ok (.i2l, 1) := by decide +kernel
theorem dL_law_850 : decode cL_law 850 = .ok (.lcmp, 1) := by decide +kernel
theorem dL_law_851 : decode cL_law 851 = .ok (.ifCond .eq 5, 3) := by decide +kernel
theorem dL_law_854 : decode cL_law 854 = .ok (.iconst 0, 1) := by decide +kernel
theorem dL_law_855 : decode cL_law 855 = .ok (.ireturn, 1) := by decide +kernel
theorem dL_law_856 : decode cL_law 856 = .ok (.goto 176, 3) := by decide +kernel
theorem dL_law_859 : decode cL_law 859 = .ok (.aload_n 1, 1) := by decide +kernel
theorem dL_law_860 : decode cL_law 860 = .ok (.aload_n 0, 1) := by decide +kernel
theorem dL_law_861 : decode cL_law 861 = .ok (.iload 4, 2) := by decide +kernel
theorem dL_law_863 : decode cL_law 863 = .ok (.iconst 1, 1) := by decide +kernel
theorem dL_law_864 : decode cL_law 864 = .ok (.iadd, 1) := by decide +kernel
theorem dL_law_865 : decode cL_law 865 = .ok (.iaload, 1) := by decide +kernel
theorem dL_law_866 : decode cL_law 866 = .ok (.aload_n 0, 1) := by decide +kernel
theorem dL_law_867 : decode cL_law 867 = .ok (.iload 4, 2) := by decide +kernel
theorem dL_law_869 : decode cL_law 869 = .ok (.iconst 2, 1) := by decide +kernel
theorem dL_law_870 : decode cL_law 870 = .ok (.iadd, 1) := by decide +kernel
theorem dL_law_871 : decode cL_law 871 = .ok (.iaload, 1) := by decide +kernel
theorem dL_law_872 : decode cL_law 872 = .ok (.aload_n 0, 1) := by decide +kernel
theorem dL_law_873 : decode cL_law 873 = .ok (.iload 4, 2) := by decide +kernel
theorem dL_law_875 : decode cL_law 875 = .ok (.iconst 3, 1) := by decide +kernel
theorem dL_law_876 : decode cL_law 876 = .ok (.iadd, 1) := by decide +kernel
theorem dL_law_877 : decode cL_law 877 = .ok (.iaload, 1) := by decide +kernel
theorem dL_law_878 : decode cL_law 878 = .ok (.aload_n 3, 1) := by decide +kernel
theorem dL_law_879 : decode cL_law 879 = .ok (.invokestatic 111, 3) := by decide +kernel
theorem dL_law_882 : decode cL_law 882 = .ok (.istore 5, 2) := by decide +kernel
theorem dL_law_884 : decode cL_law 884 = .ok (.aload_n 2, 1) := by decide +kernel
theorem dL_law_885 : decode cL_law 885 = .ok (.aload_n 0, 1) := by decide +kernel
theorem dL_law_886 : decode cL_law 886 = .ok (.iload 4, 2) := by decide +kernel
theorem dL_law_888 : decode cL_law 888 = .ok (.iconst 1, 1) := by decide +kernel
theorem dL_law_889 : decode cL_law 889 = .ok (.iadd, 1) := by decide +kernel
theorem dL_law_890 : decode cL_law 890 = .ok (.iaload, 1) := by decide +kernel
theorem dL_law_891 : decode cL_law 891 = .ok (.aload_n 0, 1) := by decide +kernel
theorem dL_law_892 : decode cL_law 892 = .ok (.iload 4, 2) := by decide +kernel
theorem dL_law_894 : decode cL_law 894 = .ok (.iconst 2, 1) := by decide +kernel
theorem dL_law_895 : decode cL_law 895 = .ok (.iadd, 1) := by decide +kernel
theorem dL_law_896 : decode cL_law 896 = .ok (.iaload, 1) := by decide +kernel
theorem dL_law_897 : decode cL_law 897 = .ok (.aload_n 0, 1) := by decide +kernel
theorem dL_law_898 : decode cL_law 898 = .ok (.iload 4, 2) := by decide +kernel
theorem dL_law_900 : decode cL_law 900 = .ok (.iconst 3, 1) := by decide +kernel
theorem dL_law_901 : decode cL_law 901 = .ok (.iadd, 1) := by decide +kernel
theorem dL_law_902 : decode cL_law 902 = .ok (.iaload, 1) := by decide +kernel
theorem dL_law_903 : decode cL_law 903 = .ok (.invokevirtual 113, 3) := by decide +kernel
theorem dL_law_906 : decode cL_law 906 = .ok (.istore 6, 2) := by decide +kernel
theorem dL_law_908 : decode cL_law 908 = .ok (.aload_n 2, 1) := by decide +kernel
theorem dL_law_909 : decode cL_law 909 = .ok (.invokevirtual 65, 3) := by decide +kernel
theorem dL_law_912 : decode cL_law 912 = .ok (.iload 5, 2) := by decide +kernel
theorem dL_law_914 : decode cL_law 914 = .ok (.if_icmp .eq 5, 3) := by decide +kernel
theorem dL_law_917 : decode cL_law 917 = .ok (.iconst 0, 1) := by decide +kernel
theorem dL_law_918 : decode cL_law 918 = .ok (.ireturn, 1) := by decide +kernel
theorem dL_law_919 : decode cL_law 919 = .ok (.iload 5, 2) := by decide +kernel
theorem dL_law_921 : decode cL_law 921 = .ok (.ifCond .ne 15, 3) := by decide +kernel
theorem dL_law_924 : decode cL_law 924 = .ok (.aload_n 3, 1) := by decide +kernel
theorem dL_law_925 : decode cL_law 925 = .ok (.iconst 0, 1) := by decide +kernel
theorem dL_law_926 : decode cL_law 926 = .ok (.laload, 1) := by decide +kernel
theorem dL_law_927 : decode cL_law 927 = .ok (.iload 6, 2) := by decide +kernel
theorem dL_law_929 : decode cL_law 929 = .ok (.i2l, 1) := by decide +kernel
theorem dL_law_930 : decode cL_law 930 = .ok (.lcmp, 1) := by decide +kernel
theorem dL_law_931 : decode cL_law 931 = .ok (.ifCond .eq 5, 3) := by decide +kernel
theorem dL_law_934 : decode cL_law 934 = .ok (.iconst 0, 1) := by decide +kernel
theorem dL_law_935 : decode cL_law 935 = .ok (.ireturn, 1) := by decide +kernel
theorem dL_law_936 : decode cL_law 936 = .ok (.goto 96, 3) := by decide +kernel
theorem dL_law_939 : decode cL_law 939 = .ok (.aload_n 1, 1) := by decide +kernel
theorem dL_law_940 : decode cL_law 940 = .ok (.aload_n 0, 1) := by decide +kernel
theorem dL_law_941 : decode cL_law 941 = .ok (.iload 4, 2) := by decide +kernel
theorem dL_law_943 : decode cL_law 943 = .ok (.iconst 1, 1) := by decide +kernel
theorem dL_law_944 : decode cL_law 944 = .ok (.iadd, 1) := by decide +kernel
theorem dL_law_945 : decode cL_law 945 = .ok (.iaload, 1) := by decide +kernel
theorem dL_law_946 : decode cL_law 946 = .ok (.aload_n 0, 1) := by decide +kernel
theorem dL_law_947 : decode cL_law 947 = .ok (.iload 4, 2) := by decide +kernel
theorem dL_law_949 : decode cL_law 949 = .ok (.iconst 2, 1) := by decide +kernel
theorem dL_law_950 : decode cL_law 950 = .ok (.iadd, 1) := by decide +kernel
theorem dL_law_951 : decode cL_law 951 = .ok (.iaload, 1) := by decide +kernel
theorem dL_law_952 : decode cL_law 952 = .ok (.aload_n 3, 1) := by decide +kernel
theorem dL_law_953 : decode cL_law 953 = .ok (.invokestatic 114, 3) := by decide +kernel
theorem dL_law_956 : decode cL_law 956 = .ok (.istore 5, 2) := by decide +kernel
theorem dL_law_958 : decode cL_law 958 = .ok (.aload_n 2, 1) := by decide +kernel
theorem dL_law_959 : decode cL_law 959 = .ok (.aload_n 0, 1) := by decide +kernel
theorem dL_law_960 : decode cL_law 960 = .ok (.iload 4, 2) := by decide +kernel
theorem dL_law_962 : decode cL_law 962 = .ok (.iconst 1, 1) := by decide +kernel
theorem dL_law_963 : decode cL_law 963 = .ok (.iadd, 1) := by decide +kernel
theorem dL_law_964 : decode cL_law 964 = .ok (.iaload, 1) := by decide +kernel
theorem dL_law_965 : decode cL_law 965 = .ok (.aload_n 0, 1) := by decide +kernel
theorem dL_law_966 : decode cL_law 966 = .ok (.iload 4, 2) := by decide +kernel
theorem dL_law_968 : decode cL_law 968 = .ok (.iconst 2, 1) := by decide +kernel
theorem dL_law_969 : decode cL_law 969 = .ok (.iadd, 1) := by decide +kernel
theorem dL_law_970 : decode cL_law 970 = .ok (.iaload, 1) := by decide +kernel
theorem dL_law_971 : decode cL_law 971 = .ok (.invokevirtual 116, 3) := by decide +kernel
theorem dL_law_974 : decode cL_law 974 = .ok (.istore 6, 2) := by decide +kernel
theorem dL_law_976 : decode cL_law 976 = .ok (.aload_n 2, 1) := by decide +kernel
theorem dL_law_977 : decode cL_law 977 = .ok (.invokevirtual 65, 3) := by decide +kernel
theorem dL_law_980 : decode cL_law 980 = .ok (.iload 5, 2) := by decide +kernel
theorem dL_law_982 : decode cL_law 982 = .ok (.if_icmp .eq 5, 3) := by decide +kernel
theorem dL_law_985 : decode cL_law 985 = .ok (.iconst 0, 1) := by decide +kernel
theorem dL_law_986 : decode cL_law 986 = .ok (.ireturn, 1) := by decide +kernel
theorem dL_law_987 : decode cL_law 987 = .ok (.iload 5, 2) := by decide +kernel
theorem dL_law_989 : decode cL_law 989 = .ok (.ifCond .ne 15, 3) := by decide +kernel
theorem dL_law_992 : decode cL_law 992 = .ok (.aload_n 3, 1) := by decide +kernel
theorem dL_law_993 : decode cL_law 993 = .ok (.iconst 0, 1) := by decide +kernel
theorem dL_law_994 : decode cL_law 994 = .ok (.laload, 1) := by decide +kernel
theorem dL_law_995 : decode cL_law 995 = .ok (.iload 6, 2) := by decide +kernel
theorem dL_law_997 : decode cL_law 997 = .ok (.i2l, 1) := by decide +kernel
theorem dL_law_998 : decode cL_law 998 = .ok (.lcmp, 1) := by decide +kernel
theorem dL_law_999 : decode cL_law 999 = .ok (.ifCond .eq 5, 3) := by decide +kernel
theorem dL_law_1002 : decode cL_law 1002 = .ok (.iconst 0, 1) := by decide +kernel
theorem dL_law_1003 : decode cL_law 1003 = .ok (.ireturn, 1) := by decide +kernel
theorem dL_law_1004 : decode cL_law 1004 = .ok (.goto 28, 3) := by decide +kernel
theorem dL_law_1007 : decode cL_law 1007 = .ok (.aload_n 1, 1) := by decide +kernel
theorem dL_law_1008 : decode cL_law 1008 = .ok (.aload_n 0, 1) := by decide +kernel
theorem dL_law_1009 : decode cL_law 1009 = .ok (.iload 4, 2) := by decide +kernel
theorem dL_law_1011 : decode cL_law 1011 = .ok (.iconst 1, 1) := by decide +kernel
theorem dL_law_1012 : decode cL_law 1012 = .ok (.iadd, 1) := by decide +kernel
theorem dL_law_1013 : decode cL_law 1013 = .ok (.iaload, 1) := by decide +kernel
theorem dL_law_1014 : decode cL_law 1014 = .ok (.invokevirtual 117, 3) := by decide +kernel
theorem dL_law_1017 : decode cL_law 1017 = .ok (.aload_n 2, 1) := by decide +kernel
theorem dL_law_1018 : decode cL_law 1018 = .ok (.aload_n 0, 1) := by decide +kernel
theorem dL_law_1019 : decode cL_law 1019 = .ok (.iload 4, 2) := by decide +kernel
theorem dL_law_1021 : decode cL_law 1021 = .ok (.iconst 1, 1) := by decide +kernel
theorem dL_law_1022 : decode cL_law 1022 = .ok (.iadd, 1) := by decide +kernel
theorem dL_law_1023 : decode cL_law 1023 = .ok (.iaload, 1) := by decide +kernel
theorem dL_law_1024 : decode cL_law 1024 = .ok (.invokevirtual 120, 3) := by decide +kernel
theorem dL_law_1027 : decode cL_law 1027 = .ok (.if_icmp .eq 5, 3) := by decide +kernel
theorem dL_law_1030 : decode cL_law 1030 = .ok (.iconst 0, 1) := by decide +kernel
theorem dL_law_1031 : decode cL_law 1031 = .ok (.ireturn, 1) := by decide +kernel
theorem dL_law_1032 : decode cL_law 1032 = .ok (.iinc 4 5, 3) := by decide +kernel
theorem dL_law_1035 : decode cL_law 1035 = .ok (.goto (-1012), 3) := by decide +kernel
theorem dL_law_1038 : decode cL_law 1038 = .ok (.iconst 1, 1) := by decide +kernel
theorem dL_law_1039 : decode cL_law 1039 = .ok (.ireturn, 1) := by decide +kernel
