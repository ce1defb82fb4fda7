theorem dX4_readAct_122 : decode cX4_readAct 122 = .ok (.aload_n 0, 1) := by decide +kernel
theorem dX4_readAct_123 : decode cX4_readAct 123 = .ok (.invokevirtual 171, 3) := by decide +kernel
theorem dX4_readAct_126 : decode cX4_readAct 126 = .ok (.ifCond .eq 17, 3) := by decide +kernel
theorem dX4_readAct_129 : decode cX4_readAct 129 = .ok (.aload_n 0, 1) := by decide +kernel
theorem dX4_readAct_130 : decode cX4_readAct 130 = .ok (.getstatic 85, 3) := by decide +kernel
theorem dX4_readAct_133 : decode cX4_readAct 133 = .ok (.invokevirtual 64, 3) := by decide +kernel
theorem dX4_readAct_136 : decode cX4_readAct 136 = .ok (.ifCond .eq 7, 3) := by decide +kernel
theorem dX4_readAct_139 : decode cX4_readAct 139 = .ok (.iconst 1, 1) := by decide +kernel
theorem dX4_readAct_140 : decode cX4_readAct 140 = .ok (.goto 4, 3) := by decide +kernel
theorem dX4_readAct_143 : decode cX4_readAct 143 = .ok (.iconst 0, 1) := by decide +kernel
theorem dX4_readAct_144 : decode cX4_readAct 144 = .ok (.ireturn, 1) := by decide +kernel
theorem dX4_readAct_145 : decode cX4_readAct 145 = .ok (.aload_n 0, 1) := by decide +kernel
theorem dX4_readAct_146 : decode cX4_readAct 146 = .ok (.aload_n 3, 1) := by decide +kernel
theorem dX4_readAct_147 : decode cX4_readAct 147 = .ok (.invokevirtual 64, 3) := by decide +kernel
theorem dX4_readAct_150 : decode cX4_readAct 150 = .ok (.ifCond .eq 24, 3) := by decide +kernel
theorem dX4_readAct_153 : decode cX4_readAct 153 = .ok (.aload_n 0, 1) := by decide +kernel
theorem dX4_readAct_154 : decode cX4_readAct 154 = .ok (.invokevirtual 174, 3) := by decide +kernel
theorem dX4_readAct_157 : decode cX4_readAct 157 = .ok (.ifCond .eq 17, 3) := by decide +kernel
theorem dX4_readAct_160 : decode cX4_readAct 160 = .ok (.aload_n 0, 1) := by decide +kernel
theorem dX4_readAct_161 : decode cX4_readAct 161 = .ok (.getstatic 85, 3) := by decide +kernel
theorem dX4_readAct_164 : decode cX4_readAct 164 = .ok (.invokevirtual 64, 3) := by decide +kernel
theorem dX4_readAct_167 : decode cX4_readAct 167 = .ok (.ifCond .eq 7, 3) := by decide +kernel
theorem dX4_readAct_170 : decode cX4_readAct 170 = .ok (.iconst 1, 1) := by decide +kernel
theorem dX4_readAct_171 : decode cX4_readAct 171 = .ok (.goto 4, 3) := by decide +kernel
theorem dX4_readAct_174 : decode cX4_readAct 174 = .ok (.iconst 0, 1) := by decide +kernel
theorem dX4_readAct_175 : decode cX4_readAct 175 = .ok (.ireturn, 1) := by decide +kernel
theorem dX4_readAct_176 : decode cX4_readAct 176 = .ok (.aload_n 0, 1) := by decide +kernel
theorem dX4_readAct_177 : decode cX4_readAct 177 = .ok (.aload_n 3, 1) := by decide +kernel
theorem dX4_readAct_178 : decode cX4_readAct 178 = .ok (.invokevirtual 64, 3) := by decide +kernel
theorem dX4_readAct_181 : decode cX4_readAct 181 = .ok (.ifCond .eq 30, 3) := by decide +kernel
theorem dX4_readAct_184 : decode cX4_readAct 184 = .ok (.aload_n 0, 1) := by decide +kernel
theorem dX4_readAct_185 : decode cX4_readAct 185 = .ok (.invokevirtual 177, 3) := by decide +kernel
theorem dX4_readAct_188 : decode cX4_readAct 188 = .ok (.ifCond .eq 23, 3) := by decide +kernel
theorem dX4_readAct_191 : decode cX4_readAct 191 = .ok (.aload_n 0, 1) := by decide +kernel
theorem dX4_readAct_192 : decode cX4_readAct 192 = .ok (.iload_n 1, 1) := by decide +kernel
theorem dX4_readAct_193 : decode cX4_readAct 193 = .ok (.iload_n 2, 1) := by decide +kernel
theorem dX4_readAct_194 : decode cX4_readAct 194 = .ok (.aload_n 0, 1) := by decide +kernel
theorem dX4_readAct_195 : decode cX4_readAct 195 = .ok (.getfield 9, 3) := by decide +kernel
theorem dX4_readAct_198 : decode cX4_readAct 198 = .ok (.getfield 180, 3) := by decide +kernel
theorem dX4_readAct_201 : decode cX4_readAct 201 = .ok (.invokevirtual 183, 3) := by decide +kernel
theorem dX4_readAct_204 : decode cX4_readAct 204 = .ok (.ifCond .eq 7, 3) := by decide +kernel
theorem dX4_readAct_207 : decode cX4_readAct 207 = .ok (.iconst 1, 1) := by decide +kernel
theorem dX4_readAct_208 : decode cX4_readAct 208 = .ok (.goto 4, 3) := by decide +kernel
theorem dX4_readAct_211 : decode cX4_readAct 211 = .ok (.iconst 0, 1) := by decide +kernel
theorem dX4_readAct_212 : decode cX4_readAct 212 = .ok (.ireturn, 1) := by decide +kernel
theorem dX4_readAct_213 : decode cX4_readAct 213 = .ok (.aload_n 0, 1) := by decide +kernel
theorem dX4_readAct_214 : decode cX4_readAct 214 = .ok (.aload_n 3, 1) := by decide +kernel
theorem dX4_readAct_215 : decode cX4_readAct 215 = .ok (.invokevirtual 64, 3) := by decide +kernel
theorem dX4_readAct_218 : decode cX4_readAct 218 = .ok (.ifCond .eq 66, 3) := by decide +kernel
theorem dX4_readAct_221 : decode cX4_readAct 221 = .ok (.aload_n 0, 1) := by decide +kernel
theorem dX4_readAct_222 : decode cX4_readAct 222 = .ok (.invokevirtual 177, 3) := by decide +kernel
theorem dX4_readAct_225 : decode cX4_readAct 225 = .ok (.ifCond .eq 59, 3) := by decide +kernel
theorem dX4_readAct_228 : decode cX4_readAct 228 = .ok (.aload_n 0, 1) := by decide +kernel
theorem dX4_readAct_229 : decode cX4_readAct 229 = .ok (.iload_n 1, 1) := by decide +kernel
theorem dX4_readAct_230 : decode cX4_readAct 230 = .ok (.iload_n 2, 1) := by decide +kernel
theorem dX4_readAct_231 : decode cX4_readAct 231 = .ok (.aload_n 0, 1) := by decide +kernel
theorem dX4_readAct_232 : decode cX4_readAct 232 = .ok (.getfield 9, 3) := by decide +kernel
theorem dX4_readAct_235 : decode cX4_readAct 235 = .ok (.getfield 180, 3) := by decide +kernel
theorem dX4_readAct_238 : decode cX4_readAct 238 = .ok (.invokevirtual 183, 3) := by decide +kernel
theorem dX4_readAct_241 : decode cX4_readAct 241 = .ok (.ifCond .eq 43, 3) := by decide +kernel
theorem dX4_readAct_244 : decode cX4_readAct 244 = .ok (.aload_n 0, 1) := by decide +kernel
theorem dX4_readAct_245 : decode cX4_readAct 245 = .ok (.getfield 28, 3) := by decide +kernel
theorem dX4_readAct_248 : decode cX4_readAct 248 = .ok (.getstatic 187, 3) := by decide +kernel
theorem dX4_readAct_251 : decode cX4_readAct 251 = .ok (.if_acmp .ne 29, 3) := by decide +kernel
theorem dX4_readAct_254 : decode cX4_readAct 254 = .ok (.aload_n 0, 1) := by decide +kernel
theorem dX4_readAct_255 : decode cX4_readAct 255 = .ok (.getstatic 187, 3) := by decide +kernel
theorem dX4_readAct_258 : decode cX4_readAct 258 = .ok (.invokevirtual 64, 3) := by decide +kernel
theorem dX4_readAct_261 : decode cX4_readAct 261 = .ok (.ifCond .eq 23, 3) := by decide +kernel
theorem dX4_readAct_264 : decode cX4_readAct 264 = .ok (.aload_n 0, 1) := by decide +kernel
theorem dX4_readAct_265 : decode cX4_readAct 265 = .ok (.iload_n 1, 1) := by decide +kernel
theorem dX4_readAct_266 : decode cX4_readAct 266 = .ok (.iload_n 2, 1) := by decide +kernel
theorem dX4_readAct_267 : decode cX4_readAct 267 = .ok (.aload_n 0, 1) := by decide +kernel
theorem dX4_readAct_268 : decode cX4_readAct 268 = .ok (.getfield 9, 3) := by decide +kernel
theorem dX4_readAct_271 : decode cX4_readAct 271 = .ok (.getfield 190, 3) := by decide +kernel
theorem dX4_readAct_274 : decode cX4_readAct 274 = .ok (.invokevirtual 183, 3) := by decide +kernel
theorem dX4_readAct_277 : decode cX4_readAct 277 = .ok (.ifCond .eq 7, 3) := by decide +kernel
theorem dX4_readAct_280 : decode cX4_readAct 280 = .ok (.iconst 1, 1) := by decide +kernel
theorem dX4_readAct_281 : decode cX4_readAct 281 = .ok (.goto 4, 3) := by decide +kernel
theorem dX4_readAct_284 : decode cX4_readAct 284 = .ok (.iconst 0, 1) := by decide +kernel
theorem dX4_readAct_285 : decode cX4_readAct 285 = .ok (.ireturn, 1) := by decide +kernel
theorem dX4_readAct_286 : decode cX4_readAct 286 = .ok (.iconst 0, 1) := by decide +kernel
theorem dX4_readAct_287 : decode cX4_readAct 287 = .ok (.ireturn, 1) := by decide +kernel
theorem dX4_readBlockOf_0 : decode cX4_readBlockOf 0 = .ok (.aload_n 0, 1) := by decide +kernel
theorem dX4_readBlockOf_1 : decode cX4_readBlockOf 1 = .ok (.getfield 9, 3) := by decide +kernel
theorem dX4_readBlockOf_4 : decode cX4_readBlockOf 4 = .ok (.getfield 119, 3) := by decide +kernel
theorem dX4_readBlockOf_7 : decode cX4_readBlockOf 7 = .ok (.istore 4, 2) := by decide +kernel
theorem dX4_readBlockOf_9 : decode cX4_readBlockOf 9 = .ok (.aload_n 0, 1) := by decide +kernel
theorem dX4_readBlockOf_10 : decode cX4_readBlockOf 10 = .ok (.iload_n 1, 1) := by decide +kernel
theorem dX4_readBlockOf_11 : decode cX4_readBlockOf 11 = .ok (.iload_n 2, 1) := by decide +kernel
theorem dX4_readBlockOf_12 : decode cX4_readBlockOf 12 = .ok (.iconst 1, 1) := by decide +kernel
theorem dX4_readBlockOf_13 : decode cX4_readBlockOf 13 = .ok (.iadd, 1) := by decide +kernel
theorem dX4_readBlockOf_14 : decode cX4_readBlockOf 14 = .ok (.invokevirtual 125, 3) := by decide +kernel
theorem dX4_readBlockOf_17 : decode cX4_readBlockOf 17 = .ok (.istore 5, 2) := by decide +kernel
theorem dX4_readBlockOf_19 : decode cX4_readBlockOf 19 = .ok (.iload_n 1, 1) := by decide +kernel
theorem dX4_readBlockOf_20 : decode cX4_readBlockOf 20 = .ok (.ifCond .lt 21, 3) := by decide +kernel
theorem dX4_readBlockOf_23 : decode cX4_readBlockOf 23 = .ok (.iload_n 1, 1) := by decide +kernel
theorem dX4_readBlockOf_24 : decode cX4_readBlockOf 24 = .ok (.aload_n 3, 1) := by decide +kernel
theorem dX4_readBlockOf_25 : decode cX4_readBlockOf 25 = .ok (.arraylength, 1) := by decide +kernel
theorem dX4_readBlockOf_26 : decode cX4_readBlockOf 26 = .ok (.if_icmp .ge 15, 3) := by decide +kernel
theorem dX4_readBlockOf_29 : decode cX4_readBlockOf 29 = .ok (.aload_n 3, 1) := by decide +kernel
theorem dX4_readBlockOf_30 : decode cX4_readBlockOf 30 = .ok (.iload_n 1, 1) := by decide +kernel
theorem dX4_readBlockOf_31 : decode cX4_readBlockOf 31 = .ok (.aload_n 0, 1) := by decide +kernel
theorem dX4_readBlockOf_32 : decode cX4_readBlockOf 32 = .ok (.getfield 9, 3) := by decide +kernel
theorem dX4_readBlockOf_35 : decode cX4_readBlockOf 35 = .ok (.iload 4, 2) := by decide +kernel
theorem dX4_readBlockOf_37 : decode cX4_readBlockOf 37 = .ok (.invokevirtual 128, 3) := by decide +kernel
theorem dX4_readBlockOf_40 : decode cX4_readBlockOf 40 = .ok (.iastore, 1) := by decide +kernel
theorem dX4_readBlockOf_41 : decode cX4_readBlockOf 41 = .ok (.iload 5, 2) := by decide +kernel
theorem dX4_readBlockOf_43 : decode cX4_readBlockOf 43 = .ok (.ireturn, 1) := by decide +kernel
theorem dX4_takeCompares_0 : decode cX4_takeCompares 0 = .ok (.iconst 0, 1) := by decide +kernel
theorem dX4_takeCompares_1 : decode cX4_takeCompares 1 = .ok (.istore_n 1, 1) := by decide +kernel
theorem dX4_takeCompares_2 : decode cX4_takeCompares 2 = .ok (.iload_n 1, 1) := by decide +kernel
theorem dX4_takeCompares_3 : decode cX4_takeCompares 3 = .ok (.sipush 400, 3) := by decide +kernel
theorem dX4_takeCompares_6 : decode cX4_takeCompares 6 = .ok (.if_icmp .ge 66, 3) := by decide +kernel
theorem dX4_takeCompares_9 : decode cX4_takeCompares 9 = .ok (.aload_n 0, 1) := by decide +kernel
theorem dX4_takeCompares_10 : decode cX4_takeCompares 10 = .ok (.invokevirtual 171, 3) := by decide +kernel
theorem dX4_takeCompares_13 : decode cX4_takeCompares 13 = .ok (.ifCond .eq 31, 3) := by decide +kernel
theorem dX4_takeCompares_16 : decode cX4_takeCompares 16 = .ok (.aload_n 0, 1) := by decide +kernel
theorem dX4_takeCompares_17 : decode cX4_takeCompares 17 = .ok (.getfield 28, 3) := by decide +kernel
theorem dX4_takeCompares_20 : decode cX4_takeCompares 20 = .ok (.invokevirtual 193, 3) := by decide +kernel
theorem dX4_takeCompares_23 : decode cX4_takeCompares 23 = .ok (.ifCond .eq 21, 3) := by decide +kernel
theorem dX4_takeCompares_26 : decode cX4_takeCompares 26 = .ok (.aload_n 0, 1) := by decide +kernel
theorem dX4_takeCompares_27 : decode cX4_takeCompares 27 = .ok (.aload_n 0, 1) := by decide +kernel
theorem dX4_takeCompares_28 : decode cX4_takeCompares 28 = .ok (.getfield 28, 3) := by decide +kernel
theorem dX4_takeCompares_31 : decode cX4_takeCompares 31 = .ok (.invokevirtual 64, 3) := by decide +kernel
theorem dX4_takeCompares_34 : decode cX4_takeCompares 34 = .ok (.ifCond .eq 10, 3) := by decide +kernel
theorem dX4_takeCompares_37 : decode cX4_takeCompares 37 = .ok (.aload_n 0, 1) := by decide +kernel
theorem dX4_takeCompares_38 : decode cX4_takeCompares 38 = .ok (.invokevirtual 171, 3) := by decide +kernel
theorem dX4_takeCompares_41 : decode cX4_takeCompares 41 = .ok (.ifCond .ne 5, 3) := by decide +kernel
theorem dX4_takeCompares_44 : decode cX4_takeCompares 44 = .ok (.iconst 0, 1) := by decide +kernel
theorem dX4_takeCompares_45 : decode cX4_takeCompares 45 = .ok (.ireturn, 1) := by decide +kernel
theorem dX4_takeCompares_46 : decode cX4_takeCompares 46 = .ok (.aload_n 0, 1) := by decide +kernel
theorem dX4_takeCompares_47 : decode cX4_takeCompares 47 = .ok (.getfield 28, 3) := by decide +kernel
theorem dX4_takeCompares_50 : decode cX4_takeCompares 50 = .ok (.getstatic 196, 3) := by decide +kernel
theorem dX4_takeCompares_53 : decode cX4_takeCompares 53 = .ok (.if_acmp .eq 5, 3) := by decide +kernel
theorem dX4_takeCompares_56 : decode cX4_takeCompares 56 = .ok (.iconst 1, 1) := by decide +kernel
theorem dX4_takeCompares_57 : decode cX4_takeCompares 57 = .ok (.ireturn, 1) := by decide +kernel
theorem dX4_takeCompares_58 : decode cX4_takeCompares 58 = .ok (.aload_n 0, 1) := by decide +kernel
theorem dX4_takeCompares_59 : decode cX4_takeCompares 59 = .ok (.getstatic 196, 3) := by decide +kernel
theorem dX4_takeCompares_62 : decode cX4_takeCompares 62 = .ok (.invokevirtual 64, 3) := by decide +kernel
theorem dX4_takeCompares_65 : decode cX4_takeCompares 65 = .ok (.pop, 1) := by decide +kernel
theorem dX4_takeCompares_66 : decode cX4_takeCompares 66 = .ok (.iinc 1 1, 3) := by decide +kernel
theorem dX4_takeCompares_69 : decode cX4_takeCompares 69 = .ok (.goto (-67), 3) := by decide +kernel
theorem dX4_takeCompares_72 : decode cX4_takeCompares 72 = .ok (.iconst 0, 1) := by decide +kernel
theorem dX4_takeCompares_73 : decode cX4_takeCompares 73 = .ok (.ireturn, 1) := by decide +kernel
theorem dX4_takeValue_0 : decode cX4_takeValue 0 = .ok (.aload_n 0, 1) := by decide +kernel
theorem dX4_takeValue_1 : decode cX4_takeValue 1 = .ok (.getfield 28, 3) := by decide +kernel
theorem dX4_takeValue_4 : decode cX4_takeValue 4 = .ok (.invokevirtual 199, 3) := by decide +kernel
theorem dX4_takeValue_7 : decode cX4_takeValue 7 = .ok (.ifCond .eq 12, 3) := by decide +kernel
theorem dX4_takeValue_10 : decode cX4_takeValue 10 = .ok (.aload_n 0, 1) := by decide +kernel
theorem dX4_takeValue_11 : decode cX4_takeValue 11 = .ok (.aload_n 0, 1) := by decide +kernel
theorem dX4_takeValue_12 : decode cX4_takeValue 12 = .ok (.getfield 28, 3) := by decide +kernel
theorem dX4_takeValue_15 : decode cX4_takeValue 15 = .ok (.invokevirtual 64, 3) := by decide +kernel
theorem dX4_takeValue_18 : decode cX4_takeValue 18 = .ok (.ireturn, 1) := by decide +kernel
theorem dX4_takeValue_19 : decode cX4_takeValue 19 = .ok (.aload_n 0, 1) := by decide +kernel
theorem dX4_takeValue_20 : decode cX4_takeValue 20 = .ok (.iconst 0, 1) := by decide +kernel
theorem dX4_takeValue_21 : decode cX4_takeValue 21 = .ok (.bipush 99, 2) := by decide +kernel
theorem dX4_takeValue_23 : decode cX4_takeValue 23 = .ok (.invokevirtual 202, 3) := by decide +kernel
theorem dX4_takeValue_26 : decode cX4_takeValue 26 = .ok (.aload_n 0, 1) := by decide +kernel
theorem dX4_takeValue_27 : decode cX4_takeValue 27 = .ok (.getstatic 206, 3) := by decide +kernel
theorem dX4_takeValue_30 : decode cX4_takeValue 30 = .ok (.invokevirtual 64, 3) := by decide +kernel
theorem dX4_takeValue_33 : decode cX4_takeValue 33 = .ok (.ireturn, 1) := by decide +kernel
theorem dX4_takeWho_0 : decode cX4_takeWho 0 = .ok (.aload_n 0, 1) := by decide +kernel
theorem dX4_takeWho_1 : decode cX4_takeWho 1 = .ok (.getfield 28, 3) := by decide +kernel
theorem dX4_takeWho_4 : decode cX4_takeWho 4 = .ok (.invokevirtual 209, 3) := by decide +kernel
theorem dX4_takeWho_7 : decode cX4_takeWho 7 = .ok (.ifCond .eq 12, 3) := by decide +kernel
theorem dX4_takeWho_10 : decode cX4_takeWho 10 = .ok (.aload_n 0, 1) := by decide +kernel
theorem dX4_takeWho_11 : decode cX4_takeWho 11 = .ok (.aload_n 0, 1) := by decide +kernel
theorem dX4_takeWho_12 : decode cX4_takeWho 12 = .ok (.getfield 28, 3) := by decide +kernel
theorem dX4_takeWho_15 : decode cX4_takeWho 15 = .ok (.invokevirtual 64, 3) := by decide +kernel
theorem dX4_takeWho_18 : decode cX4_takeWho 18 = .ok (.ireturn, 1) := by decide +kernel
theorem dX4_takeWho_19 : decode cX4_takeWho 19 = .ok (.aload_n 0, 1) := by decide +kernel
theorem dX4_takeWho_20 : decode cX4_takeWho 20 = .ok (.getfield 9, 3) := by decide +kernel
theorem dX4_takeWho_23 : decode cX4_takeWho 23 = .ok (.aload_n 0, 1) := by decide +kernel
theorem dX4_takeWho_24 : decode cX4_takeWho 24 = .ok (.getfield 21, 3) := by decide +kernel
theorem dX4_takeWho_27 : decode cX4_takeWho 27 = .ok (.aload_n 0, 1) := by decide +kernel
theorem dX4_takeWho_28 : decode cX4_takeWho 28 = .ok (.getfield 44, 3) := by decide +kernel
theorem dX4_takeWho_31 : decode cX4_takeWho 31 = .ok (.invokevirtual 88, 3) := by decide +kernel
theorem dX4_takeWho_34 : decode cX4_takeWho 34 = .ok (.invokevirtual 212, 3) := by decide +kernel
theorem dX4_takeWho_37 : decode cX4_takeWho 37 = .ok (.istore_n 1, 1) := by decide +kernel
theorem dX4_takeWho_38 : decode cX4_takeWho 38 = .ok (.iload_n 1, 1) := by decide +kernel
theorem dX4_takeWho_39 : decode cX4_takeWho 39 = .ok (.iconst (-1), 1) := by decide +kernel
theorem dX4_takeWho_40 : decode cX4_takeWho 40 = .ok (.if_icmp .ne 8, 3) := by decide +kernel
theorem dX4_takeWho_43 : decode cX4_takeWho 43 = .ok (.aload_n 0, 1) := by decide +kernel
theorem dX4_takeWho_44 : decode cX4_takeWho 44 = .ok (.iconst 3, 1) := by decide +kernel
theorem dX4_takeWho_45 : decode cX4_takeWho 45 = .ok (.invokevirtual 112, 3) := by decide +kernel
theorem dX4_takeWho_48 : decode cX4_takeWho 48 = .ok (.aload_n 0, 1) := by decide +kernel
theorem dX4_takeWho_49 : decode cX4_takeWho 49 = .ok (.getfield 21, 3) := by decide +kernel
theorem dX4_takeWho_52 : decode cX4_takeWho 52 = .ok (.aload_n 0, 1) := by decide +kernel
theorem dX4_takeWho_53 : decode cX4_takeWho 53 = .ok (.getfield 44, 3) := by decide +kernel
theorem dX4_takeWho_56 : decode cX4_takeWho 56 = .ok (.iload_n 1, 1) := by decide +kernel
theorem dX4_takeWho_57 : decode cX4_takeWho 57 = .ok (.invokevirtual 216, 3) := by decide +kernel
theorem dX4_takeWho_60 : decode cX4_takeWho 60 = .ok (.aload_n 0, 1) := by decide +kernel
theorem dX4_takeWho_61 : decode cX4_takeWho 61 = .ok (.getstatic 219, 3) := by decide +kernel
theorem dX4_takeWho_64 : decode cX4_takeWho 64 = .ok (.invokevirtual 64, 3) := by decide +kernel
theorem dX4_takeWho_67 : decode cX4_takeWho 67 = .ok (.ireturn, 1) := by decide +kernel
theorem dX4_takePlanName_0 : decode cX4_takePlanName 0 = .ok (.aload_n 0, 1) := by decide +kernel
theorem dX4_takePlanName_1 : decode cX4_takePlanName 1 = .ok (.getfield 9, 3) := by decide +kernel
theorem dX4_takePlanName_4 : decode cX4_takePlanName 4 = .ok (.aload_n 0, 1) := by decide +kernel
theorem dX4_takePlanName_5 : decode cX4_takePlanName 5 = .ok (.getfield 21, 3) := by decide +kernel
theorem dX4_takePlanName_8 : decode cX4_takePlanName 8 = .ok (.aload_n 0, 1) := by decide +kernel
theorem dX4_takePlanName_9 : decode cX4_takePlanName 9 = .ok (.getfield 44, 3) := by decide +kernel
theorem dX4_takePlanName_12 : decode cX4_takePlanName 12 = .ok (.invokevirtual 88, 3) := by decide +kernel
theorem dX4_takePlanName_15 : decode cX4_takePlanName 15 = .ok (.invokevirtual 222, 3) := by decide +kernel
theorem dX4_takePlanName_18 : decode cX4_takePlanName 18 = .ok (.istore_n 1, 1) := by decide +kernel
theorem dX4_takePlanName_19 : decode cX4_takePlanName 19 = .ok (.iload_n 1, 1) := by decide +kernel
theorem dX4_takePlanName_20 : decode cX4_takePlanName 20 = .ok (.iconst (-1), 1) := by decide +kernel
theorem dX4_takePlanName_21 : decode cX4_takePlanName 21 = .ok (.if_icmp .ne 8, 3) := by decide +kernel
theorem dX4_takePlanName_24 : decode cX4_takePlanName 24 = .ok (.aload_n 0, 1) := by decide +kernel
theorem dX4_takePlanName_25 : decode cX4_takePlanName 25 = .ok (.iconst 3, 1) := by decide +kernel
theorem dX4_takePlanName_26 : decode cX4_takePlanName 26 = .ok (.invokevirtual 112, 3) := by decide +kernel
theorem dX4_takePlanName_29 : decode cX4_takePlanName 29 = .ok (.aload_n 0, 1) := by decide +kernel
theorem dX4_takePlanName_30 : decode cX4_takePlanName 30 = .ok (.getfield 21, 3) := by decide +kernel
theorem dX4_takePlanName_33 : decode cX4_takePlanName 33 = .ok (.aload_n 0, 1) := by decide +kernel
theorem dX4_takePlanName_34 : decode cX4_takePlanName 34 = .ok (.getfield 44, 3) := by decide +kernel
theorem dX4_takePlanName_37 : decode cX4_takePlanName 37 = .ok (.iload_n 1, 1) := by decide +kernel
theorem dX4_takePlanName_38 : decode cX4_takePlanName 38 = .ok (.invokevirtual 216, 3) := by decide +kernel
theorem dX4_takePlanName_41 : decode cX4_takePlanName 41 = .ok (.aload_n 0, 1) := by decide +kernel
theorem dX4_takePlanName_42 : decode cX4_takePlanName 42 = .ok (.getstatic 219, 3) := by decide +kernel
theorem dX4_takePlanName_45 : decode cX4_takePlanName 45 = .ok (.invokevirtual 64, 3) := by decide +kernel
theorem dX4_takePlanName_48 : decode cX4_takePlanName 48 = .ok (.ireturn, 1) := by decide +kernel
theorem dX4_takeNewName_0 : decode cX4_takeNewName 0 = .ok (.aload_n 0, 1) := by decide +kernel
theorem dX4_takeNewName_1 : decode cX4_takeNewName 1 = .ok (.getfield 21, 3) := by decide +kernel
theorem dX4_takeNewName_4 : decode cX4_takeNewName 4 = .ok (.aload_n 0, 1) := by decide +kernel
theorem dX4_takeNewName_5 : decode cX4_takeNewName 5 = .ok (.getfield 44, 3) := by decide +kernel
theorem dX4_takeNewName_8 : decode cX4_takeNewName 8 = .ok (.invokevirtual 88, 3) := by decide +kernel
theorem dX4_takeNewName_11 : decode cX4_takeNewName 11 = .ok (.lstore_n 2, 1) := by decide +kernel
theorem dX4_takeNewName_12 : decode cX4_takeNewName 12 = .ok (.aload_n 0, 1) := by decide +kernel
theorem dX4_takeNewName_13 : decode cX4_takeNewName 13 = .ok (.getfield 9, 3) := by decide +kernel
theorem dX4_takeNewName_16 : decode cX4_takeNewName 16 = .ok (.lload_n 2, 1) := by decide +kernel
theorem dX4_takeNewName_17 : decode cX4_takeNewName 17 = .ok (.invokevirtual 212, 3) := by decide +kernel
theorem dX4_takeNewName_20 : decode cX4_takeNewName 20 = .ok (.iconst (-1), 1) := by decide +kernel
theorem dX4_takeNewName_21 : decode cX4_takeNewName 21 = .ok (.if_icmp .ne 15, 3) := by decide +kernel
theorem dX4_takeNewName_24 : decode cX4_takeNewName 24 = .ok (.aload_n 0, 1) := by decide +kernel
theorem dX4_takeNewName_25 : decode cX4_takeNewName 25 = .ok (.getfield 9, 3) := by decide +kernel
theorem dX4_takeNewName_28 : decode cX4_takeNewName 28 = .ok (.lload_n 2, 1) := by decide +kernel
theorem dX4_takeNewName_29 : decode cX4_takeNewName 29 = .ok (.invokevirtual 222, 3) := by decide +kernel
theorem dX4_takeNewName_32 : decode cX4_takeNewName 32 = .ok (.iconst (-1), 1) := by decide +kernel
theorem dX4_takeNewName_33 : decode cX4_takeNewName 33 = .ok (.if_icmp .eq 11, 3) := by decide +kernel
theorem dX4_takeNewName_36 : decode cX4_takeNewName 36 = .ok (.aload_n 0, 1) := by decide +kernel
theorem dX4_takeNewName_37 : decode cX4_takeNewName 37 = .ok (.iconst 2, 1) := by decide +kernel
theorem dX4_takeNewName_38 : decode cX4_takeNewName 38 = .ok (.invokevirtual 112, 3) := by decide +kernel
theorem dX4_takeNewName_41 : decode cX4_takeNewName 41 = .ok (.goto 12, 3) := by decide +kernel
theorem dX4_takeNewName_44 : decode cX4_takeNewName 44 = .ok (.iload_n 1, 1) := by decide +kernel
theorem dX4_takeNewName_45 : decode cX4_takeNewName 45 = .ok (.ifCond .eq 8, 3) := by decide +kernel
theorem dX4_takeNewName_48 : decode cX4_takeNewName 48 = .ok (.aload_n 0, 1) := by decide +kernel
theorem dX4_takeNewName_49 : decode cX4_takeNewName 49 = .ok (.iconst 4, 1) := by decide +kernel
theorem dX4_takeNewName_50 : decode cX4_takeNewName 50 = .ok (.invokevirtual 112, 3) := by decide +kernel
theorem dX4_takeNewName_53 : decode cX4_takeNewName 53 = .ok (.aload_n 0, 1) := by decide +kernel
theorem dX4_takeNewName_54 : decode cX4_takeNewName 54 = .ok (.getstatic 219, 3) := by decide +kernel
theorem dX4_takeNewName_57 : decode cX4_takeNewName 57 = .ok (.invokevirtual 64, 3) := by decide +kernel
theorem dX4_takeNewName_60 : decode cX4_takeNewName 60 = .ok (.ireturn, 1) := by decide +kernel
theorem dX4_takePlank_0 : decode cX4_takePlank 0 = .ok (.aload_n 0, 1) := by decide +kernel
theorem dX4_takePlank_1 : decode cX4_takePlank 1 = .ok (.getfield 9, 3) := by decide +kernel
theorem dX4_takePlank_4 : decode cX4_takePlank 4 = .ok (.getfield 109, 3) := by decide +kernel
theorem dX4_takePlank_7 : decode cX4_takePlank 7 = .ok (.bipush 12, 2) := by decide +kernel
theorem dX4_takePlank_9 : decode cX4_takePlank 9 = .ok (.if_icmp .lt 8, 3) := by decide +kernel
theorem dX4_takePlank_12 : decode cX4_takePlank 12 = .ok (.aload_n 0, 1) := by decide +kernel
theorem dX4_takePlank_13 : decode cX4_takePlank 13 = .ok (.iconst 4, 1) := by decide +kernel
theorem dX4_takePlank_14 : decode cX4_takePlank 14 = .ok (.invokevirtual 112, 3) := by decide +kernel
theorem dX4_takePlank_17 : decode cX4_takePlank 17 = .ok (.aload_n 0, 1) := by decide +kernel
theorem dX4_takePlank_18 : decode cX4_takePlank 18 = .ok (.getfield 9, 3) := by decide +kernel
theorem dX4_takePlank_21 : decode cX4_takePlank 21 = .ok (.aload_n 0, 1) := by decide +kernel
theorem dX4_takePlank_22 : decode cX4_takePlank 22 = .ok (.getfield 21, 3) := by decide +kernel
theorem dX4_takePlank_25 : decode cX4_takePlank 25 = .ok (.aload_n 0, 1) := by decide +kernel
theorem dX4_takePlank_26 : decode cX4_takePlank 26 = .ok (.getfield 44, 3) := by decide +kernel
theorem dX4_takePlank_29 : decode cX4_takePlank 29 = .ok (.invokevirtual 92, 3) := by decide +kernel
theorem dX4_takePlank_32 : decode cX4_takePlank 32 = .ok (.invokevirtual 225, 3) := by decide +kernel
theorem dX4_takePlank_35 : decode cX4_takePlank 35 = .ok (.aload_n 0, 1) := by decide +kernel
theorem dX4_takePlank_36 : decode cX4_takePlank 36 = .ok (.iconst 1, 1) := by decide +kernel
theorem dX4_takePlank_37 : decode cX4_takePlank 37 = .ok (.bipush 30, 2) := by decide +kernel
theorem dX4_takePlank_39 : decode cX4_takePlank 39 = .ok (.invokevirtual 78, 3) := by decide +kernel
theorem dX4_takePlank_42 : decode cX4_takePlank 42 = .ok (.ireturn, 1) := by decide +kernel
theorem dX4_takeNumber_0 : decode cX4_takeNumber 0 = .ok (.aload_n 0, 1) := by decide +kernel
theorem dX4_takeNumber_1 : decode cX4_takeNumber 1 = .ok (.iload_n 1, 1) := by decide +kernel
theorem dX4_takeNumber_2 : decode cX4_takeNumber 2 = .ok (.iload_n 2, 1) := by decide +kernel
theorem dX4_takeNumber_3 : decode cX4_takeNumber 3 = .ok (.invokevirtual 202, 3) := by decide +kernel
theorem dX4_takeNumber_6 : decode cX4_takeNumber 6 = .ok (.aload_n 0, 1) := by decide +kernel
theorem dX4_takeNumber_7 : decode cX4_takeNumber 7 = .ok (.getstatic 206, 3) := by decide +kernel
theorem dX4_takeNumber_10 : decode cX4_takeNumber 10 = .ok (.invokevirtual 64, 3) := by decide +kernel
theorem dX4_takeNumber_13 : decode cX4_takeNumber 13 = .ok (.ireturn, 1) := by decide +kernel
theorem dX4_markOutside_0 : decode cX4_markOutside 0 = .ok (.aload_n 0, 1) := by decide +kernel
theorem dX4_markOutside_1 : decode cX4_markOutside 1 = .ok (.getfield 21, 3) := by decide +kernel
theorem dX4_markOutside_4 : decode cX4_markOutside 4 = .ok (.aload_n 0, 1) := by decide +kernel
theorem dX4_markOutside_5 : decode cX4_markOutside 5 = .ok (.getfield 44, 3) := by decide +kernel
theorem dX4_markOutside_8 : decode cX4_markOutside 8 = .ok (.invokevirtual 92, 3) := by decide +kernel
theorem dX4_markOutside_11 : decode cX4_markOutside 11 = .ok (.istore_n 3, 1) := by decide +kernel
theorem dX4_markOutside_12 : decode cX4_markOutside 12 = .ok (.iload_n 3, 1) := by decide +kernel
theorem dX4_markOutside_13 : decode cX4_markOutside 13 = .ok (.iload_n 1, 1) := by decide +kernel
theorem dX4_markOutside_14 : decode cX4_markOutside 14 = .ok (.if_icmp .lt 8, 3) := by decide +kernel
theorem dX4_markOutside_17 : decode cX4_markOutside 17 = .ok (.iload_n 3, 1) := by decide +kernel
theorem dX4_markOutside_18 : decode cX4_markOutside 18 = .ok (.iload_n 2, 1) := by decide +kernel
theorem dX4_markOutside_19 : decode cX4_markOutside 19 = .ok (.if_icmp .le 8, 3) := by decide +kernel
theorem dX4_markOutside_22 : decode cX4_markOutside 22 = .ok (.aload_n 0, 1) := by decide +kernel
theorem dX4_markOutside_23 : decode cX4_markOutside 23 = .ok (.iconst 5, 1) := by decide +kernel
theorem dX4_markOutside_24 : decode cX4_markOutside 24 = .ok (.invokevirtual 112, 3) := by decide +kernel
theorem dX4_markOutside_27 : decode cX4_markOutside 27 = .ok (.return_, 1) := by decide +kernel
theorem dX4_take_0 : decode cX4_take 0 = .ok (.aload_n 0, 1) := by decide +kernel
theorem dX4_take_1 : decode cX4_take 1 = .ok (.getfield 28, 3) := by decide +kernel
theorem dX4_take_4 : decode cX4_take 4 = .ok (.aload_n 1, 1) := by decide +kernel
theorem dX4_take_5 : decode cX4_take 5 = .ok (.if_acmp .eq 5, 3) := by decide +kernel
theorem dX4_take_8 : decode cX4_take 8 = .ok (.iconst 0, 1) := by decide +kernel
theorem dX4_take_9 : decode cX4_take 9 = .ok (.ireturn, 1) := by decide +kernel
theorem dX4_take_10 : decode cX4_take 10 = .ok (.aload_n 0, 1) := by decide +kernel
theorem dX4_take_11 : decode cX4_take 11 = .ok (.dup, 1) := by decide +kernel
theorem dX4_take_12 : decode cX4_take 12 = .ok (.getfield 44, 3) := by decide +kernel
theorem dX4_take_15 : decode cX4_take 15 = .ok (.iconst 1, 1) := by decide +kernel
theorem dX4_take_16 : decode cX4_take 16 = .ok (.iadd, 1) := by decide +kernel
theorem dX4_take_17 : decode cX4_take 17 = .ok (.putfield 44, 3) := by decide +kernel
theorem dX4_take_20 : decode cX4_take 20 = .ok (.aload_n 0, 1) := by decide +kernel
theorem dX4_take_21 : decode cX4_take 21 = .ok (.aload_n 0, 1) := by decide +kernel
theorem dX4_take_22 : decode cX4_take 22 = .ok (.getfield 21, 3) := by decide +kernel
theorem dX4_take_25 : decode cX4_take 25 = .ok (.aload_n 0, 1) := by decide +kernel
theorem dX4_take_26 : decode cX4_take 26 = .ok (.getfield 44, 3) := by decide +kernel
theorem dX4_take_29 : decode cX4_take 29 = .ok (.invokevirtual 47, 3) := by decide +kernel
theorem dX4_take_32 : decode cX4_take 32 = .ok (.putfield 28, 3) := by decide +kernel
theorem dX4_take_35 : decode cX4_take 35 = .ok (.iconst 1, 1) := by decide +kernel
theorem dX4_take_36 : decode cX4_take 36 = .ok (.ireturn, 1) := by decide +kernel
theorem dX4_mark_0 : decode cX4_mark 0 = .ok (.aload_n 0, 1) := by decide +kernel
theorem dX4_mark_1 : decode cX4_mark 1 = .ok (.getfield 51, 3) := by decide +kernel
theorem dX4_mark_4 : decode cX4_mark 4 = .ok (.ifCond .ne 16, 3) := by decide +kernel
theorem dX4_mark_7 : decode cX4_mark 7 = .ok (.aload_n 0, 1) := by decide +kernel
theorem dX4_mark_8 : decode cX4_mark 8 = .ok (.iload_n 1, 1) := by decide +kernel
theorem dX4_mark_9 : decode cX4_mark 9 = .ok (.putfield 51, 3) := by decide +kernel
theorem dX4_mark_12 : decode cX4_mark 12 = .ok (.aload_n 0, 1) := by decide +kernel
theorem dX4_mark_13 : decode cX4_mark 13 = .ok (.aload_n 0, 1) := by decide +kernel
theorem dX4_mark_14 : decode cX4_mark 14 = .ok (.getfield 44, 3) := by decide +kernel
theorem dX4_mark_17 : decode cX4_mark 17 = .ok (.putfield 31, 3) := by decide +kernel
theorem dX4_mark_20 : decode cX4_mark 20 = .ok (.return_, 1) := by decide +kernel
theorem dX5_init_0 : decode cX5_init 0 = .ok (.aload_n 0, 1) := by decide +kernel
theorem dX5_init_1 : decode cX5_init 1 = .ok (.invokespecial 3, 3) := by decide +kernel
theorem dX5_init_4 : decode cX5_init 4 = .ok (.aload_n 0, 1) := by decide +kernel
theorem dX5_init_5 : decode cX5_init 5 = .ok (.bipush 6, 2) := by decide +kernel
theorem dX5_init_7 : decode cX5_init 7 = .ok (.newarray .int, 2) := by decide +kernel
theorem dX5_init_9 : decode cX5_init 9 = .ok (.putfield 9, 3) := by decide +kernel
theorem dX5_init_12 : decode cX5_init 12 = .ok (.aload_n 0, 1) := by decide +kernel
theorem dX5_init_13 : decode cX5_init 13 = .ok (.aload_n 1, 1) := by decide +kernel
theorem dX5_init_14 : decode cX5_init 14 = .ok (.putfield 15, 3) := by decide +kernel
theorem dX5_init_17 : decode cX5_init 17 = .ok (.aload_n 0, 1) := by decide +kernel
theorem dX5_init_18 : decode cX5_init 18 = .ok (.aload_n 2, 1) := by decide +kernel
theorem dX5_init_19 : decode cX5_init 19 = .ok (.putfield 19, 3) := by decide +kernel
theorem dX5_init_22 : decode cX5_init 22 = .ok (.return_, 1) := by decide +kernel
theorem dX5_perform_0 : decode cX5_perform 0 = .ok (.aload_n 0, 1) := by decide +kernel
theorem dX5_perform_1 : decode cX5_perform 1 = .ok (.aload_n 1, 1) := by decide +kernel
theorem dX5_perform_2 : decode cX5_perform 2 = .ok (.putfield 15, 3) := by decide +kernel
theorem dX5_perform_5 : decode cX5_perform 5 = .ok (.aload_n 0, 1) := by decide +kernel
theorem dX5_perform_6 : decode cX5_perform 6 = .ok (.aload_n 2, 1) := by decide +kernel
theorem dX5_perform_7 : decode cX5_perform 7 = .ok (.putfield 19, 3) := by decide +kernel
theorem dX5_perform_10 : decode cX5_perform 10 = .ok (.aload_n 0, 1) := by decide +kernel
theorem dX5_perform_11 : decode cX5_perform 11 = .ok (.iconst 0, 1) := by decide +kernel
theorem dX5_perform_12 : decode cX5_perform 12 = .ok (.putfield 23, 3) := by decide +kernel
theorem dX5_perform_15 : decode cX5_perform 15 = .ok (.aload_n 0, 1) := by decide +kernel
theorem dX5_perform_16 : decode cX5_perform 16 = .ok (.aload_n 0, 1) := by decide +kernel
theorem dX5_perform_17 : decode cX5_perform 17 = .ok (.getfield 15, 3) := by decide +kernel
theorem dX5_perform_20 : decode cX5_perform 20 = .ok (.iload_n 3, 1) := by decide +kernel
theorem dX5_perform_21 : decode cX5_perform 21 = .ok (.invokevirtual 27, 3) := by decide +kernel
theorem dX5_perform_24 : decode cX5_perform 24 = .ok (.putfield 33, 3) := by decide +kernel
theorem dX5_perform_27 : decode cX5_perform 27 = .ok (.iconst 0, 1) := by decide +kernel
theorem dX5_perform_28 : decode cX5_perform 28 = .ok (.istore 4, 2) := by decide +kernel
theorem dX5_perform_30 : decode cX5_perform 30 = .ok (.iconst 0, 1) := by decide +kernel
theorem dX5_perform_31 : decode cX5_perform 31 = .ok (.istore 5, 2) := by decide +kernel
theorem dX5_perform_33 : decode cX5_perform 33 = .ok (.iload 5, 2) := by decide +kernel
theorem dX5_perform_35 : decode cX5_perform 35 = .ok (.sipush 1000, 3) := by decide +kernel
theorem dX5_perform_38 : decode cX5_perform 38 = .ok (.if_icmp .ge 93, 3) := by decide +kernel
theorem dX5_perform_41 : decode cX5_perform 41 = .ok (.iload 4, 2) := by decide +kernel
theorem dX5_perform_43 : decode cX5_perform 43 = .ok (.bipush 100, 2) := by decide +kernel
theorem dX5_perform_45 : decode cX5_perform 45 = .ok (.if_icmp .ge 86, 3) := by decide +kernel
theorem dX5_perform_48 : decode cX5_perform 48 = .ok (.aload_n 0, 1) := by decide +kernel
theorem dX5_perform_49 : decode cX5_perform 49 = .ok (.getfield 15, 3) := by decide +kernel
theorem dX5_perform_52 : decode cX5_perform 52 = .ok (.aload_n 0, 1) := by decide +kernel
theorem dX5_perform_53 : decode cX5_perform 53 = .ok (.getfield 33, 3) := by decide +kernel
theorem dX5_perform_56 : decode cX5_perform 56 = .ok (.invokevirtual 36, 3) := by decide +kernel
theorem dX5_perform_59 : decode cX5_perform 59 = .ok (.ifCond .eq 23, 3) := by decide +kernel
theorem dX5_perform_62 : decode cX5_perform 62 = .ok (.aload_n 0, 1) := by decide +kernel
theorem dX5_perform_63 : decode cX5_perform 63 = .ok (.aload_n 0, 1) := by decide +kernel
theorem dX5_perform_64 : decode cX5_perform 64 = .ok (.getfield 33, 3) := by decide +kernel
theorem dX5_perform_67 : decode cX5_perform 67 = .ok (.invokevirtual 40, 3) := by decide +kernel
theorem dX5_perform_70 : decode cX5_perform 70 = .ok (.ifCond .ne 6, 3) := by decide +kernel
theorem dX5_perform_73 : decode cX5_perform 73 = .ok (.iload 4, 2) := by decide +kernel
theorem dX5_perform_75 : decode cX5_perform 75 = .ok (.ireturn, 1) := by decide +kernel
theorem dX5_perform_76 : decode cX5_perform 76 = .ok (.iinc 4 1, 3) := by decide +kernel
theorem dX5_perform_79 : decode cX5_perform 79 = .ok (.goto 46, 3) := by decide +kernel
theorem dX5_perform_82 : decode cX5_perform 82 = .ok (.aload_n 0, 1) := by decide +kernel
theorem dX5_perform_83 : decode cX5_perform 83 = .ok (.getfield 23, 3) := by decide +kernel
theorem dX5_perform_86 : decode cX5_perform 86 = .ok (.ifCond .le 36, 3) := by decide +kernel
theorem dX5_perform_89 : decode cX5_perform 89 = .ok (.aload_n 0, 1) := by decide +kernel
theorem dX5_perform_90 : decode cX5_perform 90 = .ok (.dup, 1) := by decide +kernel
theorem dX5_perform_91 : decode cX5_perform 91 = .ok (.getfield 23, 3) := by decide +kernel
theorem dX5_perform_94 : decode cX5_perform 94 = .ok (.iconst 1, 1) := by decide +kernel
theorem dX5_perform_95 : decode cX5_perform 95 = .ok (.isub, 1) := by decide +kernel
theorem dX5_perform_96 : decode cX5_perform 96 = .ok (.putfield 23, 3) := by decide +kernel
theorem dX5_perform_99 : decode cX5_perform 99 = .ok (.aload_n 0, 1) := by decide +kernel
theorem dX5_perform_100 : decode cX5_perform 100 = .ok (.aload_n 0, 1) := by decide +kernel
theorem dX5_perform_101 : decode cX5_perform 101 = .ok (.getfield 15, 3) := by decide +kernel
theorem dX5_perform_104 : decode cX5_perform 104 = .ok (.aload_n 0, 1) := by decide +kernel
theorem dX5_perform_105 : decode cX5_perform 105 = .ok (.getfield 9, 3) := by decide +kernel
theorem dX5_perform_108 : decode cX5_perform 108 = .ok (.aload_n 0, 1) := by decide +kernel
theorem dX5_perform_109 : decode cX5_perform 109 = .ok (.getfield 23, 3) := by decide +kernel
theorem dX5_perform_112 : decode cX5_perform 112 = .ok (.iaload, 1) := by decide +kernel
theorem dX5_perform_113 : decode cX5_perform 113 = .ok (.invokevirtual 43, 3) := by decide +kernel
theorem dX5_perform_116 : decode cX5_perform 116 = .ok (.putfield 33, 3) := by decide +kernel
theorem dX5_perform_119 : decode cX5_perform 119 = .ok (.goto 6, 3) := by decide +kernel
theorem dX5_perform_122 : decode cX5_perform 122 = .ok (.iload 4, 2) := by decide +kernel
theorem dX5_perform_124 : decode cX5_perform 124 = .ok (.ireturn, 1) := by decide +kernel
theorem dX5_perform_125 : decode cX5_perform 125 = .ok (.iinc 5 1, 3) := by decide +kernel
theorem dX5_perform_128 : decode cX5_perform 128 = .ok (.goto (-95), 3) := by decide +kernel
theorem dX5_perform_131 : decode cX5_perform 131 = .ok (.iload 4, 2) := by decide +kernel
theorem dX5_perform_133 : decode cX5_perform 133 = .ok (.ireturn, 1) := by decide +kernel
theorem dX5_act_0 : decode cX5_act 0 = .ok (.aload_n 0, 1) := by decide +kernel
theorem dX5_act_1 : decode cX5_act 1 = .ok (.getfield 15, 3) := by decide +kernel
theorem dX5_act_4 : decode cX5_act 4 = .ok (.getfield 46, 3) := by decide +kernel
theorem dX5_act_7 : decode cX5_act 7 = .ok (.iload_n 1, 1) := by decide +kernel
theorem dX5_act_8 : decode cX5_act 8 = .ok (.iaload, 1) := by decide +kernel
theorem dX5_act_9 : decode cX5_act 9 = .ok (.istore_n 2, 1) := by decide +kernel
theorem dX5_act_10 : decode cX5_act 10 = .ok (.iconst 1, 1) := by decide +kernel
theorem dX5_act_11 : decode cX5_act 11 = .ok (.istore_n 3, 1) := by decide +kernel
theorem dX5_act_12 : decode cX5_act 12 = .ok (.aload_n 0, 1) := by decide +kernel
theorem dX5_act_13 : decode cX5_act 13 = .ok (.aload_n 0, 1) := by decide +kernel
theorem dX5_act_14 : decode cX5_act 14 = .ok (.getfield 15, 3) := by decide +kernel
theorem dX5_act_17 : decode cX5_act 17 = .ok (.iload_n 1, 1) := by decide +kernel
theorem dX5_act_18 : decode cX5_act 18 = .ok (.invokevirtual 43, 3) := by decide +kernel
theorem dX5_act_21 : decode cX5_act 21 = .ok (.putfield 33, 3) := by decide +kernel
theorem dX5_act_24 : decode cX5_act 24 = .ok (.getstatic 49, 3) := by decide +kernel
theorem dX5_act_27 : decode cX5_act 27 = .ok (.aload_n 0, 1) := by decide +kernel
theorem dX5_act_28 : decode cX5_act 28 = .ok (.getfield 15, 3) := by decide +kernel
theorem dX5_act_31 : decode cX5_act 31 = .ok (.getfield 54, 3) := by decide +kernel
theorem dX5_act_34 : decode cX5_act 34 = .ok (.iload_n 2, 1) := by decide +kernel
theorem dX5_act_35 : decode cX5_act 35 = .ok (.invokevirtual 58, 3) := by decide +kernel
theorem dX5_act_38 : decode cX5_act 38 = .ok (.invokevirtual 64, 3) := by decide +kernel
theorem dX5_act_41 : decode cX5_act 41 = .ok (.iaload, 1) := by decide +kernel
theorem dX5_act_42 : decode cX5_act 42 = .ok (.tableswitch 160 1 6 #[38, 47, 61, 78, 96, 117], 38) := by decide +kernel
theorem dX5_act_80 : decode cX5_act 80 = .ok (.aload_n 0, 1) := by decide +kernel
theorem dX5_act_81 : decode cX5_act 81 = .ok (.iload_n 2, 1) := by decide +kernel
theorem dX5_act_82 : decode cX5_act 82 = .ok (.invokevirtual 70, 3) := by decide +kernel
theorem dX5_act_85 : decode cX5_act 85 = .ok (.istore_n 3, 1) := by decide +kernel
theorem dX5_act_86 : decode cX5_act 86 = .ok (.goto 168, 3) := by decide +kernel
theorem dX5_act_89 : decode cX5_act 89 = .ok (.aload_n 0, 1) := by decide +kernel
theorem dX5_act_90 : decode cX5_act 90 = .ok (.aload_n 0, 1) := by decide +kernel
theorem dX5_act_91 : decode cX5_act 91 = .ok (.iload_n 2, 1) := by decide +kernel
theorem dX5_act_92 : decode cX5_act 92 = .ok (.iconst 1, 1) := by decide +kernel
theorem dX5_act_93 : decode cX5_act 93 = .ok (.iadd, 1) := by decide +kernel
theorem dX5_act_94 : decode cX5_act 94 = .ok (.invokevirtual 73, 3) := by decide +kernel
theorem dX5_act_97 : decode cX5_act 97 = .ok (.invokevirtual 76, 3) := by decide +kernel
theorem dX5_act_100 : decode cX5_act 100 = .ok (.goto 154, 3) := by decide +kernel
theorem dX5_act_103 : decode cX5_act 103 = .ok (.aload_n 0, 1) := by decide +kernel
theorem dX5_act_104 : decode cX5_act 104 = .ok (.getfield 19, 3) := by decide +kernel
theorem dX5_act_107 : decode cX5_act 107 = .ok (.aload_n 0, 1) := by decide +kernel
theorem dX5_act_108 : decode cX5_act 108 = .ok (.iload_n 2, 1) := by decide +kernel
theorem dX5_act_109 : decode cX5_act 109 = .ok (.iconst 1, 1) := by decide +kernel
theorem dX5_act_110 : decode cX5_act 110 = .ok (.iadd, 1) := by decide +kernel
theorem dX5_act_111 : decode cX5_act 111 = .ok (.invokevirtual 73, 3) := by decide +kernel
theorem dX5_act_114 : decode cX5_act 114 = .ok (.invokevirtual 80, 3) := by decide +kernel
theorem dX5_act_117 : decode cX5_act 117 = .ok (.goto 137, 3) := by decide +kernel
theorem dX5_act_120 : decode cX5_act 120 = .ok (.aload_n 0, 1) := by decide +kernel
theorem dX5_act_121 : decode cX5_act 121 = .ok (.getfield 19, 3) := by decide +kernel
theorem dX5_act_124 : decode cX5_act 124 = .ok (.aload_n 0, 1) := by decide +kernel
theorem dX5_act_125 : decode cX5_act 125 = .ok (.iload_n 2, 1) := by decide +kernel
theorem dX5_act_126 : decode cX5_act 126 = .ok (.iconst 1, 1) := by decide +kernel
theorem dX5_act_127 : decode cX5_act 127 = .ok (.iadd, 1) := by decide +kernel
theorem dX5_act_128 : decode cX5_act 128 = .ok (.invokevirtual 73, 3) := by decide +kernel
theorem dX5_act_131 : decode cX5_act 131 = .ok (.invokevirtual 85, 3) := by decide +kernel
theorem dX5_act_134 : decode cX5_act 134 = .ok (.istore_n 3, 1) := by decide +kernel
theorem dX5_act_135 : decode cX5_act 135 = .ok (.goto 119, 3) := by decide +kernel
theorem dX5_act_138 : decode cX5_act 138 = .ok (.aload_n 0, 1) := by decide +kernel
theorem dX5_act_139 : decode cX5_act 139 = .ok (.iload_n 1, 1) := by decide +kernel
theorem dX5_act_140 : decode cX5_act 140 = .ok (.aload_n 0, 1) := by decide +kernel
theorem dX5_act_141 : decode cX5_act 141 = .ok (.getfield 15, 3) := by decide +kernel
theorem dX5_act_144 : decode cX5_act 144 = .ok (.getfield 54, 3) := by decide +kernel
theorem dX5_act_147 : decode cX5_act 147 = .ok (.iload_n 2, 1) := by decide +kernel
theorem dX5_act_148 : decode cX5_act 148 = .ok (.iconst 1, 1) := by decide +kernel
theorem dX5_act_149 : decode cX5_act 149 = .ok (.iadd, 1) := by decide +kernel
theorem dX5_act_150 : decode cX5_act 150 = .ok (.invokevirtual 88, 3) := by decide +kernel
theorem dX5_act_153 : decode cX5_act 153 = .ok (.invokevirtual 91, 3) := by decide +kernel
theorem dX5_act_156 : decode cX5_act 156 = .ok (.goto 98, 3) := by decide +kernel
theorem dX5_act_159 : decode cX5_act 159 = .ok (.aload_n 0, 1) := by decide +kernel
theorem dX5_act_160 : decode cX5_act 160 = .ok (.iload_n 2, 1) := by decide +kernel
theorem dX5_act_161 : decode cX5_act 161 = .ok (.iconst 1, 1) := by decide +kernel
theorem dX5_act_162 : decode cX5_act 162 = .ok (.iadd, 1) := by decide +kernel
theorem dX5_act_163 : decode cX5_act 163 = .ok (.invokevirtual 95, 3) := by decide +kernel
theorem dX5_act_166 : decode cX5_act 166 = .ok (.ifCond .eq 88, 3) := by decide +kernel
theorem dX5_act_169 : decode cX5_act 169 = .ok (.aload_n 0, 1) := by decide +kernel
theorem dX5_act_170 : decode cX5_act 170 = .ok (.aload_n 0, 1) := by decide +kernel
theorem dX5_act_171 : decode cX5_act 171 = .ok (.getfield 15, 3) := by decide +kernel
theorem dX5_act_174 : decode cX5_act 174 = .ok (.getfield 98, 3) := by decide +kernel
theorem dX5_act_177 : decode cX5_act 177 = .ok (.iload_n 1, 1) := by decide +kernel
theorem dX5_act_178 : decode cX5_act 178 = .ok (.iaload, 1) := by decide +kernel
theorem dX5_act_179 : decode cX5_act 179 = .ok (.iconst (-1), 1) := by decide +kernel
theorem dX5_act_180 : decode cX5_act 180 = .ok (.if_icmp .ne 7, 3) := by decide +kernel
theorem dX5_act_183 : decode cX5_act 183 = .ok (.iload_n 1, 1) := by decide +kernel
theorem dX5_act_184 : decode cX5_act 184 = .ok (.goto 12, 3) := by decide +kernel
theorem dX5_act_187 : decode cX5_act 187 = .ok (.aload_n 0, 1) := by decide +kernel
theorem dX5_act_188 : decode cX5_act 188 = .ok (.getfield 15, 3) := by decide +kernel
theorem dX5_act_191 : decode cX5_act 191 = .ok (.getfield 98, 3) := by decide +kernel
theorem dX5_act_194 : decode cX5_act 194 = .ok (.iload_n 1, 1) := by decide +kernel
theorem dX5_act_195 : decode cX5_act 195 = .ok (.iaload, 1) := by decide +kernel
theorem dX5_act_196 : decode cX5_act 196 = .ok (.putfield 33, 3) := by decide +kernel
theorem dX5_act_199 : decode cX5_act 199 = .ok (.goto 55, 3) := by decide +kernel
theorem dX5_act_202 : decode cX5_act 202 = .ok (.aload_n 0, 1) := by decide +kernel
theorem dX5_act_203 : decode cX5_act 203 = .ok (.iload_n 2, 1) := by decide +kernel
theorem dX5_act_204 : decode cX5_act 204 = .ok (.iconst 1, 1) := by decide +kernel
theorem dX5_act_205 : decode cX5_act 205 = .ok (.iadd, 1) := by decide +kernel
theorem dX5_act_206 : decode cX5_act 206 = .ok (.invokevirtual 95, 3) := by decide +kernel
theorem dX5_act_209 : decode cX5_act 209 = .ok (.ifCond .eq 15, 3) := by decide +kernel
theorem dX5_act_212 : decode cX5_act 212 = .ok (.aload_n 0, 1) := by decide +kernel
theorem dX5_act_213 : decode cX5_act 213 = .ok (.getfield 15, 3) := by decide +kernel
theorem dX5_act_216 : decode cX5_act 216 = .ok (.getfield 98, 3) := by decide +kernel
theorem dX5_act_219 : decode cX5_act 219 = .ok (.iload_n 1, 1) := by decide +kernel
theorem dX5_act_220 : decode cX5_act 220 = .ok (.iaload, 1) := by decide +kernel
theorem dX5_act_221 : decode cX5_act 221 = .ok (.goto 12, 3) := by decide +kernel
theorem dX5_act_224 : decode cX5_act 224 = .ok (.aload_n 0, 1) := by decide +kernel
theorem dX5_act_225 : decode cX5_act 225 = .ok (.getfield 15, 3) := by decide +kernel
theorem dX5_act_228 : decode cX5_act 228 = .ok (.getfield 101, 3) := by decide +kernel
theorem dX5_act_231 : decode cX5_act 231 = .ok (.iload_n 1, 1) := by decide +kernel
theorem dX5_act_232 : decode cX5_act 232 = .ok (.iaload, 1) := by decide +kernel
theorem dX5_act_233 : decode cX5_act 233 = .ok (.istore 4, 2) := by decide +kernel
theorem dX5_act_235 : decode cX5_act 235 = .ok (.aload_n 0, 1) := by decide +kernel
theorem dX5_act_236 : decode cX5_act 236 = .ok (.iload 4, 2) := by decide +kernel
theorem dX5_act_238 : decode cX5_act 238 = .ok (.iconst (-1), 1) := by decide +kernel
theorem dX5_act_239 : decode cX5_act 239 = .ok (.if_icmp .ne 10, 3) := by decide +kernel
theorem dX5_act_242 : decode cX5_act 242 = .ok (.aload_n 0, 1) := by decide +kernel
theorem dX5_act_243 : decode cX5_act 243 = .ok (.getfield 33, 3) := by decide +kernel
theorem dX5_act_246 : decode cX5_act 246 = .ok (.goto 5, 3) := by decide +kernel
theorem dX5_act_249 : decode cX5_act 249 = .ok (.iload 4, 2) := by decide +kernel
theorem dX5_act_251 : decode cX5_act 251 = .ok (.putfield 33, 3) := by decide +kernel
theorem dX5_act_254 : decode cX5_act 254 = .ok (.iload_n 3, 1) := by decide +kernel
theorem dX5_act_255 : decode cX5_act 255 = .ok (.ireturn, 1) := by decide +kernel
theorem dX5_send_0 : decode cX5_send 0 = .ok (.aload_n 0, 1) := by decide +kernel
theorem dX5_send_1 : decode cX5_send 1 = .ok (.iload_n 1, 1) := by decide +kernel
theorem dX5_send_2 : decode cX5_send 2 = .ok (.iconst 1, 1) := by decide +kernel
theorem dX5_send_3 : decode cX5_send 3 = .ok (.iadd, 1) := by decide +kernel
theorem dX5_send_4 : decode cX5_send 4 = .ok (.iconst (-1), 1) := by decide +kernel
theorem dX5_send_5 : decode cX5_send 5 = .ok (.invokevirtual 104, 3) := by decide +kernel
theorem dX5_send_8 : decode cX5_send 8 = .ok (.istore_n 2, 1) := by decide +kernel
theorem dX5_send_9 : decode cX5_send 9 = .ok (.iconst (-1), 1) := by decide +kernel
theorem dX5_send_10 : decode cX5_send 10 = .ok (.istore_n 3, 1) := by decide +kernel
theorem dX5_send_11 : decode cX5_send 11 = .ok (.aload_n 0, 1) := by decide +kernel
theorem dX5_send_12 : decode cX5_send 12 = .ok (.getfield 15, 3) := by decide +kernel
theorem dX5_send_15 : decode cX5_send 15 = .ok (.getfield 54, 3) := by decide +kernel
theorem dX5_send_18 : decode cX5_send 18 = .ok (.iload_n 1, 1) := by decide +kernel
theorem dX5_send_19 : decode cX5_send 19 = .ok (.iconst 2, 1) := by decide +kernel
theorem dX5_send_20 : decode cX5_send 20 = .ok (.iadd, 1) := by decide +kernel
theorem dX5_send_21 : decode cX5_send 21 = .ok (.invokevirtual 58, 3) := by decide +kernel
theorem dX5_send_24 : decode cX5_send 24 = .ok (.getstatic 108, 3) := by decide +kernel
theorem dX5_send_27 : decode cX5_send 27 = .ok (.if_acmp .ne 24, 3) := by decide +kernel
theorem dX5_send_30 : decode cX5_send 30 = .ok (.aload_n 0, 1) := by decide +kernel
theorem dX5_send_31 : decode cX5_send 31 = .ok (.iload_n 1, 1) := by decide +kernel
theorem dX5_send_32 : decode cX5_send 32 = .ok (.iconst 3, 1) := by decide +kernel
theorem dX5_send_33 : decode cX5_send 33 = .ok (.iadd, 1) := by decide +kernel
theorem dX5_send_34 : decode cX5_send 34 = .ok (.iload_n 2, 1) := by decide +kernel
theorem dX5_send_35 : decode cX5_send 35 = .ok (.invokevirtual 104, 3) := by decide +kernel
theorem dX5_send_38 : decode cX5_send 38 = .ok (.istore_n 3, 1) := by decide +kernel
theorem dX5_send_39 : decode cX5_send 39 = .ok (.iload_n 3, 1) := by decide +kernel
theorem dX5_send_40 : decode cX5_send 40 = .ok (.iconst (-1), 1) := by decide +kernel
theorem dX5_send_41 : decode cX5_send 41 = .ok (.if_icmp .eq 8, 3) := by decide +kernel
theorem dX5_send_44 : decode cX5_send 44 = .ok (.iload_n 3, 1) := by decide +kernel
theorem dX5_send_45 : decode cX5_send 45 = .ok (.iload_n 2, 1) := by decide +kernel
theorem dX5_send_46 : decode cX5_send 46 = .ok (.if_icmp .ne 5, 3) := by decide +kernel
theorem dX5_send_49 : decode cX5_send 49 = .ok (.iconst 0, 1) := by decide +kernel
theorem dX5_send_50 : decode cX5_send 50 = .ok (.ireturn, 1) := by decide +kernel
theorem dX5_send_51 : decode cX5_send 51 = .ok (.iload_n 2, 1) := by decide +kernel
theorem dX5_send_52 : decode cX5_send 52 = .ok (.iconst (-1), 1) := by decide +kernel
theorem dX5_send_53 : decode cX5_send 53 = .ok (.if_icmp .eq 15, 3) := by decide +kernel
theorem dX5_send_56 : decode cX5_send 56 = .ok (.aload_n 0, 1) := by decide +kernel
theorem dX5_send_57 : decode cX5_send 57 = .ok (.getfield 19, 3) := by decide +kernel
theorem dX5_send_60 : decode cX5_send 60 = .ok (.iload_n 2, 1) := by decide +kernel
theorem dX5_send_61 : decode cX5_send 61 = .ok (.iload_n 3, 1) := by decide +kernel
theorem dX5_send_62 : decode cX5_send 62 = .ok (.invokevirtual 112, 3) := by decide +kernel
theorem dX5_send_65 : decode cX5_send 65 = .ok (.ifCond .ne 5, 3) := by decide +kernel
theorem dX5_send_68 : decode cX5_send 68 = .ok (.iconst 0, 1) := by decide +kernel
theorem dX5_send_69 : decode cX5_send 69 = .ok (.ireturn, 1) := by decide +kernel
theorem dX5_send_70 : decode cX5_send 70 = .ok (.aload_n 0, 1) := by decide +kernel
theorem dX5_send_71 : decode cX5_send 71 = .ok (.getfield 19, 3) := by decide +kernel
theorem dX5_send_74 : decode cX5_send 74 = .ok (.iload_n 2, 1) := by decide +kernel
theorem dX5_send_75 : decode cX5_send 75 = .ok (.iload_n 3, 1) := by decide +kernel
theorem dX5_send_76 : decode cX5_send 76 = .ok (.invokevirtual 116, 3) := by decide +kernel
theorem dX5_send_79 : decode cX5_send 79 = .ok (.pop, 1) := by decide +kernel
theorem dX5_send_80 : decode cX5_send 80 = .ok (.iconst 1, 1) := by decide +kernel
theorem dX5_send_81 : decode cX5_send 81 = .ok (.ireturn, 1) := by decide +kernel
theorem dX5_whoAt_0 : decode cX5_whoAt 0 = .ok (.aload_n 0, 1) := by decide +kernel
theorem dX5_whoAt_1 : decode cX5_whoAt 1 = .ok (.getfield 15, 3) := by decide +kernel
theorem dX5_whoAt_4 : decode cX5_whoAt 4 = .ok (.getfield 54, 3) := by decide +kernel
theorem dX5_whoAt_7 : decode cX5_whoAt 7 = .ok (.iload_n 1, 1) := by decide +kernel
theorem dX5_whoAt_8 : decode cX5_whoAt 8 = .ok (.invokevirtual 58, 3) := by decide +kernel
theorem dX5_whoAt_11 : decode cX5_whoAt 11 = .ok (.astore_n 3, 1) := by decide +kernel
theorem dX5_whoAt_12 : decode cX5_whoAt 12 = .ok (.aload_n 3, 1) := by decide +kernel
theorem dX5_whoAt_13 : decode cX5_whoAt 13 = .ok (.getstatic 119, 3) := by decide +kernel
theorem dX5_whoAt_16 : decode cX5_whoAt 16 = .ok (.if_acmp .ne 17, 3) := by decide +kernel
theorem dX5_whoAt_19 : decode cX5_whoAt 19 = .ok (.aload_n 0, 1) := by decide +kernel
theorem dX5_whoAt_20 : decode cX5_whoAt 20 = .ok (.getfield 15, 3) := by decide +kernel
theorem dX5_whoAt_23 : decode cX5_whoAt 23 = .ok (.getfield 54, 3) := by decide +kernel
theorem dX5_whoAt_26 : decode cX5_whoAt 26 = .ok (.iload_n 1, 1) := by decide +kernel
theorem dX5_whoAt_27 : decode cX5_whoAt 27 = .ok (.invokevirtual 88, 3) := by decide +kernel
theorem dX5_whoAt_30 : decode cX5_whoAt 30 = .ok (.goto 12, 3) := by decide +kernel
theorem dX5_whoAt_33 : decode cX5_whoAt 33 = .ok (.aload_n 0, 1) := by decide +kernel
theorem dX5_whoAt_34 : decode cX5_whoAt 34 = .ok (.getfield 19, 3) := by decide +kernel
theorem dX5_whoAt_37 : decode cX5_whoAt 37 = .ok (.aload_n 3, 1) := by decide +kernel
theorem dX5_whoAt_38 : decode cX5_whoAt 38 = .ok (.iload_n 2, 1) := by decide +kernel
theorem dX5_whoAt_39 : decode cX5_whoAt 39 = .ok (.invokevirtual 122, 3) := by decide +kernel
theorem dX5_whoAt_42 : decode cX5_whoAt 42 = .ok (.ireturn, 1) := by decide +kernel
theorem dX5_restFor_0 : decode cX5_restFor 0 = .ok (.iload_n 1, 1) := by decide +kernel
theorem dX5_restFor_1 : decode cX5_restFor 1 = .ok (.ifCond .le 23, 3) := by decide +kernel
theorem dX5_restFor_4 : decode cX5_restFor 4 = .ok (.aload_n 0, 1) := by decide +kernel
theorem dX5_restFor_5 : decode cX5_restFor 5 = .ok (.getfield 19, 3) := by decide +kernel
theorem dX5_restFor_8 : decode cX5_restFor 8 = .ok (.iload_n 1, 1) := by decide +kernel
theorem dX5_restFor_9 : decode cX5_restFor 9 = .ok (.bipush 120, 2) := by decide +kernel
theorem dX5_restFor_11 : decode cX5_restFor 11 = .ok (.if_icmp .ge 7, 3) := by decide +kernel
theorem dX5_restFor_14 : decode cX5_restFor 14 = .ok (.iload_n 1, 1) := by decide +kernel
theorem dX5_restFor_15 : decode cX5_restFor 15 = .ok (.goto 5, 3) := by decide +kernel
theorem dX5_restFor_18 : decode cX5_restFor 18 = .ok (.bipush 120, 2) := by decide +kernel
theorem dX5_restFor_20 : decode cX5_restFor 20 = .ok (.invokevirtual 126, 3) := by decide +kernel
theorem dX5_restFor_23 : decode cX5_restFor 23 = .ok (.pop, 1) := by decide +kernel
theorem dX5_restFor_24 : decode cX5_restFor 24 = .ok (.return_, 1) := by decide +kernel
theorem dX5_enterPlan_0 : decode cX5_enterPlan 0 = .ok (.aload_n 0, 1) := by decide +kernel
theorem dX5_enterPlan_1 : decode cX5_enterPlan 1 = .ok (.getfield 23, 3) := by decide +kernel
theorem dX5_enterPlan_4 : decode cX5_enterPlan 4 = .ok (.bipush 6, 2) := by decide +kernel
theorem dX5_enterPlan_6 : decode cX5_enterPlan 6 = .ok (.if_icmp .ge 35, 3) := by decide +kernel
theorem dX5_enterPlan_9 : decode cX5_enterPlan 9 = .ok (.aload_n 0, 1) := by decide +kernel
theorem dX5_enterPlan_10 : decode cX5_enterPlan 10 = .ok (.getfield 9, 3) := by decide +kernel
theorem dX5_enterPlan_13 : decode cX5_enterPlan 13 = .ok (.aload_n 0, 1) := by decide +kernel
theorem dX5_enterPlan_14 : decode cX5_enterPlan 14 = .ok (.getfield 23, 3) := by decide +kernel
theorem dX5_enterPlan_17 : decode cX5_enterPlan 17 = .ok (.iload_n 1, 1) := by decide +kernel
theorem dX5_enterPlan_18 : decode cX5_enterPlan 18 = .ok (.iastore, 1) := by decide +kernel
theorem dX5_enterPlan_19 : decode cX5_enterPlan 19 = .ok (.aload_n 0, 1) := by decide +kernel
theorem dX5_enterPlan_20 : decode cX5_enterPlan 20 = .ok (.dup, 1) := by decide +kernel
theorem dX5_enterPlan_21 : decode cX5_enterPlan 21 = .ok (.getfield 23, 3) := by decide +kernel
theorem dX5_enterPlan_24 : decode cX5_enterPlan 24 = .ok (.iconst 1, 1) := by decide +kernel
theorem dX5_enterPlan_25 : decode cX5_enterPlan 25 = .ok (.iadd, 1) := by decide +kernel
theorem dX5_enterPlan_26 : decode cX5_enterPlan 26 = .ok (.putfield 23, 3) := by decide +kernel
theorem dX5_enterPlan_29 : decode cX5_enterPlan 29 = .ok (.aload_n 0, 1) := by decide +kernel
theorem dX5_enterPlan_30 : decode cX5_enterPlan 30 = .ok (.aload_n 0, 1) := by decide +kernel
theorem dX5_enterPlan_31 : decode cX5_enterPlan 31 = .ok (.getfield 15, 3) := by decide +kernel
theorem dX5_enterPlan_34 : decode cX5_enterPlan 34 = .ok (.iload_n 2, 1) := by decide +kernel
theorem dX5_enterPlan_35 : decode cX5_enterPlan 35 = .ok (.invokevirtual 27, 3) := by decide +kernel
theorem dX5_enterPlan_38 : decode cX5_enterPlan 38 = .ok (.putfield 33, 3) := by decide +kernel
theorem dX5_enterPlan_41 : decode cX5_enterPlan 41 = .ok (.return_, 1) := by decide +kernel
theorem dX5_holds_0 : decode cX5_holds 0 = .ok (.iload_n 1, 1) := by decide +kernel
theorem dX5_holds_1 : decode cX5_holds 1 = .ok (.istore_n 2, 1) := by decide +kernel
theorem dX5_holds_2 : decode cX5_holds 2 = .ok (.iload_n 2, 1) := by decide +kernel
theorem dX5_holds_3 : decode cX5_holds 3 = .ok (.sipush 400, 3) := by decide +kernel
theorem dX5_holds_6 : decode cX5_holds 6 = .ok (.if_icmp .ge 124, 3) := by decide +kernel
theorem dX5_holds_9 : decode cX5_holds 9 = .ok (.aload_n 0, 1) := by decide +kernel
theorem dX5_holds_10 : decode cX5_holds 10 = .ok (.iload_n 2, 1) := by decide +kernel
theorem dX5_holds_11 : decode cX5_holds 11 = .ok (.invokevirtual 73, 3) := by decide +kernel
theorem dX5_holds_14 : decode cX5_holds 14 = .ok (.istore_n 3, 1) := by decide +kernel
theorem dX5_holds_15 : decode cX5_holds 15 = .ok (.aload_n 0, 1) := by decide +kernel
theorem dX5_holds_16 : decode cX5_holds 16 = .ok (.iload_n 2, 1) := by decide +kernel
theorem dX5_holds_17 : decode cX5_holds 17 = .ok (.iconst 2, 1) := by decide +kernel
theorem dX5_holds_18 : decode cX5_holds 18 = .ok (.iadd, 1) := by decide +kernel
theorem dX5_holds_19 : decode cX5_holds 19 = .ok (.invokevirtual 73, 3) := by decide +kernel
theorem dX5_holds_22 : decode cX5_holds 22 = .ok (.istore 4, 2) := by decide +kernel
theorem dX5_holds_24 : decode cX5_holds 24 = .ok (.aload_n 0, 1) := by decide +kernel
theorem dX5_holds_25 : decode cX5_holds 25 = .ok (.getfield 15, 3) := by decide +kernel
theorem dX5_holds_28 : decode cX5_holds 28 = .ok (.getfield 54, 3) := by decide +kernel
theorem dX5_holds_31 : decode cX5_holds 31 = .ok (.iload_n 2, 1) := by decide +kernel
theorem dX5_holds_32 : decode cX5_holds 32 = .ok (.iconst 1, 1) := by decide +kernel
theorem dX5_holds_33 : decode cX5_holds 33 = .ok (.iadd, 1) := by decide +kernel
theorem dX5_holds_34 : decode cX5_holds 34 = .ok (.invokevirtual 58, 3) := by decide +kernel
theorem dX5_holds_37 : decode cX5_holds 37 = .ok (.astore 5, 2) := by decide +kernel
theorem dX5_holds_39 : decode cX5_holds 39 = .ok (.aload 5, 2) := by decide +kernel
theorem dX5_holds_41 : decode cX5_holds 41 = .ok (.getstatic 129, 3) := by decide +kernel
theorem dX5_holds_44 : decode cX5_holds 44 = .ok (.if_acmp .ne 17, 3) := by decide +kernel
theorem dX5_holds_47 : decode cX5_holds 47 = .ok (.iload_n 3, 1) := by decide +kernel
theorem dX5_holds_48 : decode cX5_holds 48 = .ok (.iload 4, 2) := by decide +kernel
theorem dX5_holds_50 : decode cX5_holds 50 = .ok (.if_icmp .ge 7, 3) := by decide +kernel
theorem dX5_holds_53 : decode cX5_holds 53 = .ok (.iconst 1, 1) := by decide +kernel
theorem dX5_holds_54 : decode cX5_holds 54 = .ok (.goto 40, 3) := by decide +kernel
theorem dX5_holds_57 : decode cX5_holds 57 = .ok (.iconst 0, 1) := by decide +kernel
theorem dX5_holds_58 : decode cX5_holds 58 = .ok (.goto 36, 3) := by decide +kernel
theorem dX5_holds_61 : decode cX5_holds 61 = .ok (.aload 5, 2) := by decide +kernel
theorem dX5_holds_63 : decode cX5_holds 63 = .ok (.getstatic 132, 3) := by decide +kernel
theorem dX5_holds_66 : decode cX5_holds 66 = .ok (.if_acmp .ne 17, 3) := by decide +kernel
theorem dX5_holds_69 : decode cX5_holds 69 = .ok (.iload_n 3, 1) := by decide +kernel
theorem dX5_holds_70 : decode cX5_holds 70 = .ok (.iload 4, 2) := by decide +kernel
theorem dX5_holds_72 : decode cX5_holds 72 = .ok (.if_icmp .le 7, 3) := by decide +kernel
theorem dX5_holds_75 : decode cX5_holds 75 = .ok (.iconst 1, 1) := by decide +kernel
theorem dX5_holds_76 : decode cX5_holds 76 = .ok (.goto 18, 3) := by decide +kernel
theorem dX5_holds_79 : decode cX5_holds 79 = .ok (.iconst 0, 1) := by decide +kernel
theorem dX5_holds_80 : decode cX5_holds 80 = .ok (.goto 14, 3) := by decide +kernel
theorem dX5_holds_83 : decode cX5_holds 83 = .ok (.iload_n 3, 1) := by decide +kernel
theorem dX5_holds_84 : decode cX5_holds 84 = .ok (.iload 4, 2) := by decide +kernel
theorem dX5_holds_86 : decode cX5_holds 86 = .ok (.if_icmp .ne 7, 3) := by decide +kernel
theorem dX5_holds_89 : decode cX5_holds 89 = .ok (.iconst 1, 1) := by decide +kernel
theorem dX5_holds_90 : decode cX5_holds 90 = .ok (.goto 4, 3) := by decide +kernel
theorem dX5_holds_93 : decode cX5_holds 93 = .ok (.iconst 0, 1) := by decide +kernel
theorem dX5_holds_94 : decode cX5_holds 94 = .ok (.istore 6, 2) := by decide +kernel
theorem dX5_holds_96 : decode cX5_holds 96 = .ok (.iload 6, 2) := by decide +kernel
theorem dX5_holds_98 : decode cX5_holds 98 = .ok (.ifCond .ne 5, 3) := by decide +kernel
theorem dX5_holds_101 : decode cX5_holds 101 = .ok (.iconst 0, 1) := by decide +kernel
theorem dX5_holds_102 : decode cX5_holds 102 = .ok (.ireturn, 1) := by decide +kernel
theorem dX5_holds_103 : decode cX5_holds 103 = .ok (.aload_n 0, 1) := by decide +kernel
theorem dX5_holds_104 : decode cX5_holds 104 = .ok (.getfield 15, 3) := by decide +kernel
theorem dX5_holds_107 : decode cX5_holds 107 = .ok (.getfield 54, 3) := by decide +kernel
theorem dX5_holds_110 : decode cX5_holds 110 = .ok (.iload_n 2, 1) := by decide +kernel
theorem dX5_holds_111 : decode cX5_holds 111 = .ok (.iconst 3, 1) := by decide +kernel
theorem dX5_holds_112 : decode cX5_holds 112 = .ok (.iadd, 1) := by decide +kernel
theorem dX5_holds_113 : decode cX5_holds 113 = .ok (.invokevirtual 58, 3) := by decide +kernel
theorem dX5_holds_116 : decode cX5_holds 116 = .ok (.getstatic 135, 3) := by decide +kernel
theorem dX5_holds_119 : decode cX5_holds 119 = .ok (.if_acmp .eq 5, 3) := by decide +kernel
theorem dX5_holds_122 : decode cX5_holds 122 = .ok (.iconst 1, 1) := by decide +kernel
theorem dX5_holds_123 : decode cX5_holds 123 = .ok (.ireturn, 1) := by decide +kernel
theorem dX5_holds_124 : decode cX5_holds 124 = .ok (.iinc 2 4, 3) := by decide +kernel
theorem dX5_holds_127 : decode cX5_holds 127 = .ok (.goto (-125), 3) := by decide +kernel
theorem dX5_holds_130 : decode cX5_holds 130 = .ok (.iconst 1, 1) := by decide +kernel
theorem dX5_holds_131 : decode cX5_holds 131 = .ok (.ireturn, 1) := by decide +kernel
theorem dX5_valueAt_0 : decode cX5_valueAt 0 = .ok (.aload_n 0, 1) := by decide +kernel
theorem dX5_valueAt_1 : decode cX5_valueAt 1 = .ok (.getfield 15, 3) := by decide +kernel
theorem dX5_valueAt_4 : decode cX5_valueAt 4 = .ok (.getfield 54, 3) := by decide +kernel
theorem dX5_valueAt_7 : decode cX5_valueAt 7 = .ok (.iload_n 1, 1) := by decide +kernel
theorem dX5_valueAt_8 : decode cX5_valueAt 8 = .ok (.invokevirtual 58, 3) := by decide +kernel
theorem dX5_valueAt_11 : decode cX5_valueAt 11 = .ok (.astore_n 2, 1) := by decide +kernel
theorem dX5_valueAt_12 : decode cX5_valueAt 12 = .ok (.aload_n 2, 1) := by decide +kernel
theorem dX5_valueAt_13 : decode cX5_valueAt 13 = .ok (.getstatic 138, 3) := by decide +kernel
theorem dX5_valueAt_16 : decode cX5_valueAt 16 = .ok (.if_acmp .ne 17, 3) := by decide +kernel
theorem dX5_valueAt_19 : decode cX5_valueAt 19 = .ok (.aload_n 0, 1) := by decide +kernel
theorem dX5_valueAt_20 : decode cX5_valueAt 20 = .ok (.getfield 15, 3) := by decide +kernel
theorem dX5_valueAt_23 : decode cX5_valueAt 23 = .ok (.getfield 54, 3) := by decide +kernel
theorem dX5_valueAt_26 : decode cX5_valueAt 26 = .ok (.iload_n 1, 1) := by decide +kernel
theorem dX5_valueAt_27 : decode cX5_valueAt 27 = .ok (.invokevirtual 88, 3) := by decide +kernel
theorem dX5_valueAt_30 : decode cX5_valueAt 30 = .ok (.goto 11, 3) := by decide +kernel
theorem dX5_valueAt_33 : decode cX5_valueAt 33 = .ok (.aload_n 0, 1) := by decide +kernel
theorem dX5_valueAt_34 : decode cX5_valueAt 34 = .ok (.getfield 19, 3) := by decide +kernel
theorem dX5_valueAt_37 : decode cX5_valueAt 37 = .ok (.aload_n 2, 1) := by decide +kernel
theorem dX5_valueAt_38 : decode cX5_valueAt 38 = .ok (.invokevirtual 141, 3) := by decide +kernel
theorem dX5_valueAt_41 : decode cX5_valueAt 41 = .ok (.ireturn, 1) := by decide +kernel
theorem dX6_init_0 : decode cX6_init 0 = .ok (.aload_n 0, 1) := by decide +kernel
theorem dX6_init_1 : decode cX6_init 1 = .ok (.invokespecial 3, 3) := by decide +kernel
theorem dX6_init_4 : decode cX6_init 4 = .ok (.aload_n 0, 1) := by decide +kernel
theorem dX6_init_5 : decode cX6_init 5 = .ok (.sipush 1600, 3) := by decide +kernel
theorem dX6_init_8 : decode cX6_init 8 = .ok (.newarray .byte, 2) := by decide +kernel
theorem dX6_init_10 : decode cX6_init 10 = .ok (.putfield 9, 3) := by decide +kernel
theorem dX6_init_13 : decode cX6_init 13 = .ok (.return_, 1) := by decide +kernel
theorem dX6_hasRoomFor_0 : decode cX6_hasRoomFor 0 = .ok (.aload_n 0, 1) := by decide +kernel
theorem dX6_hasRoomFor_1 : decode cX6_hasRoomFor 1 = .ok (.getfield 15, 3) := by decide +kernel
theorem dX6_hasRoomFor_4 : decode cX6_hasRoomFor 4 = .ok (.iload_n 1, 1) := by decide +kernel
theorem dX6_hasRoomFor_5 : decode cX6_hasRoomFor 5 = .ok (.iadd, 1) := by decide +kernel
theorem dX6_hasRoomFor_6 : decode cX6_hasRoomFor 6 = .ok (.sipush 1600, 3) := by decide +kernel
theorem dX6_hasRoomFor_9 : decode cX6_hasRoomFor 9 = .ok (.if_icmp .gt 7, 3) := by decide +kernel
theorem dX6_hasRoomFor_12 : decode cX6_hasRoomFor 12 = .ok (.iconst 1, 1) := by decide +kernel
theorem dX6_hasRoomFor_13 : decode cX6_hasRoomFor 13 = .ok (.goto 4, 3) := by decide +kernel
theorem dX6_hasRoomFor_16 : decode cX6_hasRoomFor 16 = .ok (.iconst 0, 1) := by decide +kernel
theorem dX6_hasRoomFor_17 : decode cX6_hasRoomFor 17 = .ok (.ireturn, 1) := by decide +kernel
theorem dX6_append_0 : decode cX6_append 0 = .ok (.bipush 24, 2) := by decide +kernel
theorem dX6_append_2 : decode cX6_append 2 = .ok (.istore_n 2, 1) := by decide +kernel
theorem dX6_append_3 : decode cX6_append 3 = .ok (.iload_n 2, 1) := by decide +kernel
theorem dX6_append_4 : decode cX6_append 4 = .ok (.ifCond .lt 49, 3) := by decide +kernel
theorem dX6_append_7 : decode cX6_append 7 = .ok (.aload_n 0, 1) := by decide +kernel
theorem dX6_append_8 : decode cX6_append 8 = .ok (.getfield 15, 3) := by decide +kernel
theorem dX6_append_11 : decode cX6_append 11 = .ok (.ifCond .lt 36, 3) := by decide +kernel
theorem dX6_append_14 : decode cX6_append 14 = .ok (.aload_n 0, 1) := by decide +kernel
theorem dX6_append_15 : decode cX6_append 15 = .ok (.getfield 15, 3) := by decide +kernel
theorem dX6_append_18 : decode cX6_append 18 = .ok (.sipush 1600, 3) := by decide +kernel
theorem dX6_append_21 : decode cX6_append 21 = .ok (.if_icmp .ge 26, 3) := by decide +kernel
theorem dX6_append_24 : decode cX6_append 24 = .ok (.aload_n 0, 1) := by decide +kernel
theorem dX6_append_25 : decode cX6_append 25 = .ok (.getfield 9, 3) := by decide +kernel
theorem dX6_append_28 : decode cX6_append 28 = .ok (.aload_n 0, 1) := by decide +kernel
theorem dX6_append_29 : decode cX6_append 29 = .ok (.getfield 15, 3) := by decide +kernel
theorem dX6_append_32 : decode cX6_append 32 = .ok (.iload_n 1, 1) := by decide +kernel
theorem dX6_append_33 : decode cX6_append 33 = .ok (.iload_n 2, 1) := by decide +kernel
theorem dX6_append_34 : decode cX6_append 34 = .ok (.iushr, 1) := by decide +kernel
theorem dX6_append_35 : decode cX6_append 35 = .ok (.i2b, 1) := by decide +kernel
theorem dX6_append_36 : decode cX6_append 36 = .ok (.bastore, 1) := by decide +kernel
theorem dX6_append_37 : decode cX6_append 37 = .ok (.aload_n 0, 1) := by decide +kernel
theorem dX6_append_38 : decode cX6_append 38 = .ok (.dup, 1) := by decide +kernel
theorem dX6_append_39 : decode cX6_append 39 = .ok (.getfield 15, 3) := by decide +kernel
theorem dX6_append_42 : decode cX6_append 42 = .ok (.iconst 1, 1) := by decide +kernel
theorem dX6_append_43 : decode cX6_append 43 = .ok (.iadd, 1) := by decide +kernel
theorem dX6_append_44 : decode cX6_append 44 = .ok (.putfield 15, 3) := by decide +kernel
theorem dX6_append_47 : decode cX6_append 47 = .ok (.iinc 2 (-8), 3) := by decide +kernel
theorem dX6_append_50 : decode cX6_append 50 = .ok (.goto (-47), 3) := by decide +kernel
theorem dX6_append_53 : decode cX6_append 53 = .ok (.return_, 1) := by decide +kernel
theorem dX6_byteAt_0 : decode cX6_byteAt 0 = .ok (.iload_n 1, 1) := by decide +kernel
theorem dX6_byteAt_1 : decode cX6_byteAt 1 = .ok (.ifCond .lt 24, 3) := by decide +kernel
theorem dX6_byteAt_4 : decode cX6_byteAt 4 = .ok (.iload_n 1, 1) := by decide +kernel
theorem dX6_byteAt_5 : decode cX6_byteAt 5 = .ok (.aload_n 0, 1) := by decide +kernel
theorem dX6_byteAt_6 : decode cX6_byteAt 6 = .ok (.getfield 15, 3) := by decide +kernel
theorem dX6_byteAt_9 : decode cX6_byteAt 9 = .ok (.if_icmp .ge 16, 3) := by decide +kernel
theorem dX6_byteAt_12 : decode cX6_byteAt 12 = .ok (.aload_n 0, 1) := by decide +kernel
theorem dX6_byteAt_13 : decode cX6_byteAt 13 = .ok (.getfield 9, 3) := by decide +kernel
theorem dX6_byteAt_16 : decode cX6_byteAt 16 = .ok (.iload_n 1, 1) := by decide +kernel
theorem dX6_byteAt_17 : decode cX6_byteAt 17 = .ok (.baload, 1) := by decide +kernel
theorem dX6_byteAt_18 : decode cX6_byteAt 18 = .ok (.sipush 255, 3) := by decide +kernel
theorem dX6_byteAt_21 : decode cX6_byteAt 21 = .ok (.iand, 1) := by decide +kernel
theorem dX6_byteAt_22 : decode cX6_byteAt 22 = .ok (.goto 4, 3) := by decide +kernel
theorem dX6_byteAt_25 : decode cX6_byteAt 25 = .ok (.iconst (-1), 1) := by decide +kernel
theorem dX6_byteAt_26 : decode cX6_byteAt 26 = .ok (.ireturn, 1) := by decide +kernel
theorem dX7_init_0 : decode cX7_init 0 = .ok (.aload_n 0, 1) := by decide +kernel
theorem dX7_init_1 : decode cX7_init 1 = .ok (.invokespecial 3, 3) := by decide +kernel
theorem dX7_init_4 : decode cX7_init 4 = .ok (.aload_n 0, 1) := by decide +kernel
theorem dX7_init_5 : decode cX7_init 5 = .ok (.sipush 401, 3) := by decide +kernel
theorem dX7_init_8 : decode cX7_init 8 = .ok (.anewarray 9, 3) := by decide +kernel
theorem dX7_init_11 : decode cX7_init 11 = .ok (.putfield 11, 3) := by decide +kernel
theorem dX7_init_14 : decode cX7_init 14 = .ok (.aload_n 0, 1) := by decide +kernel
theorem dX7_init_15 : decode cX7_init 15 = .ok (.sipush 401, 3) := by decide +kernel
theorem dX7_init_18 : decode cX7_init 18 = .ok (.newarray .int, 2) := by decide +kernel
theorem dX7_init_20 : decode cX7_init 20 = .ok (.putfield 17, 3) := by decide +kernel
theorem dX7_init_23 : decode cX7_init 23 = .ok (.aload_n 0, 1) := by decide +kernel
theorem dX7_init_24 : decode cX7_init 24 = .ok (.sipush 401, 3) := by decide +kernel
theorem dX7_init_27 : decode cX7_init 27 = .ok (.newarray .int, 2) := by decide +kernel
theorem dX7_init_29 : decode cX7_init 29 = .ok (.putfield 21, 3) := by decide +kernel
theorem dX7_init_32 : decode cX7_init 32 = .ok (.aload_n 0, 1) := by decide +kernel
theorem dX7_init_33 : decode cX7_init 33 = .ok (.sipush 401, 3) := by decide +kernel
theorem dX7_init_36 : decode cX7_init 36 = .ok (.newarray .long, 2) := by decide +kernel
theorem dX7_init_38 : decode cX7_init 38 = .ok (.putfield 24, 3) := by decide +kernel
theorem dX7_init_41 : decode cX7_init 41 = .ok (.return_, 1) := by decide +kernel
theorem dX7_scan_0 : decode cX7_scan 0 = .ok (.aload_n 0, 1) := by decide +kernel
theorem dX7_scan_1 : decode cX7_scan 1 = .ok (.iconst 0, 1) := by decide +kernel
theorem dX7_scan_2 : decode cX7_scan 2 = .ok (.putfield 28, 3) := by decide +kernel
theorem dX7_scan_5 : decode cX7_scan 5 = .ok (.iconst 0, 1) := by decide +kernel
theorem dX7_scan_6 : decode cX7_scan 6 = .ok (.istore_n 2, 1) := by decide +kernel
theorem dX7_scan_7 : decode cX7_scan 7 = .ok (.getstatic 32, 3) := by decide +kernel
theorem dX7_scan_10 : decode cX7_scan 10 = .ok (.astore_n 3, 1) := by decide +kernel
theorem dX7_scan_11 : decode cX7_scan 11 = .ok (.iconst 0, 1) := by decide +kernel
theorem dX7_scan_12 : decode cX7_scan 12 = .ok (.istore 4, 2) := by decide +kernel
theorem dX7_scan_14 : decode cX7_scan 14 = .ok (.iload 4, 2) := by decide +kernel
theorem dX7_scan_16 : decode cX7_scan 16 = .ok (.sipush 400, 3) := by decide +kernel
theorem dX7_scan_19 : decode cX7_scan 19 = .ok (.if_icmp .gt 143, 3) := by decide +kernel
theorem dX7_scan_22 : decode cX7_scan 22 = .ok (.aload_n 3, 1) := by decide +kernel
theorem dX7_scan_23 : decode cX7_scan 23 = .ok (.getstatic 36, 3) := by decide +kernel
theorem dX7_scan_26 : decode cX7_scan 26 = .ok (.if_acmp .eq 136, 3) := by decide +kernel
theorem dX7_scan_29 : decode cX7_scan 29 = .ok (.aload_n 3, 1) := by decide +kernel
theorem dX7_scan_30 : decode cX7_scan 30 = .ok (.getstatic 39, 3) := by decide +kernel
theorem dX7_scan_33 : decode cX7_scan 33 = .ok (.if_acmp .eq 129, 3) := by decide +kernel
theorem dX7_scan_36 : decode cX7_scan 36 = .ok (.aload_n 1, 1) := by decide +kernel
theorem dX7_scan_37 : decode cX7_scan 37 = .ok (.iload_n 2, 1) := by decide +kernel
theorem dX7_scan_38 : decode cX7_scan 38 = .ok (.invokestatic 42, 3) := by decide +kernel
theorem dX7_scan_41 : decode cX7_scan 41 = .ok (.istore_n 2, 1) := by decide +kernel
theorem dX7_scan_42 : decode cX7_scan 42 = .ok (.aload_n 1, 1) := by decide +kernel
theorem dX7_scan_43 : decode cX7_scan 43 = .ok (.iload_n 2, 1) := by decide +kernel
theorem dX7_scan_44 : decode cX7_scan 44 = .ok (.invokestatic 46, 3) := by decide +kernel
theorem dX7_scan_47 : decode cX7_scan 47 = .ok (.istore 5, 2) := by decide +kernel
theorem dX7_scan_49 : decode cX7_scan 49 = .ok (.iload 4, 2) := by decide +kernel
theorem dX7_scan_51 : decode cX7_scan 51 = .ok (.sipush 400, 3) := by decide +kernel
theorem dX7_scan_54 : decode cX7_scan 54 = .ok (.if_icmp .lt 11, 3) := by decide +kernel
theorem dX7_scan_57 : decode cX7_scan 57 = .ok (.iload_n 2, 1) := by decide +kernel
theorem dX7_scan_58 : decode cX7_scan 58 = .ok (.aload_n 1, 1) := by decide +kernel
theorem dX7_scan_59 : decode cX7_scan 59 = .ok (.getfield 49, 3) := by decide +kernel
theorem dX7_scan_62 : decode cX7_scan 62 = .ok (.if_icmp .lt 13, 3) := by decide +kernel
theorem dX7_scan_65 : decode cX7_scan 65 = .ok (.aload_n 1, 1) := by decide +kernel
theorem dX7_scan_66 : decode cX7_scan 66 = .ok (.iload_n 2, 1) := by decide +kernel
theorem dX7_scan_67 : decode cX7_scan 67 = .ok (.iload 5, 2) := by decide +kernel
theorem dX7_scan_69 : decode cX7_scan 69 = .ok (.invokestatic 54, 3) := by decide +kernel
theorem dX7_scan_72 : decode cX7_scan 72 = .ok (.goto 6, 3) := by decide +kernel
theorem dX7_scan_75 : decode cX7_scan 75 = .ok (.getstatic 39, 3) := by decide +kernel
theorem dX7_scan_78 : decode cX7_scan 78 = .ok (.astore_n 3, 1) := by decide +kernel
theorem dX7_scan_79 : decode cX7_scan 79 = .ok (.aload_n 0, 1) := by decide +kernel
theorem dX7_scan_80 : decode cX7_scan 80 = .ok (.getfield 11, 3) := by decide +kernel
theorem dX7_scan_83 : decode cX7_scan 83 = .ok (.iload 4, 2) := by decide +kernel
theorem dX7_scan_85 : decode cX7_scan 85 = .ok (.aload_n 3, 1) := by decide +kernel
theorem dX7_scan_86 : decode cX7_scan 86 = .ok (.aastore, 1) := by decide +kernel
theorem dX7_scan_87 : decode cX7_scan 87 = .ok (.aload_n 0, 1) := by decide +kernel
theorem dX7_scan_88 : decode cX7_scan 88 = .ok (.getfield 17, 3) := by decide +kernel
theorem dX7_scan_91 : decode cX7_scan 91 = .ok (.iload 4, 2) := by decide +kernel
theorem dX7_scan_93 : decode cX7_scan 93 = .ok (.iload_n 2, 1) := by decide +kernel
theorem dX7_scan_94 : decode cX7_scan 94 = .ok (.iastore, 1) := by decide +kernel
theorem dX7_scan_95 : decode cX7_scan 95 = .ok (.aload_n 0, 1) := by decide +kernel
theorem dX7_scan_96 : decode cX7_scan 96 = .ok (.getfield 21, 3) := by decide +kernel
theorem dX7_scan_99 : decode cX7_scan 99 = .ok (.iload 4, 2) := by decide +kernel
theorem dX7_scan_101 : decode cX7_scan 101 = .ok (.aload_n 3, 1) := by decide +kernel
theorem dX7_scan_102 : decode cX7_scan 102 = .ok (.getstatic 58, 3) := by decide +kernel
theorem dX7_scan_105 : decode cX7_scan 105 = .ok (.if_acmp .ne 13, 3) := by decide +kernel
theorem dX7_scan_108 : decode cX7_scan 108 = .ok (.aload_n 1, 1) := by decide +kernel
theorem dX7_scan_109 : decode cX7_scan 109 = .ok (.iload_n 2, 1) := by decide +kernel
theorem dX7_scan_110 : decode cX7_scan 110 = .ok (.iload 5, 2) := by decide +kernel
theorem dX7_scan_112 : decode cX7_scan 112 = .ok (.invokestatic 61, 3) := by decide +kernel
theorem dX7_scan_115 : decode cX7_scan 115 = .ok (.goto 4, 3) := by decide +kernel
theorem dX7_scan_118 : decode cX7_scan 118 = .ok (.iconst 0, 1) := by decide +kernel
theorem dX7_scan_119 : decode cX7_scan 119 = .ok (.iastore, 1) := by decide +kernel
theorem dX7_scan_120 : decode cX7_scan 120 = .ok (.aload_n 0, 1) := by decide +kernel
theorem dX7_scan_121 : decode cX7_scan 121 = .ok (.getfield 24, 3) := by decide +kernel
theorem dX7_scan_124 : decode cX7_scan 124 = .ok (.iload 4, 2) := by decide +kernel
theorem dX7_scan_126 : decode cX7_scan 126 = .ok (.aload_n 3, 1) := by decide +kernel
theorem dX7_scan_127 : decode cX7_scan 127 = .ok (.getstatic 32, 3) := by decide +kernel
theorem dX7_scan_130 : decode cX7_scan 130 = .ok (.if_acmp .ne 13, 3) := by decide +kernel
theorem dX7_scan_133 : decode cX7_scan 133 = .ok (.aload_n 1, 1) := by decide +kernel
theorem dX7_scan_134 : decode cX7_scan 134 = .ok (.iload_n 2, 1) := by decide +kernel
theorem dX7_scan_135 : decode cX7_scan 135 = .ok (.iload 5, 2) := by decide +kernel
theorem dX7_scan_137 : decode cX7_scan 137 = .ok (.invokestatic 65, 3) := by decide +kernel
theorem dX7_scan_140 : decode cX7_scan 140 = .ok (.goto 4, 3) := by decide +kernel
theorem dX7_scan_143 : decode cX7_scan 143 = .ok (.lconst 0, 1) := by decide +kernel
theorem dX7_scan_144 : decode cX7_scan 144 = .ok (.lastore, 1) := by decide +kernel
theorem dX7_scan_145 : decode cX7_scan 145 = .ok (.aload_n 0, 1) := by decide +kernel
theorem dX7_scan_146 : decode cX7_scan 146 = .ok (.iload 4, 2) := by decide +kernel
theorem dX7_scan_148 : decode cX7_scan 148 = .ok (.iconst 1, 1) := by decide +kernel
theorem dX7_scan_149 : decode cX7_scan 149 = .ok (.iadd, 1) := by decide +kernel
theorem dX7_scan_150 : decode cX7_scan 150 = .ok (.putfield 28, 3) := by decide +kernel
theorem dX7_scan_153 : decode cX7_scan 153 = .ok (.iload 5, 2) := by decide +kernel
theorem dX7_scan_155 : decode cX7_scan 155 = .ok (.istore_n 2, 1) := by decide +kernel
theorem dX7_scan_156 : decode cX7_scan 156 = .ok (.iinc 4 1, 3) := by decide +kernel
theorem dX7_scan_159 : decode cX7_scan 159 = .ok (.goto (-145), 3) := by decide +kernel
theorem dX7_scan_162 : decode cX7_scan 162 = .ok (.return_, 1) := by decide +kernel
theorem dX7_kindAt_0 : decode cX7_kindAt 0 = .ok (.iload_n 1, 1) := by decide +kernel
theorem dX7_kindAt_1 : decode cX7_kindAt 1 = .ok (.ifCond .lt 11, 3) := by decide +kernel
theorem dX7_kindAt_4 : decode cX7_kindAt 4 = .ok (.iload_n 1, 1) := by decide +kernel
theorem dX7_kindAt_5 : decode cX7_kindAt 5 = .ok (.aload_n 0, 1) := by decide +kernel
theorem dX7_kindAt_6 : decode cX7_kindAt 6 = .ok (.getfield 28, 3) := by decide +kernel
theorem dX7_kindAt_9 : decode cX7_kindAt 9 = .ok (.if_icmp .lt 7, 3) := by decide +kernel
theorem dX7_kindAt_12 : decode cX7_kindAt 12 = .ok (.getstatic 39, 3) := by decide +kernel
theorem dX7_kindAt_15 : decode cX7_kindAt 15 = .ok (.areturn, 1) := by decide +kernel
theorem dX7_kindAt_16 : decode cX7_kindAt 16 = .ok (.aload_n 0, 1) := by decide +kernel
theorem dX7_kindAt_17 : decode cX7_kindAt 17 = .ok (.getfield 11, 3) := by decide +kernel
theorem dX7_kindAt_20 : decode cX7_kindAt 20 = .ok (.iload_n 1, 1) := by decide +kernel
theorem dX7_kindAt_21 : decode cX7_kindAt 21 = .ok (.aaload, 1) := by decide +kernel
theorem dX7_kindAt_22 : decode cX7_kindAt 22 = .ok (.astore_n 2, 1) := by decide +kernel
theorem dX7_kindAt_23 : decode cX7_kindAt 23 = .ok (.aload_n 2, 1) := by decide +kernel
theorem dX7_kindAt_24 : decode cX7_kindAt 24 = .ok (.ifnonnull 9, 3) := by decide +kernel
theorem dX7_kindAt_27 : decode cX7_kindAt 27 = .ok (.getstatic 39, 3) := by decide +kernel
theorem dX7_kindAt_30 : decode cX7_kindAt 30 = .ok (.goto 4, 3) := by decide +kernel
theorem dX7_kindAt_33 : decode cX7_kindAt 33 = .ok (.aload_n 2, 1) := by decide +kernel
theorem dX7_kindAt_34 : decode cX7_kindAt 34 = .ok (.areturn, 1) := by decide +kernel
theorem dX7_positionAt_0 : decode cX7_positionAt 0 = .ok (.iload_n 1, 1) := by decide +kernel
theorem dX7_positionAt_1 : decode cX7_positionAt 1 = .ok (.ifCond .lt 20, 3) := by decide +kernel
theorem dX7_positionAt_4 : decode cX7_positionAt 4 = .ok (.iload_n 1, 1) := by decide +kernel
theorem dX7_positionAt_5 : decode cX7_positionAt 5 = .ok (.aload_n 0, 1) := by decide +kernel
theorem dX7_positionAt_6 : decode cX7_positionAt 6 = .ok (.getfield 28, 3) := by decide +kernel
theorem dX7_positionAt_9 : decode cX7_positionAt 9 = .ok (.if_icmp .ge 12, 3) := by decide +kernel
theorem dX7_positionAt_12 : decode cX7_positionAt 12 = .ok (.aload_n 0, 1) := by decide +kernel
theorem dX7_positionAt_13 : decode cX7_positionAt 13 = .ok (.getfield 17, 3) := by decide +kernel
theorem dX7_positionAt_16 : decode cX7_positionAt 16 = .ok (.iload_n 1, 1) := by decide +kernel
theorem dX7_positionAt_17 : decode cX7_positionAt 17 = .ok (.iaload, 1) := by decide +kernel
theorem dX7_positionAt_18 : decode cX7_positionAt 18 = .ok (.goto 4, 3) := by decide +kernel
theorem dX7_positionAt_21 : decode cX7_positionAt 21 = .ok (.iconst (-1), 1) := by decide +kernel
theorem dX7_positionAt_22 : decode cX7_positionAt 22 = .ok (.ireturn, 1) := by decide +kernel
theorem dX7_numberAt_0 : decode cX7_numberAt 0 = .ok (.iload_n 1, 1) := by decide +kernel
theorem dX7_numberAt_1 : decode cX7_numberAt 1 = .ok (.ifCond .lt 20, 3) := by decide +kernel
theorem dX7_numberAt_4 : decode cX7_numberAt 4 = .ok (.iload_n 1, 1) := by decide +kernel
theorem dX7_numberAt_5 : decode cX7_numberAt 5 = .ok (.aload_n 0, 1) := by decide +kernel
theorem dX7_numberAt_6 : decode cX7_numberAt 6 = .ok (.getfield 28, 3) := by decide +kernel
theorem dX7_numberAt_9 : decode cX7_numberAt 9 = .ok (.if_icmp .ge 12, 3) := by decide +kernel
theorem dX7_numberAt_12 : decode cX7_numberAt 12 = .ok (.aload_n 0, 1) := by decide +kernel
theorem dX7_numberAt_13 : decode cX7_numberAt 13 = .ok (.getfield 21, 3) := by decide +kernel
theorem dX7_numberAt_16 : decode cX7_numberAt 16 = .ok (.iload_n 1, 1) := by decide +kernel
theorem dX7_numberAt_17 : decode cX7_numberAt 17 = .ok (.iaload, 1) := by decide +kernel
theorem dX7_numberAt_18 : decode cX7_numberAt 18 = .ok (.goto 4, 3) := by decide +kernel
theorem dX7_numberAt_21 : decode cX7_numberAt 21 = .ok (.iconst 0, 1) := by decide +kernel
theorem dX7_numberAt_22 : decode cX7_numberAt 22 = .ok (.ireturn, 1) := by decide +kernel
theorem dX7_wordAt_0 : decode cX7_wordAt 0 = .ok (.iload_n 1, 1) := by decide +kernel
theorem dX7_wordAt_1 : decode cX7_wordAt 1 = .ok (.ifCond .lt 20, 3) := by decide +kernel
theorem dX7_wordAt_4 : decode cX7_wordAt 4 = .ok (.iload_n 1, 1) := by decide +kernel
theorem dX7_wordAt_5 : decode cX7_wordAt 5 = .ok (.aload_n 0, 1) := by decide +kernel
theorem dX7_wordAt_6 : decode cX7_wordAt 6 = .ok (.getfield 28, 3) := by decide +kernel
theorem dX7_wordAt_9 : decode cX7_wordAt 9 = .ok (.if_icmp .ge 12, 3) := by decide +kernel
theorem dX7_wordAt_12 : decode cX7_wordAt 12 = .ok (.aload_n 0, 1) := by decide +kernel
theorem dX7_wordAt_13 : decode cX7_wordAt 13 = .ok (.getfield 24, 3) := by decide +kernel
theorem dX7_wordAt_16 : decode cX7_wordAt 16 = .ok (.iload_n 1, 1) := by decide +kernel
theorem dX7_wordAt_17 : decode cX7_wordAt 17 = .ok (.laload, 1) := by decide +kernel
theorem dX7_wordAt_18 : decode cX7_wordAt 18 = .ok (.goto 4, 3) := by decide +kernel
theorem dX7_wordAt_21 : decode cX7_wordAt 21 = .ok (.lconst 0, 1) := by decide +kernel
theorem dX7_wordAt_22 : decode cX7_wordAt 22 = .ok (.lreturn, 1) := by decide +kernel
theorem dX7_resolve_0 : decode cX7_resolve 0 = .ok (.iload_n 1, 1) := by decide +kernel
theorem dX7_resolve_1 : decode cX7_resolve 1 = .ok (.ifCond .lt 18, 3) := by decide +kernel
theorem dX7_resolve_4 : decode cX7_resolve 4 = .ok (.iload_n 1, 1) := by decide +kernel
theorem dX7_resolve_5 : decode cX7_resolve 5 = .ok (.aload_n 0, 1) := by decide +kernel
theorem dX7_resolve_6 : decode cX7_resolve 6 = .ok (.getfield 28, 3) := by decide +kernel
theorem dX7_resolve_9 : decode cX7_resolve 9 = .ok (.if_icmp .ge 10, 3) := by decide +kernel
theorem dX7_resolve_12 : decode cX7_resolve 12 = .ok (.aload_n 0, 1) := by decide +kernel
theorem dX7_resolve_13 : decode cX7_resolve 13 = .ok (.getfield 21, 3) := by decide +kernel
theorem dX7_resolve_16 : decode cX7_resolve 16 = .ok (.iload_n 1, 1) := by decide +kernel
theorem dX7_resolve_17 : decode cX7_resolve 17 = .ok (.iload_n 2, 1) := by decide +kernel
theorem dX7_resolve_18 : decode cX7_resolve 18 = .ok (.iastore, 1) := by decide +kernel
theorem dX7_resolve_19 : decode cX7_resolve 19 = .ok (.return_, 1) := by decide +kernel
theorem dX7_skipBlanks_0 : decode cX7_skipBlanks 0 = .ok (.iload_n 1, 1) := by decide +kernel
theorem dX7_skipBlanks_1 : decode cX7_skipBlanks 1 = .ok (.istore_n 2, 1) := by decide +kernel
theorem dX7_skipBlanks_2 : decode cX7_skipBlanks 2 = .ok (.iload_n 2, 1) := by decide +kernel
theorem dX7_skipBlanks_3 : decode cX7_skipBlanks 3 = .ok (.aload_n 0, 1) := by decide +kernel
theorem dX7_skipBlanks_4 : decode cX7_skipBlanks 4 = .ok (.getfield 49, 3) := by decide +kernel
theorem dX7_skipBlanks_7 : decode cX7_skipBlanks 7 = .ok (.if_icmp .ge 29, 3) := by decide +kernel
theorem dX7_skipBlanks_10 : decode cX7_skipBlanks 10 = .ok (.aload_n 0, 1) := by decide +kernel
theorem dX7_skipBlanks_11 : decode cX7_skipBlanks 11 = .ok (.iload_n 2, 1) := by decide +kernel
theorem dX7_skipBlanks_12 : decode cX7_skipBlanks 12 = .ok (.invokevirtual 69, 3) := by decide +kernel
theorem dX7_skipBlanks_15 : decode cX7_skipBlanks 15 = .ok (.bipush 32, 2) := by decide +kernel
theorem dX7_skipBlanks_17 : decode cX7_skipBlanks 17 = .ok (.if_icmp .eq 13, 3) := by decide +kernel
theorem dX7_skipBlanks_20 : decode cX7_skipBlanks 20 = .ok (.aload_n 0, 1) := by decide +kernel
theorem dX7_skipBlanks_21 : decode cX7_skipBlanks 21 = .ok (.iload_n 2, 1) := by decide +kernel
theorem dX7_skipBlanks_22 : decode cX7_skipBlanks 22 = .ok (.invokevirtual 69, 3) := by decide +kernel
theorem dX7_skipBlanks_25 : decode cX7_skipBlanks 25 = .ok (.bipush 10, 2) := by decide +kernel
theorem dX7_skipBlanks_27 : decode cX7_skipBlanks 27 = .ok (.if_icmp .ne 9, 3) := by decide +kernel
theorem dX7_skipBlanks_30 : decode cX7_skipBlanks 30 = .ok (.iinc 2 1, 3) := by decide +kernel
theorem dX7_skipBlanks_33 : decode cX7_skipBlanks 33 = .ok (.goto (-31), 3) := by decide +kernel
theorem dX7_skipBlanks_36 : decode cX7_skipBlanks 36 = .ok (.iload_n 2, 1) := by decide +kernel
theorem dX7_skipBlanks_37 : decode cX7_skipBlanks 37 = .ok (.ireturn, 1) := by decide +kernel
theorem dX7_findEnd_0 : decode cX7_findEnd 0 = .ok (.aload_n 0, 1) := by decide +kernel
theorem dX7_findEnd_1 : decode cX7_findEnd 1 = .ok (.iload_n 1, 1) := by decide +kernel
theorem dX7_findEnd_2 : decode cX7_findEnd 2 = .ok (.invokevirtual 69, 3) := by decide +kernel
theorem dX7_findEnd_5 : decode cX7_findEnd 5 = .ok (.istore_n 2, 1) := by decide +kernel
theorem dX7_findEnd_6 : decode cX7_findEnd 6 = .ok (.iload_n 1, 1) := by decide +kernel
theorem dX7_findEnd_7 : decode cX7_findEnd 7 = .ok (.iconst 1, 1) := by decide +kernel
theorem dX7_findEnd_8 : decode cX7_findEnd 8 = .ok (.iadd, 1) := by decide +kernel
theorem dX7_findEnd_9 : decode cX7_findEnd 9 = .ok (.istore_n 3, 1) := by decide +kernel
theorem dX7_findEnd_10 : decode cX7_findEnd 10 = .ok (.iload_n 2, 1) := by decide +kernel
theorem dX7_findEnd_11 : decode cX7_findEnd 11 = .ok (.invokestatic 73, 3) := by decide +kernel
theorem dX7_findEnd_14 : decode cX7_findEnd 14 = .ok (.ifCond .eq 28, 3) := by decide +kernel
theorem dX7_findEnd_17 : decode cX7_findEnd 17 = .ok (.iload_n 3, 1) := by decide +kernel
theorem dX7_findEnd_18 : decode cX7_findEnd 18 = .ok (.aload_n 0, 1) := by decide +kernel
theorem dX7_findEnd_19 : decode cX7_findEnd 19 = .ok (.getfield 49, 3) := by decide +kernel
theorem dX7_findEnd_22 : decode cX7_findEnd 22 = .ok (.if_icmp .ge 52, 3) := by decide +kernel
theorem dX7_findEnd_25 : decode cX7_findEnd 25 = .ok (.aload_n 0, 1) := by decide +kernel
theorem dX7_findEnd_26 : decode cX7_findEnd 26 = .ok (.iload_n 3, 1) := by decide +kernel
theorem dX7_findEnd_27 : decode cX7_findEnd 27 = .ok (.invokevirtual 69, 3) := by decide +kernel
theorem dX7_findEnd_30 : decode cX7_findEnd 30 = .ok (.invokestatic 73, 3) := by decide +kernel
theorem dX7_findEnd_33 : decode cX7_findEnd 33 = .ok (.ifCond .eq 41, 3) := by decide +kernel
theorem dX7_findEnd_36 : decode cX7_findEnd 36 = .ok (.iinc 3 1, 3) := by decide +kernel
theorem dX7_findEnd_39 : decode cX7_findEnd 39 = .ok (.goto (-22), 3) := by decide +kernel
theorem dX7_findEnd_42 : decode cX7_findEnd 42 = .ok (.iload_n 2, 1) := by decide +kernel
theorem dX7_findEnd_43 : decode cX7_findEnd 43 = .ok (.invokestatic 77, 3) := by decide +kernel
theorem dX7_findEnd_46 : decode cX7_findEnd 46 = .ok (.ifCond .eq 28, 3) := by decide +kernel
theorem dX7_findEnd_49 : decode cX7_findEnd 49 = .ok (.iload_n 3, 1) := by decide +kernel
theorem dX7_findEnd_50 : decode cX7_findEnd 50 = .ok (.aload_n 0, 1) := by decide +kernel
theorem dX7_findEnd_51 : decode cX7_findEnd 51 = .ok (.getfield 49, 3) := by decide +kernel
theorem dX7_findEnd_54 : decode cX7_findEnd 54 = .ok (.if_icmp .ge 20, 3) := by decide +kernel
theorem dX7_findEnd_57 : decode cX7_findEnd 57 = .ok (.aload_n 0, 1) := by decide +kernel
theorem dX7_findEnd_58 : decode cX7_findEnd 58 = .ok (.iload_n 3, 1) := by decide +kernel
theorem dX7_findEnd_59 : decode cX7_findEnd 59 = .ok (.invokevirtual 69, 3) := by decide +kernel
theorem dX7_findEnd_62 : decode cX7_findEnd 62 = .ok (.invokestatic 77, 3) := by decide +kernel
theorem dX7_findEnd_65 : decode cX7_findEnd 65 = .ok (.ifCond .eq 9, 3) := by decide +kernel
theorem dX7_findEnd_68 : decode cX7_findEnd 68 = .ok (.iinc 3 1, 3) := by decide +kernel
theorem dX7_findEnd_71 : decode cX7_findEnd 71 = .ok (.goto (-22), 3) := by decide +kernel
theorem dX7_findEnd_74 : decode cX7_findEnd 74 = .ok (.iload_n 3, 1) := by decide +kernel
theorem dX7_findEnd_75 : decode cX7_findEnd 75 = .ok (.ireturn, 1) := by decide +kernel
theorem dX7_kindOf_0 : decode cX7_kindOf 0 = .ok (.iload_n 1, 1) := by decide +kernel
theorem dX7_kindOf_1 : decode cX7_kindOf 1 = .ok (.aload_n 0, 1) := by decide +kernel
theorem dX7_kindOf_2 : decode cX7_kindOf 2 = .ok (.getfield 49, 3) := by decide +kernel
theorem dX7_kindOf_5 : decode cX7_kindOf 5 = .ok (.if_icmp .lt 7, 3) := by decide +kernel
theorem dX7_kindOf_8 : decode cX7_kindOf 8 = .ok (.getstatic 36, 3) := by decide +kernel
theorem dX7_kindOf_11 : decode cX7_kindOf 11 = .ok (.areturn, 1) := by decide +kernel
theorem dX7_kindOf_12 : decode cX7_kindOf 12 = .ok (.aload_n 0, 1) := by decide +kernel
theorem dX7_kindOf_13 : decode cX7_kindOf 13 = .ok (.iload_n 1, 1) := by decide +kernel
theorem dX7_kindOf_14 : decode cX7_kindOf 14 = .ok (.invokevirtual 69, 3) := by decide +kernel
theorem dX7_kindOf_17 : decode cX7_kindOf 17 = .ok (.istore_n 3, 1) := by decide +kernel
theorem dX7_kindOf_18 : decode cX7_kindOf 18 = .ok (.iload_n 2, 1) := by decide +kernel
theorem dX7_kindOf_19 : decode cX7_kindOf 19 = .ok (.iload_n 1, 1) := by decide +kernel
theorem dX7_kindOf_20 : decode cX7_kindOf 20 = .ok (.isub, 1) := by decide +kernel
theorem dX7_kindOf_21 : decode cX7_kindOf 21 = .ok (.istore 4, 2) := by decide +kernel
theorem dX7_kindOf_23 : decode cX7_kindOf 23 = .ok (.iload_n 3, 1) := by decide +kernel
theorem dX7_kindOf_24 : decode cX7_kindOf 24 = .ok (.invokestatic 73, 3) := by decide +kernel
theorem dX7_kindOf_27 : decode cX7_kindOf 27 = .ok (.ifCond .eq 29, 3) := by decide +kernel
theorem dX7_kindOf_30 : decode cX7_kindOf 30 = .ok (.iload 4, 2) := by decide +kernel
theorem dX7_kindOf_32 : decode cX7_kindOf 32 = .ok (.bipush 8, 2) := by decide +kernel
theorem dX7_kindOf_34 : decode cX7_kindOf 34 = .ok (.if_icmp .le 9, 3) := by decide +kernel
theorem dX7_kindOf_37 : decode cX7_kindOf 37 = .ok (.getstatic 39, 3) := by decide +kernel
theorem dX7_kindOf_40 : decode cX7_kindOf 40 = .ok (.goto 15, 3) := by decide +kernel
theorem dX7_kindOf_43 : decode cX7_kindOf 43 = .ok (.aload_n 0, 1) := by decide +kernel
theorem dX7_kindOf_44 : decode cX7_kindOf 44 = .ok (.iload_n 1, 1) := by decide +kernel
theorem dX7_kindOf_45 : decode cX7_kindOf 45 = .ok (.iload_n 2, 1) := by decide +kernel
theorem dX7_kindOf_46 : decode cX7_kindOf 46 = .ok (.invokestatic 65, 3) := by decide +kernel
theorem dX7_kindOf_49 : decode cX7_kindOf 49 = .ok (.getstatic 32, 3) := by decide +kernel
theorem dX7_kindOf_52 : decode cX7_kindOf 52 = .ok (.invokestatic 80, 3) := by decide +kernel
theorem dX7_kindOf_55 : decode cX7_kindOf 55 = .ok (.areturn, 1) := by decide +kernel
theorem dX7_kindOf_56 : decode cX7_kindOf 56 = .ok (.iload_n 3, 1) := by decide +kernel
theorem dX7_kindOf_57 : decode cX7_kindOf 57 = .ok (.invokestatic 77, 3) := by decide +kernel
theorem dX7_kindOf_60 : decode cX7_kindOf 60 = .ok (.ifCond .eq 19, 3) := by decide +kernel
theorem dX7_kindOf_63 : decode cX7_kindOf 63 = .ok (.iload 4, 2) := by decide +kernel
theorem dX7_kindOf_65 : decode cX7_kindOf 65 = .ok (.iconst 3, 1) := by decide +kernel
theorem dX7_kindOf_66 : decode cX7_kindOf 66 = .ok (.if_icmp .le 9, 3) := by decide +kernel
theorem dX7_kindOf_69 : decode cX7_kindOf 69 = .ok (.getstatic 39, 3) := by decide +kernel
theorem dX7_kindOf_72 : decode cX7_kindOf 72 = .ok (.goto 6, 3) := by decide +kernel
theorem dX7_kindOf_75 : decode cX7_kindOf 75 = .ok (.getstatic 58, 3) := by decide +kernel
theorem dX7_kindOf_78 : decode cX7_kindOf 78 = .ok (.areturn, 1) := by decide +kernel
theorem dX7_kindOf_79 : decode cX7_kindOf 79 = .ok (.aload_n 0, 1) := by decide +kernel
theorem dX7_kindOf_80 : decode cX7_kindOf 80 = .ok (.iload_n 1, 1) := by decide +kernel
theorem dX7_kindOf_81 : decode cX7_kindOf 81 = .ok (.iload_n 2, 1) := by decide +kernel
theorem dX7_kindOf_82 : decode cX7_kindOf 82 = .ok (.invokestatic 65, 3) := by decide +kernel
theorem dX7_kindOf_85 : decode cX7_kindOf 85 = .ok (.getstatic 39, 3) := by decide +kernel
theorem dX7_kindOf_88 : decode cX7_kindOf 88 = .ok (.invokestatic 80, 3) := by decide +kernel
theorem dX7_kindOf_91 : decode cX7_kindOf 91 = .ok (.areturn, 1) := by decide +kernel
theorem dX7_codeOf_0 : decode cX7_codeOf 0 = .ok (.lconst 1, 1) := by decide +kernel
theorem dX7_codeOf_1 : decode cX7_codeOf 1 = .ok (.lstore_n 3, 1) := by decide +kernel
theorem dX7_codeOf_2 : decode cX7_codeOf 2 = .ok (.iload_n 1, 1) := by decide +kernel
theorem dX7_codeOf_3 : decode cX7_codeOf 3 = .ok (.istore 5, 2) := by decide +kernel
theorem dX7_codeOf_5 : decode cX7_codeOf 5 = .ok (.iload 5, 2) := by decide +kernel
theorem dX7_codeOf_7 : decode cX7_codeOf 7 = .ok (.iload_n 2, 1) := by decide +kernel
theorem dX7_codeOf_8 : decode cX7_codeOf 8 = .ok (.if_icmp .ge 20, 3) := by decide +kernel
theorem dX7_codeOf_11 : decode cX7_codeOf 11 = .ok (.lload_n 3, 1) := by decide +kernel
theorem dX7_codeOf_12 : decode cX7_codeOf 12 = .ok (.aload_n 0, 1) := by decide +kernel
theorem dX7_codeOf_13 : decode cX7_codeOf 13 = .ok (.iload 5, 2) := by decide +kernel
theorem dX7_codeOf_15 : decode cX7_codeOf 15 = .ok (.invokevirtual 69, 3) := by decide +kernel
theorem dX7_codeOf_18 : decode cX7_codeOf 18 = .ok (.invokestatic 84, 3) := by decide +kernel
theorem dX7_codeOf_21 : decode cX7_codeOf 21 = .ok (.lstore_n 3, 1) := by decide +kernel
theorem dX7_codeOf_22 : decode cX7_codeOf 22 = .ok (.iinc 5 1, 3) := by decide +kernel
theorem dX7_codeOf_25 : decode cX7_codeOf 25 = .ok (.goto (-20), 3) := by decide +kernel
theorem dX7_codeOf_28 : decode cX7_codeOf 28 = .ok (.lload_n 3, 1) := by decide +kernel
theorem dX7_codeOf_29 : decode cX7_codeOf 29 = .ok (.lreturn, 1) := by decide +kernel
theorem dX7_valueOf_0 : decode cX7_valueOf 0 = .ok (.iconst 0, 1) := by decide +kernel
theorem dX7_valueOf_1 : decode cX7_valueOf 1 = .ok (.istore_n 3, 1) := by decide +kernel
theorem dX7_valueOf_2 : decode cX7_valueOf 2 = .ok (.iload_n 1, 1) := by decide +kernel
theorem dX7_valueOf_3 : decode cX7_valueOf 3 = .ok (.istore 4, 2) := by decide +kernel
theorem dX7_valueOf_5 : decode cX7_valueOf 5 = .ok (.iload 4, 2) := by decide +kernel
theorem dX7_valueOf_7 : decode cX7_valueOf 7 = .ok (.iload_n 2, 1) := by decide +kernel
theorem dX7_valueOf_8 : decode cX7_valueOf 8 = .ok (.if_icmp .ge 24, 3) := by decide +kernel
theorem dX7_valueOf_11 : decode cX7_valueOf 11 = .ok (.iload_n 3, 1) := by decide +kernel
theorem dX7_valueOf_12 : decode cX7_valueOf 12 = .ok (.bipush 10, 2) := by decide +kernel
theorem dX7_valueOf_14 : decode cX7_valueOf 14 = .ok (.imul, 1) := by decide +kernel
theorem dX7_valueOf_15 : decode cX7_valueOf 15 = .ok (.aload_n 0, 1) := by decide +kernel
theorem dX7_valueOf_16 : decode cX7_valueOf 16 = .ok (.iload 4, 2) := by decide +kernel
theorem dX7_valueOf_18 : decode cX7_valueOf 18 = .ok (.invokevirtual 69, 3) := by decide +kernel
theorem dX7_valueOf_21 : decode cX7_valueOf 21 = .ok (.iadd, 1) := by decide +kernel
theorem dX7_valueOf_22 : decode cX7_valueOf 22 = .ok (.bipush 48, 2) := by decide +kernel
theorem dX7_valueOf_24 : decode cX7_valueOf 24 = .ok (.isub, 1) := by decide +kernel
theorem dX7_valueOf_25 : decode cX7_valueOf 25 = .ok (.istore_n 3, 1) := by decide +kernel
theorem dX7_valueOf_26 : decode cX7_valueOf 26 = .ok (.iinc 4 1, 3) := by decide +kernel
theorem dX7_valueOf_29 : decode cX7_valueOf 29 = .ok (.goto (-24), 3) := by decide +kernel
theorem dX7_valueOf_32 : decode cX7_valueOf 32 = .ok (.iload_n 3, 1) := by decide +kernel
theorem dX7_valueOf_33 : decode cX7_valueOf 33 = .ok (.ireturn, 1) := by decide +kernel
theorem dX7_isLetter_0 : decode cX7_isLetter 0 = .ok (.iload_n 0, 1) := by decide +kernel
theorem dX7_isLetter_1 : decode cX7_isLetter 1 = .ok (.bipush 97, 2) := by decide +kernel
theorem dX7_isLetter_3 : decode cX7_isLetter 3 = .ok (.if_icmp .lt 13, 3) := by decide +kernel
theorem dX7_isLetter_6 : decode cX7_isLetter 6 = .ok (.iload_n 0, 1) := by decide +kernel
theorem dX7_isLetter_7 : decode cX7_isLetter 7 = .ok (.bipush 122, 2) := by decide +kernel
theorem dX7_isLetter_9 : decode cX7_isLetter 9 = .ok (.if_icmp .gt 7, 3) := by decide +kernel
theorem dX7_isLetter_12 : decode cX7_isLetter 12 = .ok (.iconst 1, 1) := by decide +kernel
theorem dX7_isLetter_13 : decode cX7_isLetter 13 = .ok (.goto 4, 3) := by decide +kernel
theorem dX7_isLetter_16 : decode cX7_isLetter 16 = .ok (.iconst 0, 1) := by decide +kernel
theorem dX7_isLetter_17 : decode cX7_isLetter 17 = .ok (.ireturn, 1) := by decide +kernel
theorem dX7_isDigit_0 : decode cX7_isDigit 0 = .ok (.iload_n 0, 1) := by decide +kernel
theorem dX7_isDigit_1 : decode cX7_isDigit 1 = .ok (.bipush 48, 2) := by decide +kernel
theorem dX7_isDigit_3 : decode cX7_isDigit 3 = .ok (.if_icmp .lt 13, 3) := by decide +kernel
theorem dX7_isDigit_6 : decode cX7_isDigit 6 = .ok (.iload_n 0, 1) := by decide +kernel
theorem dX7_isDigit_7 : decode cX7_isDigit 7 = .ok (.bipush 57, 2) := by decide +kernel
theorem dX7_isDigit_9 : decode cX7_isDigit 9 = .ok (.if_icmp .gt 7, 3) := by decide +kernel
theorem dX7_isDigit_12 : decode cX7_isDigit 12 = .ok (.iconst 1, 1) := by decide +kernel
theorem dX7_isDigit_13 : decode cX7_isDigit 13 = .ok (.goto 4, 3) := by decide +kernel
theorem dX7_isDigit_16 : decode cX7_isDigit 16 = .ok (.iconst 0, 1) := by decide +kernel
theorem dX7_isDigit_17 : decode cX7_isDigit 17 = .ok (.ireturn, 1) := by decide +kernel
theorem dX8_init_0 : decode cX8_init 0 = .ok (.aload_n 0, 1) := by decide +kernel
theorem dX8_init_1 : decode cX8_init 1 = .ok (.invokespecial 3, 3) := by decide +kernel
theorem dX8_init_4 : decode cX8_init 4 = .ok (.aload_n 0, 1) := by decide +kernel
theorem dX8_init_5 : decode cX8_init 5 = .ok (.sipush 512, 3) := by decide +kernel
theorem dX8_init_8 : decode cX8_init 8 = .ok (.newarray .int, 2) := by decide +kernel
theorem dX8_init_10 : decode cX8_init 10 = .ok (.putfield 11, 3) := by decide +kernel
theorem dX8_init_13 : decode cX8_init 13 = .ok (.aload_n 0, 1) := by decide +kernel
theorem dX8_init_14 : decode cX8_init 14 = .ok (.aload_n 1, 1) := by decide +kernel
theorem dX8_init_15 : decode cX8_init 15 = .ok (.putfield 15, 3) := by decide +kernel
theorem dX8_init_18 : decode cX8_init 18 = .ok (.return_, 1) := by decide +kernel
theorem dX8_forget_0 : decode cX8_forget 0 = .ok (.aload_n 0, 1) := by decide +kernel
theorem dX8_forget_1 : decode cX8_forget 1 = .ok (.iconst 0, 1) := by decide +kernel
theorem dX8_forget_2 : decode cX8_forget 2 = .ok (.putfield 19, 3) := by decide +kernel
theorem dX8_forget_5 : decode cX8_forget 5 = .ok (.return_, 1) := by decide +kernel
theorem dX8_minutesLeft_0 : decode cX8_minutesLeft 0 = .ok (.aload_n 0, 1) := by decide +kernel
theorem dX8_minutesLeft_1 : decode cX8_minutesLeft 1 = .ok (.invokevirtual 23, 3) := by decide +kernel
theorem dX8_minutesLeft_4 : decode cX8_minutesLeft 4 = .ok (.aload_n 0, 1) := by decide +kernel
theorem dX8_minutesLeft_5 : decode cX8_minutesLeft 5 = .ok (.aload_n 0, 1) := by decide +kernel
theorem dX8_minutesLeft_6 : decode cX8_minutesLeft 6 = .ok (.getfield 15, 3) := by decide +kernel
theorem dX8_minutesLeft_9 : decode cX8_minutesLeft 9 = .ok (.getfield 26, 3) := by decide +kernel
theorem dX8_minutesLeft_12 : decode cX8_minutesLeft 12 = .ok (.aload_n 0, 1) := by decide +kernel
theorem dX8_minutesLeft_13 : decode cX8_minutesLeft 13 = .ok (.getfield 15, 3) := by decide +kernel
theorem dX8_minutesLeft_16 : decode cX8_minutesLeft 16 = .ok (.getfield 32, 3) := by decide +kernel
theorem dX8_minutesLeft_19 : decode cX8_minutesLeft 19 = .ok (.invokevirtual 35, 3) := by decide +kernel
theorem dX8_minutesLeft_22 : decode cX8_minutesLeft 22 = .ok (.ireturn, 1) := by decide +kernel
theorem dX8_findFirst_0 : decode cX8_findFirst 0 = .ok (.aload_n 0, 1) := by decide +kernel
theorem dX8_findFirst_1 : decode cX8_findFirst 1 = .ok (.invokevirtual 23, 3) := by decide +kernel
theorem dX8_findFirst_4 : decode cX8_findFirst 4 = .ok (.aload_n 0, 1) := by decide +kernel
theorem dX8_findFirst_5 : decode cX8_findFirst 5 = .ok (.aload_n 0, 1) := by decide +kernel
theorem dX8_findFirst_6 : decode cX8_findFirst 6 = .ok (.getfield 15, 3) := by decide +kernel
theorem dX8_findFirst_9 : decode cX8_findFirst 9 = .ok (.getfield 26, 3) := by decide +kernel
theorem dX8_findFirst_12 : decode cX8_findFirst 12 = .ok (.aload_n 0, 1) := by decide +kernel
theorem dX8_findFirst_13 : decode cX8_findFirst 13 = .ok (.getfield 15, 3) := by decide +kernel
theorem dX8_findFirst_16 : decode cX8_findFirst 16 = .ok (.getfield 32, 3) := by decide +kernel
theorem dX8_findFirst_19 : decode cX8_findFirst 19 = .ok (.invokevirtual 35, 3) := by decide +kernel
theorem dX8_findFirst_22 : decode cX8_findFirst 22 = .ok (.istore_n 1, 1) := by decide +kernel
theorem dX8_findFirst_23 : decode cX8_findFirst 23 = .ok (.iconst 0, 1) := by decide +kernel
theorem dX8_findFirst_24 : decode cX8_findFirst 24 = .ok (.istore_n 2, 1) := by decide +kernel
theorem dX8_findFirst_25 : decode cX8_findFirst 25 = .ok (.iload_n 2, 1) := by decide +kernel
theorem dX8_findFirst_26 : decode cX8_findFirst 26 = .ok (.aload_n 0, 1) := by decide +kernel
theorem dX8_findFirst_27 : decode cX8_findFirst 27 = .ok (.getfield 15, 3) := by decide +kernel
theorem dX8_findFirst_30 : decode cX8_findFirst 30 = .ok (.getfield 39, 3) := by decide +kernel
theorem dX8_findFirst_33 : decode cX8_findFirst 33 = .ok (.if_icmp .ge 54, 3) := by decide +kernel
theorem dX8_findFirst_36 : decode cX8_findFirst 36 = .ok (.iload_n 2, 1) := by decide +kernel
theorem dX8_findFirst_37 : decode cX8_findFirst 37 = .ok (.istore_n 3, 1) := by decide +kernel
theorem dX8_findFirst_38 : decode cX8_findFirst 38 = .ok (.iload_n 3, 1) := by decide +kernel
theorem dX8_findFirst_39 : decode cX8_findFirst 39 = .ok (.aload_n 0, 1) := by decide +kernel
theorem dX8_findFirst_40 : decode cX8_findFirst 40 = .ok (.getfield 15, 3) := by decide +kernel
theorem dX8_findFirst_43 : decode cX8_findFirst 43 = .ok (.getfield 39, 3) := by decide +kernel
theorem dX8_findFirst_46 : decode cX8_findFirst 46 = .ok (.if_icmp .ge 35, 3) := by decide +kernel
theorem dX8_findFirst_49 : decode cX8_findFirst 49 = .ok (.aload_n 0, 1) := by decide +kernel
theorem dX8_findFirst_50 : decode cX8_findFirst 50 = .ok (.aload_n 0, 1) := by decide +kernel
theorem dX8_findFirst_51 : decode cX8_findFirst 51 = .ok (.getfield 15, 3) := by decide +kernel
theorem dX8_findFirst_54 : decode cX8_findFirst 54 = .ok (.getfield 26, 3) := by decide +kernel
theorem dX8_findFirst_57 : decode cX8_findFirst 57 = .ok (.aload_n 0, 1) := by decide +kernel
theorem dX8_findFirst_58 : decode cX8_findFirst 58 = .ok (.getfield 15, 3) := by decide +kernel
theorem dX8_findFirst_61 : decode cX8_findFirst 61 = .ok (.getfield 32, 3) := by decide +kernel
theorem dX8_findFirst_64 : decode cX8_findFirst 64 = .ok (.iload_n 2, 1) := by decide +kernel
theorem dX8_findFirst_65 : decode cX8_findFirst 65 = .ok (.iload_n 3, 1) := by decide +kernel
theorem dX8_findFirst_66 : decode cX8_findFirst 66 = .ok (.invokevirtual 42, 3) := by decide +kernel
theorem dX8_findFirst_69 : decode cX8_findFirst 69 = .ok (.iload_n 1, 1) := by decide +kernel
theorem dX8_findFirst_70 : decode cX8_findFirst 70 = .ok (.if_icmp .ne 5, 3) := by decide +kernel
theorem dX8_findFirst_73 : decode cX8_findFirst 73 = .ok (.iload_n 2, 1) := by decide +kernel
theorem dX8_findFirst_74 : decode cX8_findFirst 74 = .ok (.ireturn, 1) := by decide +kernel
theorem dX8_findFirst_75 : decode cX8_findFirst 75 = .ok (.iinc 3 1, 3) := by decide +kernel
theorem dX8_findFirst_78 : decode cX8_findFirst 78 = .ok (.goto (-40), 3) := by decide +kernel
theorem dX8_findFirst_81 : decode cX8_findFirst 81 = .ok (.iinc 2 1, 3) := by decide +kernel
theorem dX8_findFirst_84 : decode cX8_findFirst 84 = .ok (.goto (-59), 3) := by decide +kernel
theorem dX8_findFirst_87 : decode cX8_findFirst 87 = .ok (.iconst (-1), 1) := by decide +kernel
theorem dX8_findFirst_88 : decode cX8_findFirst 88 = .ok (.ireturn, 1) := by decide +kernel
theorem dX8_findSecond_0 : decode cX8_findSecond 0 = .ok (.aload_n 0, 1) := by decide +kernel
theorem dX8_findSecond_1 : decode cX8_findSecond 1 = .ok (.aload_n 0, 1) := by decide +kernel
theorem dX8_findSecond_2 : decode cX8_findSecond 2 = .ok (.getfield 15, 3) := by decide +kernel
theorem dX8_findSecond_5 : decode cX8_findSecond 5 = .ok (.getfield 26, 3) := by decide +kernel
theorem dX8_findSecond_8 : decode cX8_findSecond 8 = .ok (.aload_n 0, 1) := by decide +kernel
theorem dX8_findSecond_9 : decode cX8_findSecond 9 = .ok (.getfield 15, 3) := by decide +kernel
theorem dX8_findSecond_12 : decode cX8_findSecond 12 = .ok (.getfield 32, 3) := by decide +kernel
theorem dX8_findSecond_15 : decode cX8_findSecond 15 = .ok (.invokevirtual 35, 3) := by decide +kernel
theorem dX8_findSecond_18 : decode cX8_findSecond 18 = .ok (.istore_n 2, 1) := by decide +kernel
theorem dX8_findSecond_19 : decode cX8_findSecond 19 = .ok (.aload_n 0, 1) := by decide +kernel
theorem dX8_findSecond_20 : decode cX8_findSecond 20 = .ok (.aload_n 0, 1) := by decide +kernel
theorem dX8_findSecond_21 : decode cX8_findSecond 21 = .ok (.getfield 15, 3) := by decide +kernel
theorem dX8_findSecond_24 : decode cX8_findSecond 24 = .ok (.getfield 26, 3) := by decide +kernel
theorem dX8_findSecond_27 : decode cX8_findSecond 27 = .ok (.aload_n 0, 1) := by decide +kernel
theorem dX8_findSecond_28 : decode cX8_findSecond 28 = .ok (.getfield 15, 3) := by decide +kernel
theorem dX8_findSecond_31 : decode cX8_findSecond 31 = .ok (.getfield 32, 3) := by decide +kernel
theorem dX8_findSecond_34 : decode cX8_findSecond 34 = .ok (.iload_n 1, 1) := by decide +kernel
theorem dX8_findSecond_35 : decode cX8_findSecond 35 = .ok (.iload_n 1, 1) := by decide +kernel
theorem dX8_findSecond_36 : decode cX8_findSecond 36 = .ok (.invokevirtual 42, 3) := by decide +kernel
theorem dX8_findSecond_39 : decode cX8_findSecond 39 = .ok (.iload_n 2, 1) := by decide +kernel
theorem dX8_findSecond_40 : decode cX8_findSecond 40 = .ok (.if_icmp .ne 5, 3) := by decide +kernel
theorem dX8_findSecond_43 : decode cX8_findSecond 43 = .ok (.iconst (-1), 1) := by decide +kernel
theorem dX8_findSecond_44 : decode cX8_findSecond 44 = .ok (.ireturn, 1) := by decide +kernel
theorem dX8_findSecond_45 : decode cX8_findSecond 45 = .ok (.iconst 0, 1) := by decide +kernel
theorem dX8_findSecond_46 : decode cX8_findSecond 46 = .ok (.istore_n 3, 1) := by decide +kernel
theorem dX8_findSecond_47 : decode cX8_findSecond 47 = .ok (.iload_n 3, 1) := by decide +kernel
theorem dX8_findSecond_48 : decode cX8_findSecond 48 = .ok (.aload_n 0, 1) := by decide +kernel
theorem dX8_findSecond_49 : decode cX8_findSecond 49 = .ok (.getfield 15, 3) := by decide +kernel
theorem dX8_findSecond_52 : decode cX8_findSecond 52 = .ok (.getfield 39, 3) := by decide +kernel
theorem dX8_findSecond_55 : decode cX8_findSecond 55 = .ok (.if_icmp .ge 35, 3) := by decide +kernel
theorem dX8_findSecond_58 : decode cX8_findSecond 58 = .ok (.aload_n 0, 1) := by decide +kernel
theorem dX8_findSecond_59 : decode cX8_findSecond 59 = .ok (.aload_n 0, 1) := by decide +kernel
theorem dX8_findSecond_60 : decode cX8_findSecond 60 = .ok (.getfield 15, 3) := by decide +kernel
theorem dX8_findSecond_63 : decode cX8_findSecond 63 = .ok (.getfield 26, 3) := by decide +kernel
theorem dX8_findSecond_66 : decode cX8_findSecond 66 = .ok (.aload_n 0, 1) := by decide +kernel
theorem dX8_findSecond_67 : decode cX8_findSecond 67 = .ok (.getfield 15, 3) := by decide +kernel
theorem dX8_findSecond_70 : decode cX8_findSecond 70 = .ok (.getfield 32, 3) := by decide +kernel
theorem dX8_findSecond_73 : decode cX8_findSecond 73 = .ok (.iload_n 1, 1) := by decide +kernel
theorem dX8_findSecond_74 : decode cX8_findSecond 74 = .ok (.iload_n 3, 1) := by decide +kernel
theorem dX8_findSecond_75 : decode cX8_findSecond 75 = .ok (.invokevirtual 42, 3) := by decide +kernel
theorem dX8_findSecond_78 : decode cX8_findSecond 78 = .ok (.iload_n 2, 1) := by decide +kernel
theorem dX8_findSecond_79 : decode cX8_findSecond 79 = .ok (.if_icmp .ne 5, 3) := by decide +kernel
theorem dX8_findSecond_82 : decode cX8_findSecond 82 = .ok (.iload_n 3, 1) := by decide +kernel
theorem dX8_findSecond_83 : decode cX8_findSecond 83 = .ok (.ireturn, 1) := by decide +kernel
theorem dX8_findSecond_84 : decode cX8_findSecond 84 = .ok (.iinc 3 1, 3) := by decide +kernel
theorem dX8_findSecond_87 : decode cX8_findSecond 87 = .ok (.goto (-40), 3) := by decide +kernel
theorem dX8_findSecond_90 : decode cX8_findSecond 90 = .ok (.iconst (-1), 1) := by decide +kernel
theorem dX8_findSecond_91 : decode cX8_findSecond 91 = .ok (.ireturn, 1) := by decide +kernel
theorem dX8_prepare_0 : decode cX8_prepare 0 = .ok (.aload_n 0, 1) := by decide +kernel
theorem dX8_prepare_1 : decode cX8_prepare 1 = .ok (.getfield 19, 3) := by decide +kernel
theorem dX8_prepare_4 : decode cX8_prepare 4 = .ok (.ifCond .eq 4, 3) := by decide +kernel
theorem dX8_prepare_7 : decode cX8_prepare 7 = .ok (.return_, 1) := by decide +kernel
theorem dX8_prepare_8 : decode cX8_prepare 8 = .ok (.aload_n 0, 1) := by decide +kernel
theorem dX8_prepare_9 : decode cX8_prepare 9 = .ok (.getfield 11, 3) := by decide +kernel
theorem dX8_prepare_12 : decode cX8_prepare 12 = .ok (.ldc 46, 2) := by decide +kernel
theorem dX8_prepare_14 : decode cX8_prepare 14 = .ok (.invokestatic 47, 3) := by decide +kernel
theorem dX8_prepare_17 : decode cX8_prepare 17 = .ok (.aload_n 0, 1) := by decide +kernel
theorem dX8_prepare_18 : decode cX8_prepare 18 = .ok (.getfield 11, 3) := by decide +kernel
theorem dX8_prepare_21 : decode cX8_prepare 21 = .ok (.iconst 0, 1) := by decide +kernel
theorem dX8_prepare_22 : decode cX8_prepare 22 = .ok (.iconst 0, 1) := by decide +kernel
theorem dX8_prepare_23 : decode cX8_prepare 23 = .ok (.iastore, 1) := by decide +kernel
theorem dX8_prepare_24 : decode cX8_prepare 24 = .ok (.aload_n 0, 1) := by decide +kernel
theorem dX8_prepare_25 : decode cX8_prepare 25 = .ok (.getfield 11, 3) := by decide +kernel
theorem dX8_prepare_28 : decode cX8_prepare 28 = .ok (.iconst 1, 1) := by decide +kernel
theorem dX8_prepare_29 : decode cX8_prepare 29 = .ok (.iconst 0, 1) := by decide +kernel
theorem dX8_prepare_30 : decode cX8_prepare 30 = .ok (.iastore, 1) := by decide +kernel
theorem dX8_prepare_31 : decode cX8_prepare 31 = .ok (.iconst 1, 1) := by decide +kernel
theorem dX8_prepare_32 : decode cX8_prepare 32 = .ok (.istore_n 1, 1) := by decide +kernel
theorem dX8_prepare_33 : decode cX8_prepare 33 = .ok (.iconst 0, 1) := by decide +kernel
theorem dX8_prepare_34 : decode cX8_prepare 34 = .ok (.istore_n 2, 1) := by decide +kernel
theorem dX8_prepare_35 : decode cX8_prepare 35 = .ok (.iload_n 2, 1) := by decide +kernel
theorem dX8_prepare_36 : decode cX8_prepare 36 = .ok (.sipush 512, 3) := by decide +kernel
theorem dX8_prepare_39 : decode cX8_prepare 39 = .ok (.if_icmp .ge 18, 3) := by decide +kernel
theorem dX8_prepare_42 : decode cX8_prepare 42 = .ok (.iload_n 1, 1) := by decide +kernel
theorem dX8_prepare_43 : decode cX8_prepare 43 = .ok (.ifCond .eq 14, 3) := by decide +kernel
theorem dX8_prepare_46 : decode cX8_prepare 46 = .ok (.aload_n 0, 1) := by decide +kernel
theorem dX8_prepare_47 : decode cX8_prepare 47 = .ok (.invokevirtual 53, 3) := by decide +kernel
theorem dX8_prepare_50 : decode cX8_prepare 50 = .ok (.istore_n 1, 1) := by decide +kernel
theorem dX8_prepare_51 : decode cX8_prepare 51 = .ok (.iinc 2 1, 3) := by decide +kernel
theorem dX8_prepare_54 : decode cX8_prepare 54 = .ok (.goto (-19), 3) := by decide +kernel
theorem dX8_prepare_57 : decode cX8_prepare 57 = .ok (.aload_n 0, 1) := by decide +kernel
theorem dX8_prepare_58 : decode cX8_prepare 58 = .ok (.iconst 1, 1) := by decide +kernel
theorem dX8_prepare_59 : decode cX8_prepare 59 = .ok (.putfield 19, 3) := by decide +kernel
theorem dX8_prepare_62 : decode cX8_prepare 62 = .ok (.return_, 1) := by decide +kernel
theorem dX8_improveAll_0 : decode cX8_improveAll 0 = .ok (.iconst 0, 1) := by decide +kernel
theorem dX8_improveAll_1 : decode cX8_improveAll 1 = .ok (.istore_n 1, 1) := by decide +kernel
theorem dX8_improveAll_2 : decode cX8_improveAll 2 = .ok (.iconst 1, 1) := by decide +kernel
theorem dX8_improveAll_3 : decode cX8_improveAll 3 = .ok (.aload_n 0, 1) := by decide +kernel
theorem dX8_improveAll_4 : decode cX8_improveAll 4 = .ok (.getfield 15, 3) := by decide +kernel
theorem dX8_improveAll_7 : decode cX8_improveAll 7 = .ok (.getfield 39, 3) := by decide +kernel
theorem dX8_improveAll_10 : decode cX8_improveAll 10 = .ok (.ishl, 1) := by decide +kernel
theorem dX8_improveAll_11 : decode cX8_improveAll 11 = .ok (.istore_n 2, 1) := by decide +kernel
theorem dX8_improveAll_12 : decode cX8_improveAll 12 = .ok (.iconst 1, 1) := by decide +kernel
theorem dX8_improveAll_13 : decode cX8_improveAll 13 = .ok (.istore_n 3, 1) := by decide +kernel
theorem dX8_improveAll_14 : decode cX8_improveAll 14 = .ok (.iload_n 3, 1) := by decide +kernel
theorem dX8_improveAll_15 : decode cX8_improveAll 15 = .ok (.aload_n 0, 1) := by decide +kernel
theorem dX8_improveAll_16 : decode cX8_improveAll 16 = .ok (.getfield 15, 3) := by decide +kernel
theorem dX8_improveAll_19 : decode cX8_improveAll 19 = .ok (.getfield 39, 3) := by decide +kernel
theorem dX8_improveAll_22 : decode cX8_improveAll 22 = .ok (.if_icmp .gt 79, 3) := by decide +kernel
theorem dX8_improveAll_25 : decode cX8_improveAll 25 = .ok (.iconst 1, 1) := by decide +kernel
theorem dX8_improveAll_26 : decode cX8_improveAll 26 = .ok (.istore 4, 2) := by decide +kernel
theorem dX8_improveAll_28 : decode cX8_improveAll 28 = .ok (.iload 4, 2) := by decide +kernel
theorem dX8_improveAll_30 : decode cX8_improveAll 30 = .ok (.iload_n 2, 1) := by decide +kernel
theorem dX8_improveAll_31 : decode cX8_improveAll 31 = .ok (.if_icmp .ge 28, 3) := by decide +kernel
theorem dX8_improveAll_34 : decode cX8_improveAll 34 = .ok (.iload 4, 2) := by decide +kernel
theorem dX8_improveAll_36 : decode cX8_improveAll 36 = .ok (.invokestatic 57, 3) := by decide +kernel
theorem dX8_improveAll_39 : decode cX8_improveAll 39 = .ok (.iload_n 3, 1) := by decide +kernel
theorem dX8_improveAll_40 : decode cX8_improveAll 40 = .ok (.if_icmp .ne 13, 3) := by decide +kernel
theorem dX8_improveAll_43 : decode cX8_improveAll 43 = .ok (.iload_n 1, 1) := by decide +kernel
theorem dX8_improveAll_44 : decode cX8_improveAll 44 = .ok (.aload_n 0, 1) := by decide +kernel
theorem dX8_improveAll_45 : decode cX8_improveAll 45 = .ok (.iload 4, 2) := by decide +kernel
theorem dX8_improveAll_47 : decode cX8_improveAll 47 = .ok (.iconst 1, 1) := by decide +kernel
theorem dX8_improveAll_48 : decode cX8_improveAll 48 = .ok (.invokevirtual 63, 3) := by decide +kernel
theorem dX8_improveAll_51 : decode cX8_improveAll 51 = .ok (.ior, 1) := by decide +kernel
theorem dX8_improveAll_52 : decode cX8_improveAll 52 = .ok (.istore_n 1, 1) := by decide +kernel
theorem dX8_improveAll_53 : decode cX8_improveAll 53 = .ok (.iinc 4 1, 3) := by decide +kernel
theorem dX8_improveAll_56 : decode cX8_improveAll 56 = .ok (.goto (-28), 3) := by decide +kernel
theorem dX8_improveAll_59 : decode cX8_improveAll 59 = .ok (.iconst 1, 1) := by decide +kernel
theorem dX8_improveAll_60 : decode cX8_improveAll 60 = .ok (.istore 4, 2) := by decide +kernel
theorem dX8_improveAll_62 : decode cX8_improveAll 62 = .ok (.iload 4, 2) := by decide +kernel
theorem dX8_improveAll_64 : decode cX8_improveAll 64 = .ok (.iload_n 2, 1) := by decide +kernel
theorem dX8_improveAll_65 : decode cX8_improveAll 65 = .ok (.if_icmp .ge 30, 3) := by decide +kernel
theorem dX8_improveAll_68 : decode cX8_improveAll 68 = .ok (.iload 4, 2) := by decide +kernel
theorem dX8_improveAll_70 : decode cX8_improveAll 70 = .ok (.invokestatic 57, 3) := by decide +kernel
theorem dX8_improveAll_73 : decode cX8_improveAll 73 = .ok (.iload_n 3, 1) := by decide +kernel
theorem dX8_improveAll_74 : decode cX8_improveAll 74 = .ok (.iconst 1, 1) := by decide +kernel
theorem dX8_improveAll_75 : decode cX8_improveAll 75 = .ok (.isub, 1) := by decide +kernel
theorem dX8_improveAll_76 : decode cX8_improveAll 76 = .ok (.if_icmp .ne 13, 3) := by decide +kernel
theorem dX8_improveAll_79 : decode cX8_improveAll 79 = .ok (.iload_n 1, 1) := by decide +kernel
theorem dX8_improveAll_80 : decode cX8_improveAll 80 = .ok (.aload_n 0, 1) := by decide +kernel
theorem dX8_improveAll_81 : decode cX8_improveAll 81 = .ok (.iload 4, 2) := by decide +kernel
theorem dX8_improveAll_83 : decode cX8_improveAll 83 = .ok (.iconst 0, 1) := by decide +kernel
theorem dX8_improveAll_84 : decode cX8_improveAll 84 = .ok (.invokevirtual 63, 3) := by decide +kernel
theorem dX8_improveAll_87 : decode cX8_improveAll 87 = .ok (.ior, 1) := by decide +kernel
theorem dX8_improveAll_88 : decode cX8_improveAll 88 = .ok (.istore_n 1, 1) := by decide +kernel
theorem dX8_improveAll_89 : decode cX8_improveAll 89 = .ok (.iinc 4 1, 3) := by decide +kernel
theorem dX8_improveAll_92 : decode cX8_improveAll 92 = .ok (.goto (-30), 3) := by decide +kernel
theorem dX8_improveAll_95 : decode cX8_improveAll 95 = .ok (.iinc 3 1, 3) := by decide +kernel
theorem dX8_improveAll_98 : decode cX8_improveAll 98 = .ok (.goto (-84), 3) := by decide +kernel
theorem dX8_improveAll_101 : decode cX8_improveAll 101 = .ok (.iload_n 1, 1) := by decide +kernel
theorem dX8_improveAll_102 : decode cX8_improveAll 102 = .ok (.ireturn, 1) := by decide +kernel
theorem dX8_improve_0 : decode cX8_improve 0 = .ok (.aload_n 0, 1) := by decide +kernel
theorem dX8_improve_1 : decode cX8_improve 1 = .ok (.iload_n 1, 1) := by decide +kernel
theorem dX8_improve_2 : decode cX8_improve 2 = .ok (.iload_n 2, 1) := by decide +kernel
theorem dX8_improve_3 : decode cX8_improve 3 = .ok (.invokevirtual 35, 3) := by decide +kernel
theorem dX8_improve_6 : decode cX8_improve 6 = .ok (.istore_n 3, 1) := by decide +kernel
theorem dX8_improve_7 : decode cX8_improve 7 = .ok (.iconst 0, 1) := by decide +kernel
theorem dX8_improve_8 : decode cX8_improve 8 = .ok (.istore 4, 2) := by decide +kernel
theorem dX8_improve_10 : decode cX8_improve 10 = .ok (.iconst 0, 1) := by decide +kernel
theorem dX8_improve_11 : decode cX8_improve 11 = .ok (.istore 5, 2) := by decide +kernel
theorem dX8_improve_13 : decode cX8_improve 13 = .ok (.iload 5, 2) := by decide +kernel
theorem dX8_improve_15 : decode cX8_improve 15 = .ok (.aload_n 0, 1) := by decide +kernel
theorem dX8_improve_16 : decode cX8_improve 16 = .ok (.getfield 15, 3) := by decide +kernel
theorem dX8_improve_19 : decode cX8_improve 19 = .ok (.getfield 39, 3) := by decide +kernel
theorem dX8_improve_22 : decode cX8_improve 22 = .ok (.if_icmp .ge 55, 3) := by decide +kernel
theorem dX8_improve_25 : decode cX8_improve 25 = .ok (.iload 5, 2) := by decide +kernel
theorem dX8_improve_27 : decode cX8_improve 27 = .ok (.istore 6, 2) := by decide +kernel
theorem dX8_improve_29 : decode cX8_improve 29 = .ok (.iload 6, 2) := by decide +kernel
theorem dX8_improve_31 : decode cX8_improve 31 = .ok (.aload_n 0, 1) := by decide +kernel
theorem dX8_improve_32 : decode cX8_improve 32 = .ok (.getfield 15, 3) := by decide +kernel
theorem dX8_improve_35 : decode cX8_improve 35 = .ok (.getfield 39, 3) := by decide +kernel
theorem dX8_improve_38 : decode cX8_improve 38 = .ok (.if_icmp .ge 33, 3) := by decide +kernel
theorem dX8_improve_41 : decode cX8_improve 41 = .ok (.aload_n 0, 1) := by decide +kernel
theorem dX8_improve_42 : decode cX8_improve 42 = .ok (.iload_n 1, 1) := by decide +kernel
theorem dX8_improve_43 : decode cX8_improve 43 = .ok (.iload_n 2, 1) := by decide +kernel
theorem dX8_improve_44 : decode cX8_improve 44 = .ok (.iload 5, 2) := by decide +kernel
theorem dX8_improve_46 : decode cX8_improve 46 = .ok (.iload 6, 2) := by decide +kernel
theorem dX8_improve_48 : decode cX8_improve 48 = .ok (.invokevirtual 42, 3) := by decide +kernel
theorem dX8_improve_51 : decode cX8_improve 51 = .ok (.istore 7, 2) := by decide +kernel
theorem dX8_improve_53 : decode cX8_improve 53 = .ok (.iload 7, 2) := by decide +kernel
theorem dX8_improve_55 : decode cX8_improve 55 = .ok (.iload_n 3, 1) := by decide +kernel
theorem dX8_improve_56 : decode cX8_improve 56 = .ok (.if_icmp .ge 9, 3) := by decide +kernel
theorem dX8_improve_59 : decode cX8_improve 59 = .ok (.iload 7, 2) := by decide +kernel
theorem dX8_improve_61 : decode cX8_improve 61 = .ok (.istore_n 3, 1) := by decide +kernel
theorem dX8_improve_62 : decode cX8_improve 62 = .ok (.iconst 1, 1) := by decide +kernel
theorem dX8_improve_63 : decode cX8_improve 63 = .ok (.istore 4, 2) := by decide +kernel
theorem dX8_improve_65 : decode cX8_improve 65 = .ok (.iinc 6 1, 3) := by decide +kernel
theorem dX8_improve_68 : decode cX8_improve 68 = .ok (.goto (-39), 3) := by decide +kernel
theorem dX8_improve_71 : decode cX8_improve 71 = .ok (.iinc 5 1, 3) := by decide +kernel
theorem dX8_improve_74 : decode cX8_improve 74 = .ok (.goto (-61), 3) := by decide +kernel
theorem dX8_improve_77 : decode cX8_improve 77 = .ok (.iload_n 2, 1) := by decide +kernel
theorem dX8_improve_78 : decode cX8_improve 78 = .ok (.ifCond .eq 11, 3) := by decide +kernel
theorem dX8_improve_81 : decode cX8_improve 81 = .ok (.iload_n 1, 1) := by decide +kernel
theorem dX8_improve_82 : decode cX8_improve 82 = .ok (.iconst 2, 1) := by decide +kernel
theorem dX8_improve_83 : decode cX8_improve 83 = .ok (.imul, 1) := by decide +kernel
theorem dX8_improve_84 : decode cX8_improve 84 = .ok (.iconst 1, 1) := by decide +kernel
theorem dX8_improve_85 : decode cX8_improve 85 = .ok (.iadd, 1) := by decide +kernel
theorem dX8_improve_86 : decode cX8_improve 86 = .ok (.goto 6, 3) := by decide +kernel
theorem dX8_improve_89 : decode cX8_improve 89 = .ok (.iload_n 1, 1) := by decide +kernel
theorem dX8_improve_90 : decode cX8_improve 90 = .ok (.iconst 2, 1) := by decide +kernel
theorem dX8_improve_91 : decode cX8_improve 91 = .ok (.imul, 1) := by decide +kernel
theorem dX8_improve_92 : decode cX8_improve 92 = .ok (.istore 5, 2) := by decide +kernel
theorem dX8_improve_94 : decode cX8_improve 94 = .ok (.iload 4, 2) := by decide +kernel
theorem dX8_improve_96 : decode cX8_improve 96 = .ok (.ifCond .eq 24, 3) := by decide +kernel
theorem dX8_improve_99 : decode cX8_improve 99 = .ok (.iload 5, 2) := by decide +kernel
theorem dX8_improve_101 : decode cX8_improve 101 = .ok (.ifCond .lt 19, 3) := by decide +kernel
theorem dX8_improve_104 : decode cX8_improve 104 = .ok (.iload 5, 2) := by decide +kernel
theorem dX8_improve_106 : decode cX8_improve 106 = .ok (.sipush 512, 3) := by decide +kernel
theorem dX8_improve_109 : decode cX8_improve 109 = .ok (.if_icmp .ge 11, 3) := by decide +kernel
theorem dX8_improve_112 : decode cX8_improve 112 = .ok (.aload_n 0, 1) := by decide +kernel
theorem dX8_improve_113 : decode cX8_improve 113 = .ok (.getfield 11, 3) := by decide +kernel
theorem dX8_improve_116 : decode cX8_improve 116 = .ok (.iload 5, 2) := by decide +kernel
theorem dX8_improve_118 : decode cX8_improve 118 = .ok (.iload_n 3, 1) := by decide +kernel
theorem dX8_improve_119 : decode cX8_improve 119 = .ok (.iastore, 1) := by decide +kernel
theorem dX8_improve_120 : decode cX8_improve 120 = .ok (.iload 4, 2) := by decide +kernel
theorem dX8_improve_122 : decode cX8_improve 122 = .ok (.ireturn, 1) := by decide +kernel
theorem dX8_through_0 : decode cX8_through 0 = .ok (.iconst 1, 1) := by decide +kernel
theorem dX8_through_1 : decode cX8_through 1 = .ok (.iload_n 3, 1) := by decide +kernel
theorem dX8_through_2 : decode cX8_through 2 = .ok (.ishl, 1) := by decide +kernel
theorem dX8_through_3 : decode cX8_through 3 = .ok (.iconst 1, 1) := by decide +kernel
theorem dX8_through_4 : decode cX8_through 4 = .ok (.iload 4, 2) := by decide +kernel
theorem dX8_through_6 : decode cX8_through 6 = .ok (.ishl, 1) := by decide +kernel
theorem dX8_through_7 : decode cX8_through 7 = .ok (.ior, 1) := by decide +kernel
theorem dX8_through_8 : decode cX8_through 8 = .ok (.istore 5, 2) := by decide +kernel
theorem dX8_through_10 : decode cX8_through 10 = .ok (.iload_n 2, 1) := by decide +kernel
theorem dX8_through_11 : decode cX8_through 11 = .ok (.ifCond .eq 7, 3) := by decide +kernel
theorem dX8_through_14 : decode cX8_through 14 = .ok (.iload_n 1, 1) := by decide +kernel
theorem dX8_through_15 : decode cX8_through 15 = .ok (.goto 6, 3) := by decide +kernel
theorem dX8_through_18 : decode cX8_through 18 = .ok (.iload_n 1, 1) := by decide +kernel
theorem dX8_through_19 : decode cX8_through 19 = .ok (.iconst (-1), 1) := by decide +kernel
theorem dX8_through_20 : decode cX8_through 20 = .ok (.ixor, 1) := by decide +kernel
theorem dX8_through_21 : decode cX8_through 21 = .ok (.istore 6, 2) := by decide +kernel
theorem dX8_through_23 : decode cX8_through 23 = .ok (.iload 6, 2) := by decide +kernel
theorem dX8_through_25 : decode cX8_through 25 = .ok (.iload 5, 2) := by decide +kernel
theorem dX8_through_27 : decode cX8_through 27 = .ok (.iand, 1) := by decide +kernel
theorem dX8_through_28 : decode cX8_through 28 = .ok (.iload 5, 2) := by decide +kernel
theorem dX8_through_30 : decode cX8_through 30 = .ok (.if_icmp .eq 6, 3) := by decide +kernel
theorem dX8_through_33 : decode cX8_through 33 = .ok (.ldc 46, 2) := by decide +kernel
theorem dX8_through_35 : decode cX8_through 35 = .ok (.ireturn, 1) := by decide +kernel
theorem dX8_through_36 : decode cX8_through 36 = .ok (.aload_n 0, 1) := by decide +kernel
theorem dX8_through_37 : decode cX8_through 37 = .ok (.getfield 15, 3) := by decide +kernel
theorem dX8_through_40 : decode cX8_through 40 = .ok (.iload_n 3, 1) := by decide +kernel
theorem dX8_through_41 : decode cX8_through 41 = .ok (.iload 4, 2) := by decide +kernel
theorem dX8_through_43 : decode cX8_through 43 = .ok (.invokevirtual 67, 3) := by decide +kernel
theorem dX8_through_46 : decode cX8_through 46 = .ok (.aload_n 0, 1) := by decide +kernel
theorem dX8_through_47 : decode cX8_through 47 = .ok (.iload_n 1, 1) := by decide +kernel
theorem dX8_through_48 : decode cX8_through 48 = .ok (.iload 5, 2) := by decide +kernel
theorem dX8_through_50 : decode cX8_through 50 = .ok (.ixor, 1) := by decide +kernel
theorem dX8_through_51 : decode cX8_through 51 = .ok (.iload_n 2, 1) := by decide +kernel
theorem dX8_through_52 : decode cX8_through 52 = .ok (.ifCond .ne 7, 3) := by decide +kernel
theorem dX8_through_55 : decode cX8_through 55 = .ok (.iconst 1, 1) := by decide +kernel
theorem dX8_through_56 : decode cX8_through 56 = .ok (.goto 4, 3) := by decide +kernel
theorem dX8_through_59 : decode cX8_through 59 = .ok (.iconst 0, 1) := by decide +kernel
theorem dX8_through_60 : decode cX8_through 60 = .ok (.invokevirtual 35, 3) := by decide +kernel
theorem dX8_through_63 : decode cX8_through 63 = .ok (.iadd, 1) := by decide +kernel
theorem dX8_through_64 : decode cX8_through 64 = .ok (.ireturn, 1) := by decide +kernel
theorem dX8_known_0 : decode cX8_known 0 = .ok (.iload_n 2, 1) := by decide +kernel
theorem dX8_known_1 : decode cX8_known 1 = .ok (.ifCond .eq 11, 3) := by decide +kernel
theorem dX8_known_4 : decode cX8_known 4 = .ok (.iload_n 1, 1) := by decide +kernel
theorem dX8_known_5 : decode cX8_known 5 = .ok (.iconst 2, 1) := by decide +kernel
theorem dX8_known_6 : decode cX8_known 6 = .ok (.imul, 1) := by decide +kernel
theorem dX8_known_7 : decode cX8_known 7 = .ok (.iconst 1, 1) := by decide +kernel
theorem dX8_known_8 : decode cX8_known 8 = .ok (.iadd, 1) := by decide +kernel
theorem dX8_known_9 : decode cX8_known 9 = .ok (.goto 6, 3) := by decide +kernel
theorem dX8_known_12 : decode cX8_known 12 = .ok (.iload_n 1, 1) := by decide +kernel
theorem dX8_known_13 : decode cX8_known 13 = .ok (.iconst 2, 1) := by decide +kernel
theorem dX8_known_14 : decode cX8_known 14 = .ok (.imul, 1) := by decide +kernel
theorem dX8_known_15 : decode cX8_known 15 = .ok (.istore_n 3, 1) := by decide +kernel
theorem dX8_known_16 : decode cX8_known 16 = .ok (.iload_n 3, 1) := by decide +kernel
theorem dX8_known_17 : decode cX8_known 17 = .ok (.ifCond .lt 19, 3) := by decide +kernel
theorem dX8_known_20 : decode cX8_known 20 = .ok (.iload_n 3, 1) := by decide +kernel
theorem dX8_known_21 : decode cX8_known 21 = .ok (.sipush 512, 3) := by decide +kernel
theorem dX8_known_24 : decode cX8_known 24 = .ok (.if_icmp .ge 12, 3) := by decide +kernel
theorem dX8_known_27 : decode cX8_known 27 = .ok (.aload_n 0, 1) := by decide +kernel
theorem dX8_known_28 : decode cX8_known 28 = .ok (.getfield 11, 3) := by decide +kernel
theorem dX8_known_31 : decode cX8_known 31 = .ok (.iload_n 3, 1) := by decide +kernel
theorem dX8_known_32 : decode cX8_known 32 = .ok (.iaload, 1) := by decide +kernel
theorem dX8_known_33 : decode cX8_known 33 = .ok (.goto 5, 3) := by decide +kernel
theorem dX8_known_36 : decode cX8_known 36 = .ok (.ldc 46, 2) := by decide +kernel
theorem dX8_known_38 : decode cX8_known 38 = .ok (.ireturn, 1) := by decide +kernel
theorem dX9_init_0 : decode cX9_init 0 = .ok (.aload_n 0, 1) := by decide +kernel
theorem dX9_init_1 : decode cX9_init 1 = .ok (.invokespecial 1, 3) := by decide +kernel
theorem dX9_init_4 : decode cX9_init 4 = .ok (.aload_n 0, 1) := by decide +kernel
theorem dX9_init_5 : decode cX9_init 5 = .ok (.new 7, 3) := by decide +kernel
theorem dX9_init_8 : decode cX9_init 8 = .ok (.dup, 1) := by decide +kernel
theorem dX9_init_9 : decode cX9_init 9 = .ok (.invokespecial 9, 3) := by decide +kernel
theorem dX9_init_12 : decode cX9_init 12 = .ok (.putfield 10, 3) := by decide +kernel
theorem dX9_init_15 : decode cX9_init 15 = .ok (.aload_n 0, 1) := by decide +kernel
theorem dX9_init_16 : decode cX9_init 16 = .ok (.new 16, 3) := by decide +kernel
theorem dX9_init_19 : decode cX9_init 19 = .ok (.dup, 1) := by decide +kernel
theorem dX9_init_20 : decode cX9_init 20 = .ok (.invokespecial 18, 3) := by decide +kernel
theorem dX9_init_23 : decode cX9_init 23 = .ok (.putfield 19, 3) := by decide +kernel
theorem dX9_init_26 : decode cX9_init 26 = .ok (.aload_n 0, 1) := by decide +kernel
theorem dX9_init_27 : decode cX9_init 27 = .ok (.new 16, 3) := by decide +kernel
theorem dX9_init_30 : decode cX9_init 30 = .ok (.dup, 1) := by decide +kernel
theorem dX9_init_31 : decode cX9_init 31 = .ok (.invokespecial 18, 3) := by decide +kernel
theorem dX9_init_34 : decode cX9_init 34 = .ok (.putfield 23, 3) := by decide +kernel
theorem dX9_init_37 : decode cX9_init 37 = .ok (.aload_n 0, 1) := by decide +kernel
theorem dX9_init_38 : decode cX9_init 38 = .ok (.new 26, 3) := by decide +kernel
theorem dX9_init_41 : decode cX9_init 41 = .ok (.dup, 1) := by decide +kernel
theorem dX9_init_42 : decode cX9_init 42 = .ok (.aload_n 0, 1) := by decide +kernel
theorem dX9_init_43 : decode cX9_init 43 = .ok (.getfield 23, 3) := by decide +kernel
theorem dX9_init_46 : decode cX9_init 46 = .ok (.invokespecial 28, 3) := by decide +kernel
theorem dX9_init_49 : decode cX9_init 49 = .ok (.putfield 31, 3) := by decide +kernel
theorem dX9_init_52 : decode cX9_init 52 = .ok (.aload_n 0, 1) := by decide +kernel
theorem dX9_init_53 : decode cX9_init 53 = .ok (.new 35, 3) := by decide +kernel
theorem dX9_init_56 : decode cX9_init 56 = .ok (.dup, 1) := by decide +kernel
theorem dX9_init_57 : decode cX9_init 57 = .ok (.invokespecial 37, 3) := by decide +kernel
theorem dX9_init_60 : decode cX9_init 60 = .ok (.putfield 38, 3) := by decide +kernel
theorem dX9_init_63 : decode cX9_init 63 = .ok (.aload_n 0, 1) := by decide +kernel
theorem dX9_init_64 : decode cX9_init 64 = .ok (.new 35, 3) := by decide +kernel
theorem dX9_init_67 : decode cX9_init 67 = .ok (.dup, 1) := by decide +kernel
theorem dX9_init_68 : decode cX9_init 68 = .ok (.invokespecial 37, 3) := by decide +kernel
theorem dX9_init_71 : decode cX9_init 71 = .ok (.putfield 42, 3) := by decide +kernel
theorem dX9_init_74 : decode cX9_init 74 = .ok (.aload_n 0, 1) := by decide +kernel
theorem dX9_init_75 : decode cX9_init 75 = .ok (.new 45, 3) := by decide +kernel
theorem dX9_init_78 : decode cX9_init 78 = .ok (.dup, 1) := by decide +kernel
theorem dX9_init_79 : decode cX9_init 79 = .ok (.aload_n 0, 1) := by decide +kernel
theorem dX9_init_80 : decode cX9_init 80 = .ok (.getfield 19, 3) := by decide +kernel
theorem dX9_init_83 : decode cX9_init 83 = .ok (.aload_n 0, 1) := by decide +kernel
theorem dX9_init_84 : decode cX9_init 84 = .ok (.getfield 38, 3) := by decide +kernel
theorem dX9_init_87 : decode cX9_init 87 = .ok (.invokespecial 47, 3) := by decide +kernel
theorem dX9_init_90 : decode cX9_init 90 = .ok (.putfield 50, 3) := by decide +kernel
theorem dX9_init_93 : decode cX9_init 93 = .ok (.aload_n 0, 1) := by decide +kernel
theorem dX9_init_94 : decode cX9_init 94 = .ok (.new 54, 3) := by decide +kernel
theorem dX9_init_97 : decode cX9_init 97 = .ok (.dup, 1) := by decide +kernel
theorem dX9_init_98 : decode cX9_init 98 = .ok (.aload_n 0, 1) := by decide +kernel
theorem dX9_init_99 : decode cX9_init 99 = .ok (.getfield 38, 3) := by decide +kernel
theorem dX9_init_102 : decode cX9_init 102 = .ok (.invokespecial 56, 3) := by decide +kernel
theorem dX9_init_105 : decode cX9_init 105 = .ok (.putfield 59, 3) := by decide +kernel
theorem dX9_init_108 : decode cX9_init 108 = .ok (.aload_n 0, 1) := by decide +kernel
theorem dX9_init_109 : decode cX9_init 109 = .ok (.iconst (-1), 1) := by decide +kernel
theorem dX9_init_110 : decode cX9_init 110 = .ok (.putfield 63, 3) := by decide +kernel
theorem dX9_init_113 : decode cX9_init 113 = .ok (.aload_n 0, 1) := by decide +kernel
theorem dX9_init_114 : decode cX9_init 114 = .ok (.getfield 19, 3) := by decide +kernel
theorem dX9_init_117 : decode cX9_init 117 = .ok (.invokevirtual 67, 3) := by decide +kernel
theorem dX9_init_120 : decode cX9_init 120 = .ok (.aload_n 0, 1) := by decide +kernel
theorem dX9_init_121 : decode cX9_init 121 = .ok (.getfield 38, 3) := by decide +kernel
theorem dX9_init_124 : decode cX9_init 124 = .ok (.aload_n 0, 1) := by decide +kernel
theorem dX9_init_125 : decode cX9_init 125 = .ok (.getfield 19, 3) := by decide +kernel
theorem dX9_init_128 : decode cX9_init 128 = .ok (.invokevirtual 70, 3) := by decide +kernel
theorem dX9_init_131 : decode cX9_init 131 = .ok (.return_, 1) := by decide +kernel
theorem dX9_feed_0 : decode cX9_feed 0 = .ok (.aload_n 0, 1) := by decide +kernel
theorem dX9_feed_1 : decode cX9_feed 1 = .ok (.getfield 10, 3) := by decide +kernel
theorem dX9_feed_4 : decode cX9_feed 4 = .ok (.bipush 20, 2) := by decide +kernel
theorem dX9_feed_6 : decode cX9_feed 6 = .ok (.invokevirtual 73, 3) := by decide +kernel
theorem dX9_feed_9 : decode cX9_feed 9 = .ok (.ifCond .ne 13, 3) := by decide +kernel
theorem dX9_feed_12 : decode cX9_feed 12 = .ok (.new 77, 3) := by decide +kernel
theorem dX9_feed_15 : decode cX9_feed 15 = .ok (.dup, 1) := by decide +kernel
theorem dX9_feed_16 : decode cX9_feed 16 = .ok (.ldc 79, 2) := by decide +kernel
theorem dX9_feed_18 : decode cX9_feed 18 = .ok (.invokespecial 81, 3) := by decide +kernel
theorem dX9_feed_21 : decode cX9_feed 21 = .ok (.athrow, 1) := by decide +kernel
theorem dX9_feed_22 : decode cX9_feed 22 = .ok (.aload_n 0, 1) := by decide +kernel
theorem dX9_feed_23 : decode cX9_feed 23 = .ok (.getfield 10, 3) := by decide +kernel
theorem dX9_feed_26 : decode cX9_feed 26 = .ok (.iload_n 1, 1) := by decide +kernel
theorem dX9_feed_27 : decode cX9_feed 27 = .ok (.invokevirtual 84, 3) := by decide +kernel
theorem dX9_feed_30 : decode cX9_feed 30 = .ok (.aload_n 0, 1) := by decide +kernel
theorem dX9_feed_31 : decode cX9_feed 31 = .ok (.getfield 10, 3) := by decide +kernel
theorem dX9_feed_34 : decode cX9_feed 34 = .ok (.iload_n 2, 1) := by decide +kernel
theorem dX9_feed_35 : decode cX9_feed 35 = .ok (.invokevirtual 84, 3) := by decide +kernel
theorem dX9_feed_38 : decode cX9_feed 38 = .ok (.aload_n 0, 1) := by decide +kernel
theorem dX9_feed_39 : decode cX9_feed 39 = .ok (.getfield 10, 3) := by decide +kernel
theorem dX9_feed_42 : decode cX9_feed 42 = .ok (.iload_n 3, 1) := by decide +kernel
theorem dX9_feed_43 : decode cX9_feed 43 = .ok (.invokevirtual 84, 3) := by decide +kernel
theorem dX9_feed_46 : decode cX9_feed 46 = .ok (.aload_n 0, 1) := by decide +kernel
theorem dX9_feed_47 : decode cX9_feed 47 = .ok (.getfield 10, 3) := by decide +kernel
theorem dX9_feed_50 : decode cX9_feed 50 = .ok (.iload 4, 2) := by decide +kernel
theorem dX9_feed_52 : decode cX9_feed 52 = .ok (.invokevirtual 84, 3) := by decide +kernel
theorem dX9_feed_55 : decode cX9_feed 55 = .ok (.aload_n 0, 1) := by decide +kernel
theorem dX9_feed_56 : decode cX9_feed 56 = .ok (.getfield 10, 3) := by decide +kernel
theorem dX9_feed_59 : decode cX9_feed 59 = .ok (.iload 5, 2) := by decide +kernel
theorem dX9_feed_61 : decode cX9_feed 61 = .ok (.invokevirtual 84, 3) := by decide +kernel
theorem dX9_feed_64 : decode cX9_feed 64 = .ok (.aload_n 0, 1) := by decide +kernel
theorem dX9_feed_65 : decode cX9_feed 65 = .ok (.getfield 10, 3) := by decide +kernel
theorem dX9_feed_68 : decode cX9_feed 68 = .ok (.getfield 88, 3) := by decide +kernel
theorem dX9_feed_71 : decode cX9_feed 71 = .ok (.ireturn, 1) := by decide +kernel
theorem dX9_trim_0 : decode cX9_trim 0 = .ok (.iload_n 1, 1) := by decide +kernel
theorem dX9_trim_1 : decode cX9_trim 1 = .ok (.ifCond .lt 14, 3) := by decide +kernel
theorem dX9_trim_4 : decode cX9_trim 4 = .ok (.iload_n 1, 1) := by decide +kernel
theorem dX9_trim_5 : decode cX9_trim 5 = .ok (.aload_n 0, 1) := by decide +kernel
theorem dX9_trim_6 : decode cX9_trim 6 = .ok (.getfield 10, 3) := by decide +kernel
theorem dX9_trim_9 : decode cX9_trim 9 = .ok (.getfield 88, 3) := by decide +kernel
theorem dX9_trim_12 : decode cX9_trim 12 = .ok (.if_icmp .le 13, 3) := by decide +kernel
theorem dX9_trim_15 : decode cX9_trim 15 = .ok (.new 91, 3) := by decide +kernel
theorem dX9_trim_18 : decode cX9_trim 18 = .ok (.dup, 1) := by decide +kernel
theorem dX9_trim_19 : decode cX9_trim 19 = .ok (.ldc 93, 2) := by decide +kernel
theorem dX9_trim_21 : decode cX9_trim 21 = .ok (.invokespecial 95, 3) := by decide +kernel
theorem dX9_trim_24 : decode cX9_trim 24 = .ok (.athrow, 1) := by decide +kernel
theorem dX9_trim_25 : decode cX9_trim 25 = .ok (.aload_n 0, 1) := by decide +kernel
theorem dX9_trim_26 : decode cX9_trim 26 = .ok (.getfield 10, 3) := by decide +kernel
theorem dX9_trim_29 : decode cX9_trim 29 = .ok (.iload_n 1, 1) := by decide +kernel
theorem dX9_trim_30 : decode cX9_trim 30 = .ok (.putfield 88, 3) := by decide +kernel
theorem dX9_trim_33 : decode cX9_trim 33 = .ok (.iload_n 1, 1) := by decide +kernel
theorem dX9_trim_34 : decode cX9_trim 34 = .ok (.ireturn, 1) := by decide +kernel
theorem dX9_teach_0 : decode cX9_teach 0 = .ok (.aload_n 0, 1) := by decide +kernel
theorem dX9_teach_1 : decode cX9_teach 1 = .ok (.getfield 31, 3) := by decide +kernel
theorem dX9_teach_4 : decode cX9_teach 4 = .ok (.aload_n 0, 1) := by decide +kernel
theorem dX9_teach_5 : decode cX9_teach 5 = .ok (.getfield 10, 3) := by decide +kernel
theorem dX9_teach_8 : decode cX9_teach 8 = .ok (.aload_n 0, 1) := by decide +kernel
theorem dX9_teach_9 : decode cX9_teach 9 = .ok (.getfield 23, 3) := by decide +kernel
theorem dX9_teach_12 : decode cX9_teach 12 = .ok (.invokevirtual 96, 3) := by decide +kernel
theorem dX9_teach_15 : decode cX9_teach 15 = .ok (.aload_n 0, 1) := by decide +kernel
theorem dX9_teach_16 : decode cX9_teach 16 = .ok (.getfield 31, 3) := by decide +kernel
theorem dX9_teach_19 : decode cX9_teach 19 = .ok (.invokevirtual 100, 3) := by decide +kernel
theorem dX9_teach_22 : decode cX9_teach 22 = .ok (.ifCond .eq 27, 3) := by decide +kernel
theorem dX9_teach_25 : decode cX9_teach 25 = .ok (.aload_n 0, 1) := by decide +kernel
theorem dX9_teach_26 : decode cX9_teach 26 = .ok (.getfield 31, 3) := by decide +kernel
theorem dX9_teach_29 : decode cX9_teach 29 = .ok (.invokevirtual 104, 3) := by decide +kernel
theorem dX9_teach_32 : decode cX9_teach 32 = .ok (.ifCond .eq 17, 3) := by decide +kernel
theorem dX9_teach_35 : decode cX9_teach 35 = .ok (.aload_n 0, 1) := by decide +kernel
theorem dX9_teach_36 : decode cX9_teach 36 = .ok (.getfield 31, 3) := by decide +kernel
theorem dX9_teach_39 : decode cX9_teach 39 = .ok (.invokevirtual 107, 3) := by decide +kernel
theorem dX9_teach_42 : decode cX9_teach 42 = .ok (.ifCond .eq 7, 3) := by decide +kernel
theorem dX9_teach_45 : decode cX9_teach 45 = .ok (.iconst 1, 1) := by decide +kernel
theorem dX9_teach_46 : decode cX9_teach 46 = .ok (.goto 4, 3) := by decide +kernel
theorem dX9_teach_49 : decode cX9_teach 49 = .ok (.iconst 0, 1) := by decide +kernel
theorem dX9_teach_50 : decode cX9_teach 50 = .ok (.istore_n 1, 1) := by decide +kernel
theorem dX9_teach_51 : decode cX9_teach 51 = .ok (.aload_n 0, 1) := by decide +kernel
theorem dX9_teach_52 : decode cX9_teach 52 = .ok (.getfield 31, 3) := by decide +kernel
