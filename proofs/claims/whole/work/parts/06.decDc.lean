theorem dX6_leave_162 : decode cX6_leave 162 = .ok (.getfield 29, 3) := by decide +kernel
theorem dX6_leave_165 : decode cX6_leave 165 = .ok (.iload_n 3, 1) := by decide +kernel
theorem dX6_leave_166 : decode cX6_leave 166 = .ok (.bipush 81, 2) := by decide +kernel
theorem dX6_leave_168 : decode cX6_leave 168 = .ok (.imul, 1) := by decide +kernel
theorem dX6_leave_169 : decode cX6_leave 169 = .ok (.iload 7, 2) := by decide +kernel
theorem dX6_leave_171 : decode cX6_leave 171 = .ok (.iadd, 1) := by decide +kernel
theorem dX6_leave_172 : decode cX6_leave 172 = .ok (.iaload, 1) := by decide +kernel
theorem dX6_leave_173 : decode cX6_leave 173 = .ok (.aload_n 0, 1) := by decide +kernel
theorem dX6_leave_174 : decode cX6_leave 174 = .ok (.iload 7, 2) := by decide +kernel
theorem dX6_leave_176 : decode cX6_leave 176 = .ok (.iload 4, 2) := by decide +kernel
theorem dX6_leave_178 : decode cX6_leave 178 = .ok (.iconst 0, 1) := by decide +kernel
theorem dX6_leave_179 : decode cX6_leave 179 = .ok (.invokevirtual 179, 3) := by decide +kernel
theorem dX6_leave_182 : decode cX6_leave 182 = .ok (.iadd, 1) := by decide +kernel
theorem dX6_leave_183 : decode cX6_leave 183 = .ok (.invokestatic 183, 3) := by decide +kernel
theorem dX6_leave_186 : decode cX6_leave 186 = .ok (.istore 6, 2) := by decide +kernel
theorem dX6_leave_188 : decode cX6_leave 188 = .ok (.iinc 7 1, 3) := by decide +kernel
theorem dX6_leave_191 : decode cX6_leave 191 = .ok (.goto (-44), 3) := by decide +kernel
theorem dX6_leave_194 : decode cX6_leave 194 = .ok (.aload_n 0, 1) := by decide +kernel
theorem dX6_leave_195 : decode cX6_leave 195 = .ok (.getfield 29, 3) := by decide +kernel
theorem dX6_leave_198 : decode cX6_leave 198 = .ok (.iload_n 3, 1) := by decide +kernel
theorem dX6_leave_199 : decode cX6_leave 199 = .ok (.iconst 1, 1) := by decide +kernel
theorem dX6_leave_200 : decode cX6_leave 200 = .ok (.iadd, 1) := by decide +kernel
theorem dX6_leave_201 : decode cX6_leave 201 = .ok (.bipush 81, 2) := by decide +kernel
theorem dX6_leave_203 : decode cX6_leave 203 = .ok (.imul, 1) := by decide +kernel
theorem dX6_leave_204 : decode cX6_leave 204 = .ok (.iload 4, 2) := by decide +kernel
theorem dX6_leave_206 : decode cX6_leave 206 = .ok (.iadd, 1) := by decide +kernel
theorem dX6_leave_207 : decode cX6_leave 207 = .ok (.iload 6, 2) := by decide +kernel
theorem dX6_leave_209 : decode cX6_leave 209 = .ok (.iastore, 1) := by decide +kernel
theorem dX6_leave_210 : decode cX6_leave 210 = .ok (.iinc 4 1, 3) := by decide +kernel
theorem dX6_leave_213 : decode cX6_leave 213 = .ok (.goto (-134), 3) := by decide +kernel
theorem dX6_leave_216 : decode cX6_leave 216 = .ok (.iinc 3 (-1), 3) := by decide +kernel
theorem dX6_leave_219 : decode cX6_leave 219 = .ok (.goto (-155), 3) := by decide +kernel
theorem dX6_leave_222 : decode cX6_leave 222 = .ok (.iinc 2 1, 3) := by decide +kernel
theorem dX6_leave_225 : decode cX6_leave 225 = .ok (.goto (-173), 3) := by decide +kernel
theorem dX6_leave_228 : decode cX6_leave 228 = .ok (.iconst 0, 1) := by decide +kernel
theorem dX6_leave_229 : decode cX6_leave 229 = .ok (.istore_n 2, 1) := by decide +kernel
theorem dX6_leave_230 : decode cX6_leave 230 = .ok (.iconst 0, 1) := by decide +kernel
theorem dX6_leave_231 : decode cX6_leave 231 = .ok (.istore_n 3, 1) := by decide +kernel
theorem dX6_leave_232 : decode cX6_leave 232 = .ok (.iload_n 3, 1) := by decide +kernel
theorem dX6_leave_233 : decode cX6_leave 233 = .ok (.sipush 1053, 3) := by decide +kernel
theorem dX6_leave_236 : decode cX6_leave 236 = .ok (.if_icmp .ge 32, 3) := by decide +kernel
theorem dX6_leave_239 : decode cX6_leave 239 = .ok (.aload_n 0, 1) := by decide +kernel
theorem dX6_leave_240 : decode cX6_leave 240 = .ok (.getfield 29, 3) := by decide +kernel
theorem dX6_leave_243 : decode cX6_leave 243 = .ok (.iload_n 3, 1) := by decide +kernel
theorem dX6_leave_244 : decode cX6_leave 244 = .ok (.iaload, 1) := by decide +kernel
theorem dX6_leave_245 : decode cX6_leave 245 = .ok (.iload_n 1, 1) := by decide +kernel
theorem dX6_leave_246 : decode cX6_leave 246 = .ok (.if_icmp .gt 14, 3) := by decide +kernel
theorem dX6_leave_249 : decode cX6_leave 249 = .ok (.iload_n 2, 1) := by decide +kernel
theorem dX6_leave_250 : decode cX6_leave 250 = .ok (.iload_n 3, 1) := by decide +kernel
theorem dX6_leave_251 : decode cX6_leave 251 = .ok (.bipush 81, 2) := by decide +kernel
theorem dX6_leave_253 : decode cX6_leave 253 = .ok (.idiv, 1) := by decide +kernel
theorem dX6_leave_254 : decode cX6_leave 254 = .ok (.invokestatic 105, 3) := by decide +kernel
theorem dX6_leave_257 : decode cX6_leave 257 = .ok (.goto 4, 3) := by decide +kernel
theorem dX6_leave_260 : decode cX6_leave 260 = .ok (.iload_n 2, 1) := by decide +kernel
theorem dX6_leave_261 : decode cX6_leave 261 = .ok (.istore_n 2, 1) := by decide +kernel
theorem dX6_leave_262 : decode cX6_leave 262 = .ok (.iinc 3 1, 3) := by decide +kernel
theorem dX6_leave_265 : decode cX6_leave 265 = .ok (.goto (-33), 3) := by decide +kernel
theorem dX6_leave_268 : decode cX6_leave 268 = .ok (.aload_n 0, 1) := by decide +kernel
theorem dX6_leave_269 : decode cX6_leave 269 = .ok (.getfield 9, 3) := by decide +kernel
theorem dX6_leave_272 : decode cX6_leave 272 = .ok (.iconst 1, 1) := by decide +kernel
theorem dX6_leave_273 : decode cX6_leave 273 = .ok (.iaload, 1) := by decide +kernel
theorem dX6_leave_274 : decode cX6_leave 274 = .ok (.iload_n 2, 1) := by decide +kernel
theorem dX6_leave_275 : decode cX6_leave 275 = .ok (.isub, 1) := by decide +kernel
theorem dX6_leave_276 : decode cX6_leave 276 = .ok (.ireturn, 1) := by decide +kernel
theorem dX6_isDrawn_0 : decode cX6_isDrawn 0 = .ok (.iload_n 2, 1) := by decide +kernel
theorem dX6_isDrawn_1 : decode cX6_isDrawn 1 = .ok (.aload_n 0, 1) := by decide +kernel
theorem dX6_isDrawn_2 : decode cX6_isDrawn 2 = .ok (.getfield 61, 3) := by decide +kernel
theorem dX6_isDrawn_5 : decode cX6_isDrawn 5 = .ok (.iload_n 1, 1) := by decide +kernel
theorem dX6_isDrawn_6 : decode cX6_isDrawn 6 = .ok (.iaload, 1) := by decide +kernel
theorem dX6_isDrawn_7 : decode cX6_isDrawn 7 = .ok (.if_icmp .lt 5, 3) := by decide +kernel
theorem dX6_isDrawn_10 : decode cX6_isDrawn 10 = .ok (.iconst 1, 1) := by decide +kernel
theorem dX6_isDrawn_11 : decode cX6_isDrawn 11 = .ok (.ireturn, 1) := by decide +kernel
theorem dX6_isDrawn_12 : decode cX6_isDrawn 12 = .ok (.aload_n 0, 1) := by decide +kernel
theorem dX6_isDrawn_13 : decode cX6_isDrawn 13 = .ok (.getfield 64, 3) := by decide +kernel
theorem dX6_isDrawn_16 : decode cX6_isDrawn 16 = .ok (.bipush 40, 2) := by decide +kernel
theorem dX6_isDrawn_18 : decode cX6_isDrawn 18 = .ok (.iload_n 1, 1) := by decide +kernel
theorem dX6_isDrawn_19 : decode cX6_isDrawn 19 = .ok (.imul, 1) := by decide +kernel
theorem dX6_isDrawn_20 : decode cX6_isDrawn 20 = .ok (.iload_n 2, 1) := by decide +kernel
theorem dX6_isDrawn_21 : decode cX6_isDrawn 21 = .ok (.iadd, 1) := by decide +kernel
theorem dX6_isDrawn_22 : decode cX6_isDrawn 22 = .ok (.iaload, 1) := by decide +kernel
theorem dX6_isDrawn_23 : decode cX6_isDrawn 23 = .ok (.istore 4, 2) := by decide +kernel
theorem dX6_isDrawn_25 : decode cX6_isDrawn 25 = .ok (.aload_n 0, 1) := by decide +kernel
theorem dX6_isDrawn_26 : decode cX6_isDrawn 26 = .ok (.iload 4, 2) := by decide +kernel
theorem dX6_isDrawn_28 : decode cX6_isDrawn 28 = .ok (.invokevirtual 131, 3) := by decide +kernel
theorem dX6_isDrawn_31 : decode cX6_isDrawn 31 = .ok (.ifCond .eq 9, 3) := by decide +kernel
theorem dX6_isDrawn_34 : decode cX6_isDrawn 34 = .ok (.iload 4, 2) := by decide +kernel
theorem dX6_isDrawn_36 : decode cX6_isDrawn 36 = .ok (.iload_n 3, 1) := by decide +kernel
theorem dX6_isDrawn_37 : decode cX6_isDrawn 37 = .ok (.if_icmp .ne 7, 3) := by decide +kernel
theorem dX6_isDrawn_40 : decode cX6_isDrawn 40 = .ok (.iconst 1, 1) := by decide +kernel
theorem dX6_isDrawn_41 : decode cX6_isDrawn 41 = .ok (.goto 4, 3) := by decide +kernel
theorem dX6_isDrawn_44 : decode cX6_isDrawn 44 = .ok (.iconst 0, 1) := by decide +kernel
theorem dX6_isDrawn_45 : decode cX6_isDrawn 45 = .ok (.ireturn, 1) := by decide +kernel
theorem dX6_holdsFor_0 : decode cX6_holdsFor 0 = .ok (.iconst 0, 1) := by decide +kernel
theorem dX6_holdsFor_1 : decode cX6_holdsFor 1 = .ok (.istore_n 3, 1) := by decide +kernel
theorem dX6_holdsFor_2 : decode cX6_holdsFor 2 = .ok (.iconst 0, 1) := by decide +kernel
theorem dX6_holdsFor_3 : decode cX6_holdsFor 3 = .ok (.istore 4, 2) := by decide +kernel
theorem dX6_holdsFor_5 : decode cX6_holdsFor 5 = .ok (.iload 4, 2) := by decide +kernel
theorem dX6_holdsFor_7 : decode cX6_holdsFor 7 = .ok (.bipush 81, 2) := by decide +kernel
theorem dX6_holdsFor_9 : decode cX6_holdsFor 9 = .ok (.if_icmp .ge 64, 3) := by decide +kernel
theorem dX6_holdsFor_12 : decode cX6_holdsFor 12 = .ok (.iload 4, 2) := by decide +kernel
theorem dX6_holdsFor_14 : decode cX6_holdsFor 14 = .ok (.invokestatic 169, 3) := by decide +kernel
theorem dX6_holdsFor_17 : decode cX6_holdsFor 17 = .ok (.istore 5, 2) := by decide +kernel
theorem dX6_holdsFor_19 : decode cX6_holdsFor 19 = .ok (.iload_n 3, 1) := by decide +kernel
theorem dX6_holdsFor_20 : decode cX6_holdsFor 20 = .ok (.aload_n 0, 1) := by decide +kernel
theorem dX6_holdsFor_21 : decode cX6_holdsFor 21 = .ok (.iload 5, 2) := by decide +kernel
theorem dX6_holdsFor_23 : decode cX6_holdsFor 23 = .ok (.iload 4, 2) := by decide +kernel
theorem dX6_holdsFor_25 : decode cX6_holdsFor 25 = .ok (.invokestatic 172, 3) := by decide +kernel
theorem dX6_holdsFor_28 : decode cX6_holdsFor 28 = .ok (.invokevirtual 175, 3) := by decide +kernel
theorem dX6_holdsFor_31 : decode cX6_holdsFor 31 = .ok (.ifCond .eq 33, 3) := by decide +kernel
theorem dX6_holdsFor_34 : decode cX6_holdsFor 34 = .ok (.aload_n 0, 1) := by decide +kernel
theorem dX6_holdsFor_35 : decode cX6_holdsFor 35 = .ok (.iload 5, 2) := by decide +kernel
theorem dX6_holdsFor_37 : decode cX6_holdsFor 37 = .ok (.iload 4, 2) := by decide +kernel
theorem dX6_holdsFor_39 : decode cX6_holdsFor 39 = .ok (.invokestatic 172, 3) := by decide +kernel
theorem dX6_holdsFor_42 : decode cX6_holdsFor 42 = .ok (.iload_n 2, 1) := by decide +kernel
theorem dX6_holdsFor_43 : decode cX6_holdsFor 43 = .ok (.invokevirtual 166, 3) := by decide +kernel
theorem dX6_holdsFor_46 : decode cX6_holdsFor 46 = .ok (.ifCond .eq 18, 3) := by decide +kernel
theorem dX6_holdsFor_49 : decode cX6_holdsFor 49 = .ok (.aload_n 0, 1) := by decide +kernel
theorem dX6_holdsFor_50 : decode cX6_holdsFor 50 = .ok (.iload_n 1, 1) := by decide +kernel
theorem dX6_holdsFor_51 : decode cX6_holdsFor 51 = .ok (.iload_n 2, 1) := by decide +kernel
theorem dX6_holdsFor_52 : decode cX6_holdsFor 52 = .ok (.iload 5, 2) := by decide +kernel
theorem dX6_holdsFor_54 : decode cX6_holdsFor 54 = .ok (.invokevirtual 220, 3) := by decide +kernel
theorem dX6_holdsFor_57 : decode cX6_holdsFor 57 = .ok (.ifCond .eq 7, 3) := by decide +kernel
theorem dX6_holdsFor_60 : decode cX6_holdsFor 60 = .ok (.iconst 1, 1) := by decide +kernel
theorem dX6_holdsFor_61 : decode cX6_holdsFor 61 = .ok (.goto 4, 3) := by decide +kernel
theorem dX6_holdsFor_64 : decode cX6_holdsFor 64 = .ok (.iconst 0, 1) := by decide +kernel
theorem dX6_holdsFor_65 : decode cX6_holdsFor 65 = .ok (.iadd, 1) := by decide +kernel
theorem dX6_holdsFor_66 : decode cX6_holdsFor 66 = .ok (.istore_n 3, 1) := by decide +kernel
theorem dX6_holdsFor_67 : decode cX6_holdsFor 67 = .ok (.iinc 4 1, 3) := by decide +kernel
theorem dX6_holdsFor_70 : decode cX6_holdsFor 70 = .ok (.goto (-65), 3) := by decide +kernel
theorem dX6_holdsFor_73 : decode cX6_holdsFor 73 = .ok (.iload_n 3, 1) := by decide +kernel
theorem dX6_holdsFor_74 : decode cX6_holdsFor 74 = .ok (.ireturn, 1) := by decide +kernel
theorem dX6_rowsOf_0 : decode cX6_rowsOf 0 = .ok (.lconst 1, 1) := by decide +kernel
theorem dX6_rowsOf_1 : decode cX6_rowsOf 1 = .ok (.lstore_n 2, 1) := by decide +kernel
theorem dX6_rowsOf_2 : decode cX6_rowsOf 2 = .ok (.iconst 0, 1) := by decide +kernel
theorem dX6_rowsOf_3 : decode cX6_rowsOf 3 = .ok (.istore 4, 2) := by decide +kernel
theorem dX6_rowsOf_5 : decode cX6_rowsOf 5 = .ok (.iconst 0, 1) := by decide +kernel
theorem dX6_rowsOf_6 : decode cX6_rowsOf 6 = .ok (.istore 5, 2) := by decide +kernel
theorem dX6_rowsOf_8 : decode cX6_rowsOf 8 = .ok (.iload 5, 2) := by decide +kernel
theorem dX6_rowsOf_10 : decode cX6_rowsOf 10 = .ok (.aload_n 0, 1) := by decide +kernel
theorem dX6_rowsOf_11 : decode cX6_rowsOf 11 = .ok (.getfield 9, 3) := by decide +kernel
theorem dX6_rowsOf_14 : decode cX6_rowsOf 14 = .ok (.iconst 1, 1) := by decide +kernel
theorem dX6_rowsOf_15 : decode cX6_rowsOf 15 = .ok (.iaload, 1) := by decide +kernel
theorem dX6_rowsOf_16 : decode cX6_rowsOf 16 = .ok (.if_icmp .ge 47, 3) := by decide +kernel
theorem dX6_rowsOf_19 : decode cX6_rowsOf 19 = .ok (.aload_n 0, 1) := by decide +kernel
theorem dX6_rowsOf_20 : decode cX6_rowsOf 20 = .ok (.iload_n 1, 1) := by decide +kernel
theorem dX6_rowsOf_21 : decode cX6_rowsOf 21 = .ok (.iload 5, 2) := by decide +kernel
theorem dX6_rowsOf_23 : decode cX6_rowsOf 23 = .ok (.invokevirtual 223, 3) := by decide +kernel
theorem dX6_rowsOf_26 : decode cX6_rowsOf 26 = .ok (.istore 6, 2) := by decide +kernel
theorem dX6_rowsOf_28 : decode cX6_rowsOf 28 = .ok (.iload 4, 2) := by decide +kernel
theorem dX6_rowsOf_30 : decode cX6_rowsOf 30 = .ok (.ifCond .ne 8, 3) := by decide +kernel
theorem dX6_rowsOf_33 : decode cX6_rowsOf 33 = .ok (.iload 6, 2) := by decide +kernel
theorem dX6_rowsOf_35 : decode cX6_rowsOf 35 = .ok (.ifCond .ne 7, 3) := by decide +kernel
theorem dX6_rowsOf_38 : decode cX6_rowsOf 38 = .ok (.iconst 1, 1) := by decide +kernel
theorem dX6_rowsOf_39 : decode cX6_rowsOf 39 = .ok (.goto 4, 3) := by decide +kernel
theorem dX6_rowsOf_42 : decode cX6_rowsOf 42 = .ok (.iconst 0, 1) := by decide +kernel
theorem dX6_rowsOf_43 : decode cX6_rowsOf 43 = .ok (.istore 4, 2) := by decide +kernel
theorem dX6_rowsOf_45 : decode cX6_rowsOf 45 = .ok (.ldc2_w 226, 3) := by decide +kernel
theorem dX6_rowsOf_48 : decode cX6_rowsOf 48 = .ok (.lload_n 2, 1) := by decide +kernel
theorem dX6_rowsOf_49 : decode cX6_rowsOf 49 = .ok (.iload 6, 2) := by decide +kernel
theorem dX6_rowsOf_51 : decode cX6_rowsOf 51 = .ok (.i2l, 1) := by decide +kernel
theorem dX6_rowsOf_52 : decode cX6_rowsOf 52 = .ok (.lmul, 1) := by decide +kernel
theorem dX6_rowsOf_53 : decode cX6_rowsOf 53 = .ok (.invokestatic 228, 3) := by decide +kernel
theorem dX6_rowsOf_56 : decode cX6_rowsOf 56 = .ok (.lstore_n 2, 1) := by decide +kernel
theorem dX6_rowsOf_57 : decode cX6_rowsOf 57 = .ok (.iinc 5 1, 3) := by decide +kernel
theorem dX6_rowsOf_60 : decode cX6_rowsOf 60 = .ok (.goto (-52), 3) := by decide +kernel
theorem dX6_rowsOf_63 : decode cX6_rowsOf 63 = .ok (.iload 4, 2) := by decide +kernel
theorem dX6_rowsOf_65 : decode cX6_rowsOf 65 = .ok (.ifCond .eq 7, 3) := by decide +kernel
theorem dX6_rowsOf_68 : decode cX6_rowsOf 68 = .ok (.iconst 0, 1) := by decide +kernel
theorem dX6_rowsOf_69 : decode cX6_rowsOf 69 = .ok (.goto 5, 3) := by decide +kernel
theorem dX6_rowsOf_72 : decode cX6_rowsOf 72 = .ok (.lload_n 2, 1) := by decide +kernel
theorem dX6_rowsOf_73 : decode cX6_rowsOf 73 = .ok (.l2i, 1) := by decide +kernel
theorem dX6_rowsOf_74 : decode cX6_rowsOf 74 = .ok (.ireturn, 1) := by decide +kernel
theorem dX6_fits_0 : decode cX6_fits 0 = .ok (.iload_n 1, 1) := by decide +kernel
theorem dX6_fits_1 : decode cX6_fits 1 = .ok (.invokestatic 231, 3) := by decide +kernel
theorem dX6_fits_4 : decode cX6_fits 4 = .ok (.ifCond .ne 10, 3) := by decide +kernel
theorem dX6_fits_7 : decode cX6_fits 7 = .ok (.aload_n 0, 1) := by decide +kernel
theorem dX6_fits_8 : decode cX6_fits 8 = .ok (.ldc 70, 2) := by decide +kernel
theorem dX6_fits_10 : decode cX6_fits 10 = .ok (.invokevirtual 87, 3) := by decide +kernel
theorem dX6_fits_13 : decode cX6_fits 13 = .ok (.ireturn, 1) := by decide +kernel
theorem dX6_fits_14 : decode cX6_fits 14 = .ok (.aload_n 0, 1) := by decide +kernel
theorem dX6_fits_15 : decode cX6_fits 15 = .ok (.getfield 58, 3) := by decide +kernel
theorem dX6_fits_18 : decode cX6_fits 18 = .ok (.iload_n 1, 1) := by decide +kernel
theorem dX6_fits_19 : decode cX6_fits 19 = .ok (.iaload, 1) := by decide +kernel
theorem dX6_fits_20 : decode cX6_fits 20 = .ok (.ifCond .ne 10, 3) := by decide +kernel
theorem dX6_fits_23 : decode cX6_fits 23 = .ok (.aload_n 0, 1) := by decide +kernel
theorem dX6_fits_24 : decode cX6_fits 24 = .ok (.ldc 234, 2) := by decide +kernel
theorem dX6_fits_26 : decode cX6_fits 26 = .ok (.invokevirtual 87, 3) := by decide +kernel
theorem dX6_fits_29 : decode cX6_fits 29 = .ok (.ireturn, 1) := by decide +kernel
theorem dX6_fits_30 : decode cX6_fits 30 = .ok (.aload_n 0, 1) := by decide +kernel
theorem dX6_fits_31 : decode cX6_fits 31 = .ok (.iload_n 1, 1) := by decide +kernel
theorem dX6_fits_32 : decode cX6_fits 32 = .ok (.invokevirtual 235, 3) := by decide +kernel
theorem dX6_fits_35 : decode cX6_fits 35 = .ok (.istore_n 2, 1) := by decide +kernel
theorem dX6_fits_36 : decode cX6_fits 36 = .ok (.iload_n 2, 1) := by decide +kernel
theorem dX6_fits_37 : decode cX6_fits 37 = .ok (.ldc 238, 2) := by decide +kernel
theorem dX6_fits_39 : decode cX6_fits 39 = .ok (.if_icmp .le 12, 3) := by decide +kernel
theorem dX6_fits_42 : decode cX6_fits 42 = .ok (.aload_n 0, 1) := by decide +kernel
theorem dX6_fits_43 : decode cX6_fits 43 = .ok (.ldc 239, 2) := by decide +kernel
theorem dX6_fits_45 : decode cX6_fits 45 = .ok (.invokevirtual 87, 3) := by decide +kernel
theorem dX6_fits_48 : decode cX6_fits 48 = .ok (.goto 4, 3) := by decide +kernel
theorem dX6_fits_51 : decode cX6_fits 51 = .ok (.iload_n 2, 1) := by decide +kernel
theorem dX6_fits_52 : decode cX6_fits 52 = .ok (.ireturn, 1) := by decide +kernel
theorem dX6_maybe_0 : decode cX6_maybe 0 = .ok (.iload_n 1, 1) := by decide +kernel
theorem dX6_maybe_1 : decode cX6_maybe 1 = .ok (.invokestatic 231, 3) := by decide +kernel
theorem dX6_maybe_4 : decode cX6_maybe 4 = .ok (.ifCond .ne 10, 3) := by decide +kernel
theorem dX6_maybe_7 : decode cX6_maybe 7 = .ok (.aload_n 0, 1) := by decide +kernel
theorem dX6_maybe_8 : decode cX6_maybe 8 = .ok (.ldc 70, 2) := by decide +kernel
theorem dX6_maybe_10 : decode cX6_maybe 10 = .ok (.invokevirtual 87, 3) := by decide +kernel
theorem dX6_maybe_13 : decode cX6_maybe 13 = .ok (.ireturn, 1) := by decide +kernel
theorem dX6_maybe_14 : decode cX6_maybe 14 = .ok (.aload_n 0, 1) := by decide +kernel
theorem dX6_maybe_15 : decode cX6_maybe 15 = .ok (.getfield 58, 3) := by decide +kernel
theorem dX6_maybe_18 : decode cX6_maybe 18 = .ok (.iload_n 1, 1) := by decide +kernel
theorem dX6_maybe_19 : decode cX6_maybe 19 = .ok (.iaload, 1) := by decide +kernel
theorem dX6_maybe_20 : decode cX6_maybe 20 = .ok (.ifCond .ne 10, 3) := by decide +kernel
theorem dX6_maybe_23 : decode cX6_maybe 23 = .ok (.aload_n 0, 1) := by decide +kernel
theorem dX6_maybe_24 : decode cX6_maybe 24 = .ok (.ldc 234, 2) := by decide +kernel
theorem dX6_maybe_26 : decode cX6_maybe 26 = .ok (.invokevirtual 87, 3) := by decide +kernel
theorem dX6_maybe_29 : decode cX6_maybe 29 = .ok (.ireturn, 1) := by decide +kernel
theorem dX6_maybe_30 : decode cX6_maybe 30 = .ok (.aload_n 0, 1) := by decide +kernel
theorem dX6_maybe_31 : decode cX6_maybe 31 = .ok (.iload_n 2, 1) := by decide +kernel
theorem dX6_maybe_32 : decode cX6_maybe 32 = .ok (.invokevirtual 143, 3) := by decide +kernel
theorem dX6_maybe_35 : decode cX6_maybe 35 = .ok (.ifCond .ne 10, 3) := by decide +kernel
theorem dX6_maybe_38 : decode cX6_maybe 38 = .ok (.aload_n 0, 1) := by decide +kernel
theorem dX6_maybe_39 : decode cX6_maybe 39 = .ok (.ldc 70, 2) := by decide +kernel
theorem dX6_maybe_41 : decode cX6_maybe 41 = .ok (.invokevirtual 87, 3) := by decide +kernel
theorem dX6_maybe_44 : decode cX6_maybe 44 = .ok (.ireturn, 1) := by decide +kernel
theorem dX6_maybe_45 : decode cX6_maybe 45 = .ok (.iconst 0, 1) := by decide +kernel
theorem dX6_maybe_46 : decode cX6_maybe 46 = .ok (.istore_n 3, 1) := by decide +kernel
theorem dX6_maybe_47 : decode cX6_maybe 47 = .ok (.aload_n 0, 1) := by decide +kernel
theorem dX6_maybe_48 : decode cX6_maybe 48 = .ok (.iload_n 1, 1) := by decide +kernel
theorem dX6_maybe_49 : decode cX6_maybe 49 = .ok (.invokevirtual 235, 3) := by decide +kernel
theorem dX6_maybe_52 : decode cX6_maybe 52 = .ok (.ifCond .le 7, 3) := by decide +kernel
theorem dX6_maybe_55 : decode cX6_maybe 55 = .ok (.iconst 1, 1) := by decide +kernel
theorem dX6_maybe_56 : decode cX6_maybe 56 = .ok (.goto 4, 3) := by decide +kernel
theorem dX6_maybe_59 : decode cX6_maybe 59 = .ok (.iconst 0, 1) := by decide +kernel
theorem dX6_maybe_60 : decode cX6_maybe 60 = .ok (.istore 4, 2) := by decide +kernel
theorem dX6_maybe_62 : decode cX6_maybe 62 = .ok (.iconst 0, 1) := by decide +kernel
theorem dX6_maybe_63 : decode cX6_maybe 63 = .ok (.istore 5, 2) := by decide +kernel
theorem dX6_maybe_65 : decode cX6_maybe 65 = .ok (.iload 5, 2) := by decide +kernel
theorem dX6_maybe_67 : decode cX6_maybe 67 = .ok (.bipush 81, 2) := by decide +kernel
theorem dX6_maybe_69 : decode cX6_maybe 69 = .ok (.if_icmp .ge 78, 3) := by decide +kernel
theorem dX6_maybe_72 : decode cX6_maybe 72 = .ok (.iload 4, 2) := by decide +kernel
theorem dX6_maybe_74 : decode cX6_maybe 74 = .ok (.ifCond .eq 73, 3) := by decide +kernel
theorem dX6_maybe_77 : decode cX6_maybe 77 = .ok (.iload 5, 2) := by decide +kernel
theorem dX6_maybe_79 : decode cX6_maybe 79 = .ok (.invokestatic 169, 3) := by decide +kernel
theorem dX6_maybe_82 : decode cX6_maybe 82 = .ok (.istore 6, 2) := by decide +kernel
theorem dX6_maybe_84 : decode cX6_maybe 84 = .ok (.iload 5, 2) := by decide +kernel
theorem dX6_maybe_86 : decode cX6_maybe 86 = .ok (.invokestatic 172, 3) := by decide +kernel
theorem dX6_maybe_89 : decode cX6_maybe 89 = .ok (.istore 7, 2) := by decide +kernel
theorem dX6_maybe_91 : decode cX6_maybe 91 = .ok (.iload_n 3, 1) := by decide +kernel
theorem dX6_maybe_92 : decode cX6_maybe 92 = .ok (.iload 7, 2) := by decide +kernel
theorem dX6_maybe_94 : decode cX6_maybe 94 = .ok (.ifCond .lt 44, 3) := by decide +kernel
theorem dX6_maybe_97 : decode cX6_maybe 97 = .ok (.aload_n 0, 1) := by decide +kernel
theorem dX6_maybe_98 : decode cX6_maybe 98 = .ok (.iload 6, 2) := by decide +kernel
theorem dX6_maybe_100 : decode cX6_maybe 100 = .ok (.iload 7, 2) := by decide +kernel
theorem dX6_maybe_102 : decode cX6_maybe 102 = .ok (.invokevirtual 175, 3) := by decide +kernel
theorem dX6_maybe_105 : decode cX6_maybe 105 = .ok (.ifCond .eq 33, 3) := by decide +kernel
theorem dX6_maybe_108 : decode cX6_maybe 108 = .ok (.aload_n 0, 1) := by decide +kernel
theorem dX6_maybe_109 : decode cX6_maybe 109 = .ok (.iload 6, 2) := by decide +kernel
theorem dX6_maybe_111 : decode cX6_maybe 111 = .ok (.iload 7, 2) := by decide +kernel
theorem dX6_maybe_113 : decode cX6_maybe 113 = .ok (.iload_n 2, 1) := by decide +kernel
theorem dX6_maybe_114 : decode cX6_maybe 114 = .ok (.invokevirtual 166, 3) := by decide +kernel
theorem dX6_maybe_117 : decode cX6_maybe 117 = .ok (.ifCond .eq 21, 3) := by decide +kernel
theorem dX6_maybe_120 : decode cX6_maybe 120 = .ok (.aload_n 0, 1) := by decide +kernel
theorem dX6_maybe_121 : decode cX6_maybe 121 = .ok (.iload_n 1, 1) := by decide +kernel
theorem dX6_maybe_122 : decode cX6_maybe 122 = .ok (.iload_n 2, 1) := by decide +kernel
theorem dX6_maybe_123 : decode cX6_maybe 123 = .ok (.iload 6, 2) := by decide +kernel
theorem dX6_maybe_125 : decode cX6_maybe 125 = .ok (.invokevirtual 220, 3) := by decide +kernel
theorem dX6_maybe_128 : decode cX6_maybe 128 = .ok (.ifCond .eq 10, 3) := by decide +kernel
theorem dX6_maybe_131 : decode cX6_maybe 131 = .ok (.iconst 1, 1) := by decide +kernel
theorem dX6_maybe_132 : decode cX6_maybe 132 = .ok (.iload 7, 2) := by decide +kernel
theorem dX6_maybe_134 : decode cX6_maybe 134 = .ok (.ishl, 1) := by decide +kernel
theorem dX6_maybe_135 : decode cX6_maybe 135 = .ok (.goto 4, 3) := by decide +kernel
theorem dX6_maybe_138 : decode cX6_maybe 138 = .ok (.iconst 0, 1) := by decide +kernel
theorem dX6_maybe_139 : decode cX6_maybe 139 = .ok (.ior, 1) := by decide +kernel
theorem dX6_maybe_140 : decode cX6_maybe 140 = .ok (.istore_n 3, 1) := by decide +kernel
theorem dX6_maybe_141 : decode cX6_maybe 141 = .ok (.iinc 5 1, 3) := by decide +kernel
theorem dX6_maybe_144 : decode cX6_maybe 144 = .ok (.goto (-79), 3) := by decide +kernel
theorem dX6_maybe_147 : decode cX6_maybe 147 = .ok (.iload_n 3, 1) := by decide +kernel
theorem dX6_maybe_148 : decode cX6_maybe 148 = .ok (.ireturn, 1) := by decide +kernel
theorem dX6_dogsIn_0 : decode cX6_dogsIn 0 = .ok (.iconst 0, 1) := by decide +kernel
theorem dX6_dogsIn_1 : decode cX6_dogsIn 1 = .ok (.istore_n 2, 1) := by decide +kernel
theorem dX6_dogsIn_2 : decode cX6_dogsIn 2 = .ok (.iconst 0, 1) := by decide +kernel
theorem dX6_dogsIn_3 : decode cX6_dogsIn 3 = .ok (.istore_n 3, 1) := by decide +kernel
theorem dX6_dogsIn_4 : decode cX6_dogsIn 4 = .ok (.iload_n 3, 1) := by decide +kernel
theorem dX6_dogsIn_5 : decode cX6_dogsIn 5 = .ok (.aload_n 0, 1) := by decide +kernel
theorem dX6_dogsIn_6 : decode cX6_dogsIn 6 = .ok (.getfield 9, 3) := by decide +kernel
theorem dX6_dogsIn_9 : decode cX6_dogsIn 9 = .ok (.iconst 0, 1) := by decide +kernel
theorem dX6_dogsIn_10 : decode cX6_dogsIn 10 = .ok (.iaload, 1) := by decide +kernel
theorem dX6_dogsIn_11 : decode cX6_dogsIn 11 = .ok (.if_icmp .ge 45, 3) := by decide +kernel
theorem dX6_dogsIn_14 : decode cX6_dogsIn 14 = .ok (.iload_n 2, 1) := by decide +kernel
theorem dX6_dogsIn_15 : decode cX6_dogsIn 15 = .ok (.aload_n 0, 1) := by decide +kernel
theorem dX6_dogsIn_16 : decode cX6_dogsIn 16 = .ok (.getfield 9, 3) := by decide +kernel
theorem dX6_dogsIn_19 : decode cX6_dogsIn 19 = .ok (.bipush 44, 2) := by decide +kernel
theorem dX6_dogsIn_21 : decode cX6_dogsIn 21 = .ok (.iload_n 1, 1) := by decide +kernel
theorem dX6_dogsIn_22 : decode cX6_dogsIn 22 = .ok (.iadd, 1) := by decide +kernel
theorem dX6_dogsIn_23 : decode cX6_dogsIn 23 = .ok (.iaload, 1) := by decide +kernel
theorem dX6_dogsIn_24 : decode cX6_dogsIn 24 = .ok (.iload_n 3, 1) := by decide +kernel
theorem dX6_dogsIn_25 : decode cX6_dogsIn 25 = .ok (.invokestatic 137, 3) := by decide +kernel
theorem dX6_dogsIn_28 : decode cX6_dogsIn 28 = .ok (.ifCond .eq 19, 3) := by decide +kernel
theorem dX6_dogsIn_31 : decode cX6_dogsIn 31 = .ok (.aload_n 0, 1) := by decide +kernel
theorem dX6_dogsIn_32 : decode cX6_dogsIn 32 = .ok (.iload_n 3, 1) := by decide +kernel
theorem dX6_dogsIn_33 : decode cX6_dogsIn 33 = .ok (.iconst 0, 1) := by decide +kernel
theorem dX6_dogsIn_34 : decode cX6_dogsIn 34 = .ok (.invokevirtual 98, 3) := by decide +kernel
theorem dX6_dogsIn_37 : decode cX6_dogsIn 37 = .ok (.iconst 5, 1) := by decide +kernel
theorem dX6_dogsIn_38 : decode cX6_dogsIn 38 = .ok (.if_icmp .ne 9, 3) := by decide +kernel
theorem dX6_dogsIn_41 : decode cX6_dogsIn 41 = .ok (.iconst 1, 1) := by decide +kernel
theorem dX6_dogsIn_42 : decode cX6_dogsIn 42 = .ok (.iload_n 3, 1) := by decide +kernel
theorem dX6_dogsIn_43 : decode cX6_dogsIn 43 = .ok (.ishl, 1) := by decide +kernel
theorem dX6_dogsIn_44 : decode cX6_dogsIn 44 = .ok (.goto 4, 3) := by decide +kernel
theorem dX6_dogsIn_47 : decode cX6_dogsIn 47 = .ok (.iconst 0, 1) := by decide +kernel
theorem dX6_dogsIn_48 : decode cX6_dogsIn 48 = .ok (.ior, 1) := by decide +kernel
theorem dX6_dogsIn_49 : decode cX6_dogsIn 49 = .ok (.istore_n 2, 1) := by decide +kernel
theorem dX6_dogsIn_50 : decode cX6_dogsIn 50 = .ok (.iinc 3 1, 3) := by decide +kernel
theorem dX6_dogsIn_53 : decode cX6_dogsIn 53 = .ok (.goto (-49), 3) := by decide +kernel
theorem dX6_dogsIn_56 : decode cX6_dogsIn 56 = .ok (.iload_n 2, 1) := by decide +kernel
theorem dX6_dogsIn_57 : decode cX6_dogsIn 57 = .ok (.ireturn, 1) := by decide +kernel
theorem dX6_dogs_0 : decode cX6_dogs 0 = .ok (.iconst 0, 1) := by decide +kernel
theorem dX6_dogs_1 : decode cX6_dogs 1 = .ok (.istore_n 1, 1) := by decide +kernel
theorem dX6_dogs_2 : decode cX6_dogs 2 = .ok (.iconst 0, 1) := by decide +kernel
theorem dX6_dogs_3 : decode cX6_dogs 3 = .ok (.istore_n 2, 1) := by decide +kernel
theorem dX6_dogs_4 : decode cX6_dogs 4 = .ok (.iload_n 2, 1) := by decide +kernel
theorem dX6_dogs_5 : decode cX6_dogs 5 = .ok (.aload_n 0, 1) := by decide +kernel
theorem dX6_dogs_6 : decode cX6_dogs 6 = .ok (.getfield 9, 3) := by decide +kernel
theorem dX6_dogs_9 : decode cX6_dogs 9 = .ok (.iconst 1, 1) := by decide +kernel
theorem dX6_dogs_10 : decode cX6_dogs 10 = .ok (.iaload, 1) := by decide +kernel
theorem dX6_dogs_11 : decode cX6_dogs 11 = .ok (.if_icmp .ge 27, 3) := by decide +kernel
theorem dX6_dogs_14 : decode cX6_dogs 14 = .ok (.iload_n 1, 1) := by decide +kernel
theorem dX6_dogs_15 : decode cX6_dogs 15 = .ok (.aload_n 0, 1) := by decide +kernel
theorem dX6_dogs_16 : decode cX6_dogs 16 = .ok (.iload_n 2, 1) := by decide +kernel
theorem dX6_dogs_17 : decode cX6_dogs 17 = .ok (.invokevirtual 240, 3) := by decide +kernel
theorem dX6_dogs_20 : decode cX6_dogs 20 = .ok (.ifCond .eq 9, 3) := by decide +kernel
theorem dX6_dogs_23 : decode cX6_dogs 23 = .ok (.iconst 1, 1) := by decide +kernel
theorem dX6_dogs_24 : decode cX6_dogs 24 = .ok (.iload_n 2, 1) := by decide +kernel
theorem dX6_dogs_25 : decode cX6_dogs 25 = .ok (.ishl, 1) := by decide +kernel
theorem dX6_dogs_26 : decode cX6_dogs 26 = .ok (.goto 4, 3) := by decide +kernel
theorem dX6_dogs_29 : decode cX6_dogs 29 = .ok (.iconst 0, 1) := by decide +kernel
theorem dX6_dogs_30 : decode cX6_dogs 30 = .ok (.ior, 1) := by decide +kernel
theorem dX6_dogs_31 : decode cX6_dogs 31 = .ok (.istore_n 1, 1) := by decide +kernel
theorem dX6_dogs_32 : decode cX6_dogs 32 = .ok (.iinc 2 1, 3) := by decide +kernel
theorem dX6_dogs_35 : decode cX6_dogs 35 = .ok (.goto (-31), 3) := by decide +kernel
theorem dX6_dogs_38 : decode cX6_dogs 38 = .ok (.iload_n 1, 1) := by decide +kernel
theorem dX6_dogs_39 : decode cX6_dogs 39 = .ok (.ireturn, 1) := by decide +kernel
theorem dX6_common_0 : decode cX6_common 0 = .ok (.lload_n 0, 1) := by decide +kernel
theorem dX6_common_1 : decode cX6_common 1 = .ok (.lstore 4, 2) := by decide +kernel
theorem dX6_common_3 : decode cX6_common 3 = .ok (.lload_n 2, 1) := by decide +kernel
theorem dX6_common_4 : decode cX6_common 4 = .ok (.lstore 6, 2) := by decide +kernel
theorem dX6_common_6 : decode cX6_common 6 = .ok (.lload 6, 2) := by decide +kernel
theorem dX6_common_8 : decode cX6_common 8 = .ok (.lconst 0, 1) := by decide +kernel
theorem dX6_common_9 : decode cX6_common 9 = .ok (.lcmp, 1) := by decide +kernel
theorem dX6_common_10 : decode cX6_common 10 = .ok (.ifCond .eq 21, 3) := by decide +kernel
theorem dX6_common_13 : decode cX6_common 13 = .ok (.lload 4, 2) := by decide +kernel
theorem dX6_common_15 : decode cX6_common 15 = .ok (.lload 6, 2) := by decide +kernel
theorem dX6_common_17 : decode cX6_common 17 = .ok (.lrem, 1) := by decide +kernel
theorem dX6_common_18 : decode cX6_common 18 = .ok (.lstore 8, 2) := by decide +kernel
theorem dX6_common_20 : decode cX6_common 20 = .ok (.lload 6, 2) := by decide +kernel
theorem dX6_common_22 : decode cX6_common 22 = .ok (.lstore 4, 2) := by decide +kernel
theorem dX6_common_24 : decode cX6_common 24 = .ok (.lload 8, 2) := by decide +kernel
theorem dX6_common_26 : decode cX6_common 26 = .ok (.lstore 6, 2) := by decide +kernel
theorem dX6_common_28 : decode cX6_common 28 = .ok (.goto (-22), 3) := by decide +kernel
theorem dX6_common_31 : decode cX6_common 31 = .ok (.lload 4, 2) := by decide +kernel
theorem dX6_common_33 : decode cX6_common 33 = .ok (.lreturn, 1) := by decide +kernel
theorem dX6_stays_0 : decode cX6_stays 0 = .ok (.iload_n 1, 1) := by decide +kernel
theorem dX6_stays_1 : decode cX6_stays 1 = .ok (.invokestatic 189, 3) := by decide +kernel
theorem dX6_stays_4 : decode cX6_stays 4 = .ok (.ifCond .ne 11, 3) := by decide +kernel
theorem dX6_stays_7 : decode cX6_stays 7 = .ok (.aload_n 0, 1) := by decide +kernel
theorem dX6_stays_8 : decode cX6_stays 8 = .ok (.ldc 70, 2) := by decide +kernel
theorem dX6_stays_10 : decode cX6_stays 10 = .ok (.invokevirtual 87, 3) := by decide +kernel
theorem dX6_stays_13 : decode cX6_stays 13 = .ok (.i2l, 1) := by decide +kernel
theorem dX6_stays_14 : decode cX6_stays 14 = .ok (.lreturn, 1) := by decide +kernel
theorem dX6_stays_15 : decode cX6_stays 15 = .ok (.lconst 1, 1) := by decide +kernel
theorem dX6_stays_16 : decode cX6_stays 16 = .ok (.lstore_n 2, 1) := by decide +kernel
theorem dX6_stays_17 : decode cX6_stays 17 = .ok (.lconst 1, 1) := by decide +kernel
theorem dX6_stays_18 : decode cX6_stays 18 = .ok (.lstore 4, 2) := by decide +kernel
theorem dX6_stays_20 : decode cX6_stays 20 = .ok (.bipush 10, 2) := by decide +kernel
theorem dX6_stays_22 : decode cX6_stays 22 = .ok (.aload_n 0, 1) := by decide +kernel
theorem dX6_stays_23 : decode cX6_stays 23 = .ok (.getfield 9, 3) := by decide +kernel
theorem dX6_stays_26 : decode cX6_stays 26 = .ok (.bipush 8, 2) := by decide +kernel
theorem dX6_stays_28 : decode cX6_stays 28 = .ok (.iaload, 1) := by decide +kernel
theorem dX6_stays_29 : decode cX6_stays 29 = .ok (.isub, 1) := by decide +kernel
theorem dX6_stays_30 : decode cX6_stays 30 = .ok (.i2l, 1) := by decide +kernel
theorem dX6_stays_31 : decode cX6_stays 31 = .ok (.ldc2_w 243, 3) := by decide +kernel
theorem dX6_stays_34 : decode cX6_stays 34 = .ok (.invokestatic 245, 3) := by decide +kernel
theorem dX6_stays_37 : decode cX6_stays 37 = .ok (.lstore 6, 2) := by decide +kernel
theorem dX6_stays_39 : decode cX6_stays 39 = .ok (.iconst 0, 1) := by decide +kernel
theorem dX6_stays_40 : decode cX6_stays 40 = .ok (.istore 8, 2) := by decide +kernel
theorem dX6_stays_42 : decode cX6_stays 42 = .ok (.iload 8, 2) := by decide +kernel
theorem dX6_stays_44 : decode cX6_stays 44 = .ok (.aload_n 0, 1) := by decide +kernel
theorem dX6_stays_45 : decode cX6_stays 45 = .ok (.getfield 9, 3) := by decide +kernel
theorem dX6_stays_48 : decode cX6_stays 48 = .ok (.iconst 1, 1) := by decide +kernel
theorem dX6_stays_49 : decode cX6_stays 49 = .ok (.iaload, 1) := by decide +kernel
theorem dX6_stays_50 : decode cX6_stays 50 = .ok (.if_icmp .ge 68, 3) := by decide +kernel
theorem dX6_stays_53 : decode cX6_stays 53 = .ok (.aload_n 0, 1) := by decide +kernel
theorem dX6_stays_54 : decode cX6_stays 54 = .ok (.iload 8, 2) := by decide +kernel
theorem dX6_stays_56 : decode cX6_stays 56 = .ok (.invokevirtual 240, 3) := by decide +kernel
theorem dX6_stays_59 : decode cX6_stays 59 = .ok (.invokestatic 140, 3) := by decide +kernel
theorem dX6_stays_62 : decode cX6_stays 62 = .ok (.istore 9, 2) := by decide +kernel
theorem dX6_stays_64 : decode cX6_stays 64 = .ok (.iload 9, 2) := by decide +kernel
theorem dX6_stays_66 : decode cX6_stays 66 = .ok (.ifCond .le 46, 3) := by decide +kernel
theorem dX6_stays_69 : decode cX6_stays 69 = .ok (.lload 4, 2) := by decide +kernel
theorem dX6_stays_71 : decode cX6_stays 71 = .ok (.ldc2_w 248, 3) := by decide +kernel
theorem dX6_stays_74 : decode cX6_stays 74 = .ok (.lcmp, 1) := by decide +kernel
theorem dX6_stays_75 : decode cX6_stays 75 = .ok (.ifCond .gt 37, 3) := by decide +kernel
theorem dX6_stays_78 : decode cX6_stays 78 = .ok (.lload_n 2, 1) := by decide +kernel
theorem dX6_stays_79 : decode cX6_stays 79 = .ok (.bipush 10, 2) := by decide +kernel
theorem dX6_stays_81 : decode cX6_stays 81 = .ok (.aload_n 0, 1) := by decide +kernel
theorem dX6_stays_82 : decode cX6_stays 82 = .ok (.getfield 9, 3) := by decide +kernel
theorem dX6_stays_85 : decode cX6_stays 85 = .ok (.bipush 8, 2) := by decide +kernel
theorem dX6_stays_87 : decode cX6_stays 87 = .ok (.iaload, 1) := by decide +kernel
theorem dX6_stays_88 : decode cX6_stays 88 = .ok (.isub, 1) := by decide +kernel
theorem dX6_stays_89 : decode cX6_stays 89 = .ok (.i2l, 1) := by decide +kernel
theorem dX6_stays_90 : decode cX6_stays 90 = .ok (.lload 6, 2) := by decide +kernel
theorem dX6_stays_92 : decode cX6_stays 92 = .ok (.ldiv, 1) := by decide +kernel
theorem dX6_stays_93 : decode cX6_stays 93 = .ok (.lmul, 1) := by decide +kernel
theorem dX6_stays_94 : decode cX6_stays 94 = .ok (.lstore_n 2, 1) := by decide +kernel
theorem dX6_stays_95 : decode cX6_stays 95 = .ok (.lload 4, 2) := by decide +kernel
theorem dX6_stays_97 : decode cX6_stays 97 = .ok (.ldc2_w 243, 3) := by decide +kernel
theorem dX6_stays_100 : decode cX6_stays 100 = .ok (.lload 6, 2) := by decide +kernel
theorem dX6_stays_102 : decode cX6_stays 102 = .ok (.ldiv, 1) := by decide +kernel
theorem dX6_stays_103 : decode cX6_stays 103 = .ok (.lmul, 1) := by decide +kernel
theorem dX6_stays_104 : decode cX6_stays 104 = .ok (.lstore 4, 2) := by decide +kernel
theorem dX6_stays_106 : decode cX6_stays 106 = .ok (.iinc 9 (-1), 3) := by decide +kernel
theorem dX6_stays_109 : decode cX6_stays 109 = .ok (.goto (-45), 3) := by decide +kernel
theorem dX6_stays_112 : decode cX6_stays 112 = .ok (.iinc 8 1, 3) := by decide +kernel
theorem dX6_stays_115 : decode cX6_stays 115 = .ok (.goto (-73), 3) := by decide +kernel
theorem dX6_stays_118 : decode cX6_stays 118 = .ok (.lload 4, 2) := by decide +kernel
theorem dX6_stays_120 : decode cX6_stays 120 = .ok (.ldc2_w 248, 3) := by decide +kernel
theorem dX6_stays_123 : decode cX6_stays 123 = .ok (.lcmp, 1) := by decide +kernel
theorem dX6_stays_124 : decode cX6_stays 124 = .ok (.ifCond .le 13, 3) := by decide +kernel
theorem dX6_stays_127 : decode cX6_stays 127 = .ok (.aload_n 0, 1) := by decide +kernel
theorem dX6_stays_128 : decode cX6_stays 128 = .ok (.ldc 239, 2) := by decide +kernel
theorem dX6_stays_130 : decode cX6_stays 130 = .ok (.invokevirtual 87, 3) := by decide +kernel
theorem dX6_stays_133 : decode cX6_stays 133 = .ok (.i2l, 1) := by decide +kernel
theorem dX6_stays_134 : decode cX6_stays 134 = .ok (.goto 13, 3) := by decide +kernel
theorem dX6_stays_137 : decode cX6_stays 137 = .ok (.iload_n 1, 1) := by decide +kernel
theorem dX6_stays_138 : decode cX6_stays 138 = .ok (.ifCond .ne 7, 3) := by decide +kernel
theorem dX6_stays_141 : decode cX6_stays 141 = .ok (.lload_n 2, 1) := by decide +kernel
theorem dX6_stays_142 : decode cX6_stays 142 = .ok (.goto 5, 3) := by decide +kernel
theorem dX6_stays_145 : decode cX6_stays 145 = .ok (.lload 4, 2) := by decide +kernel
theorem dX6_stays_147 : decode cX6_stays 147 = .ok (.lreturn, 1) := by decide +kernel
theorem dX6_drawn_0 : decode cX6_drawn 0 = .ok (.aload_n 0, 1) := by decide +kernel
theorem dX6_drawn_1 : decode cX6_drawn 1 = .ok (.getfield 9, 3) := by decide +kernel
theorem dX6_drawn_4 : decode cX6_drawn 4 = .ok (.bipush 9, 2) := by decide +kernel
theorem dX6_drawn_6 : decode cX6_drawn 6 = .ok (.aload_n 0, 1) := by decide +kernel
theorem dX6_drawn_7 : decode cX6_drawn 7 = .ok (.getfield 9, 3) := by decide +kernel
theorem dX6_drawn_10 : decode cX6_drawn 10 = .ok (.bipush 9, 2) := by decide +kernel
theorem dX6_drawn_12 : decode cX6_drawn 12 = .ok (.iaload, 1) := by decide +kernel
theorem dX6_drawn_13 : decode cX6_drawn 13 = .ok (.ldc 250, 2) := by decide +kernel
theorem dX6_drawn_15 : decode cX6_drawn 15 = .ok (.imul, 1) := by decide +kernel
theorem dX6_drawn_16 : decode cX6_drawn 16 = .ok (.sipush 12345, 3) := by decide +kernel
theorem dX6_drawn_19 : decode cX6_drawn 19 = .ok (.iadd, 1) := by decide +kernel
theorem dX6_drawn_20 : decode cX6_drawn 20 = .ok (.iastore, 1) := by decide +kernel
theorem dX6_drawn_21 : decode cX6_drawn 21 = .ok (.aload_n 0, 1) := by decide +kernel
theorem dX6_drawn_22 : decode cX6_drawn 22 = .ok (.getfield 9, 3) := by decide +kernel
theorem dX6_drawn_25 : decode cX6_drawn 25 = .ok (.bipush 9, 2) := by decide +kernel
theorem dX6_drawn_27 : decode cX6_drawn 27 = .ok (.iaload, 1) := by decide +kernel
theorem dX6_drawn_28 : decode cX6_drawn 28 = .ok (.bipush 8, 2) := by decide +kernel
theorem dX6_drawn_30 : decode cX6_drawn 30 = .ok (.iushr, 1) := by decide +kernel
theorem dX6_drawn_31 : decode cX6_drawn 31 = .ok (.iload_n 1, 1) := by decide +kernel
theorem dX6_drawn_32 : decode cX6_drawn 32 = .ok (.irem, 1) := by decide +kernel
theorem dX6_drawn_33 : decode cX6_drawn 33 = .ok (.ireturn, 1) := by decide +kernel
theorem dX6_evening_0 : decode cX6_evening 0 = .ok (.aload_n 0, 1) := by decide +kernel
theorem dX6_evening_1 : decode cX6_evening 1 = .ok (.aload_n 0, 1) := by decide +kernel
theorem dX6_evening_2 : decode cX6_evening 2 = .ok (.invokevirtual 196, 3) := by decide +kernel
theorem dX6_evening_5 : decode cX6_evening 5 = .ok (.iconst 0, 1) := by decide +kernel
theorem dX6_evening_6 : decode cX6_evening 6 = .ok (.invokevirtual 199, 3) := by decide +kernel
theorem dX6_evening_9 : decode cX6_evening 9 = .ok (.istore_n 1, 1) := by decide +kernel
theorem dX6_evening_10 : decode cX6_evening 10 = .ok (.iload_n 1, 1) := by decide +kernel
theorem dX6_evening_11 : decode cX6_evening 11 = .ok (.ldc 178, 2) := by decide +kernel
theorem dX6_evening_13 : decode cX6_evening 13 = .ok (.if_icmp .ge 10, 3) := by decide +kernel
theorem dX6_evening_16 : decode cX6_evening 16 = .ok (.aload_n 0, 1) := by decide +kernel
theorem dX6_evening_17 : decode cX6_evening 17 = .ok (.invokevirtual 186, 3) := by decide +kernel
theorem dX6_evening_20 : decode cX6_evening 20 = .ok (.goto 4, 3) := by decide +kernel
theorem dX6_evening_23 : decode cX6_evening 23 = .ok (.iconst 0, 1) := by decide +kernel
theorem dX6_evening_24 : decode cX6_evening 24 = .ok (.istore_n 2, 1) := by decide +kernel
theorem dX6_evening_25 : decode cX6_evening 25 = .ok (.iconst 0, 1) := by decide +kernel
theorem dX6_evening_26 : decode cX6_evening 26 = .ok (.istore_n 3, 1) := by decide +kernel
theorem dX6_evening_27 : decode cX6_evening 27 = .ok (.iconst 0, 1) := by decide +kernel
theorem dX6_evening_28 : decode cX6_evening 28 = .ok (.istore 4, 2) := by decide +kernel
theorem dX6_evening_30 : decode cX6_evening 30 = .ok (.iload 4, 2) := by decide +kernel
theorem dX6_evening_32 : decode cX6_evening 32 = .ok (.aload_n 0, 1) := by decide +kernel
theorem dX6_evening_33 : decode cX6_evening 33 = .ok (.getfield 9, 3) := by decide +kernel
theorem dX6_evening_36 : decode cX6_evening 36 = .ok (.iconst 1, 1) := by decide +kernel
theorem dX6_evening_37 : decode cX6_evening 37 = .ok (.iaload, 1) := by decide +kernel
theorem dX6_evening_38 : decode cX6_evening 38 = .ok (.if_icmp .ge 134, 3) := by decide +kernel
theorem dX6_evening_41 : decode cX6_evening 41 = .ok (.aload_n 0, 1) := by decide +kernel
theorem dX6_evening_42 : decode cX6_evening 42 = .ok (.iload_n 2, 1) := by decide +kernel
theorem dX6_evening_43 : decode cX6_evening 43 = .ok (.iload 4, 2) := by decide +kernel
theorem dX6_evening_45 : decode cX6_evening 45 = .ok (.iconst 0, 1) := by decide +kernel
theorem dX6_evening_46 : decode cX6_evening 46 = .ok (.invokevirtual 202, 3) := by decide +kernel
theorem dX6_evening_49 : decode cX6_evening 49 = .ok (.istore 5, 2) := by decide +kernel
theorem dX6_evening_51 : decode cX6_evening 51 = .ok (.aload_n 0, 1) := by decide +kernel
theorem dX6_evening_52 : decode cX6_evening 52 = .ok (.getfield 9, 3) := by decide +kernel
theorem dX6_evening_55 : decode cX6_evening 55 = .ok (.iconst 4, 1) := by decide +kernel
theorem dX6_evening_56 : decode cX6_evening 56 = .ok (.dup2, 1) := by decide +kernel
theorem dX6_evening_57 : decode cX6_evening 57 = .ok (.iaload, 1) := by decide +kernel
theorem dX6_evening_58 : decode cX6_evening 58 = .ok (.aload_n 0, 1) := by decide +kernel
theorem dX6_evening_59 : decode cX6_evening 59 = .ok (.iload_n 2, 1) := by decide +kernel
theorem dX6_evening_60 : decode cX6_evening 60 = .ok (.iload 5, 2) := by decide +kernel
theorem dX6_evening_62 : decode cX6_evening 62 = .ok (.iconst 0, 1) := by decide +kernel
theorem dX6_evening_63 : decode cX6_evening 63 = .ok (.invokevirtual 179, 3) := by decide +kernel
theorem dX6_evening_66 : decode cX6_evening 66 = .ok (.iadd, 1) := by decide +kernel
theorem dX6_evening_67 : decode cX6_evening 67 = .ok (.iastore, 1) := by decide +kernel
theorem dX6_evening_68 : decode cX6_evening 68 = .ok (.aload_n 0, 1) := by decide +kernel
theorem dX6_evening_69 : decode cX6_evening 69 = .ok (.getfield 9, 3) := by decide +kernel
theorem dX6_evening_72 : decode cX6_evening 72 = .ok (.iconst 5, 1) := by decide +kernel
theorem dX6_evening_73 : decode cX6_evening 73 = .ok (.dup2, 1) := by decide +kernel
theorem dX6_evening_74 : decode cX6_evening 74 = .ok (.iaload, 1) := by decide +kernel
theorem dX6_evening_75 : decode cX6_evening 75 = .ok (.aload_n 0, 1) := by decide +kernel
theorem dX6_evening_76 : decode cX6_evening 76 = .ok (.iload_n 2, 1) := by decide +kernel
theorem dX6_evening_77 : decode cX6_evening 77 = .ok (.iload 5, 2) := by decide +kernel
theorem dX6_evening_79 : decode cX6_evening 79 = .ok (.iconst 1, 1) := by decide +kernel
theorem dX6_evening_80 : decode cX6_evening 80 = .ok (.invokevirtual 179, 3) := by decide +kernel
theorem dX6_evening_83 : decode cX6_evening 83 = .ok (.iadd, 1) := by decide +kernel
theorem dX6_evening_84 : decode cX6_evening 84 = .ok (.iastore, 1) := by decide +kernel
theorem dX6_evening_85 : decode cX6_evening 85 = .ok (.iload 5, 2) := by decide +kernel
theorem dX6_evening_87 : decode cX6_evening 87 = .ok (.istore_n 2, 1) := by decide +kernel
theorem dX6_evening_88 : decode cX6_evening 88 = .ok (.iconst 0, 1) := by decide +kernel
theorem dX6_evening_89 : decode cX6_evening 89 = .ok (.istore 6, 2) := by decide +kernel
theorem dX6_evening_91 : decode cX6_evening 91 = .ok (.aload_n 0, 1) := by decide +kernel
theorem dX6_evening_92 : decode cX6_evening 92 = .ok (.iload 4, 2) := by decide +kernel
theorem dX6_evening_94 : decode cX6_evening 94 = .ok (.invokevirtual 240, 3) := by decide +kernel
theorem dX6_evening_97 : decode cX6_evening 97 = .ok (.invokestatic 140, 3) := by decide +kernel
theorem dX6_evening_100 : decode cX6_evening 100 = .ok (.istore 7, 2) := by decide +kernel
theorem dX6_evening_102 : decode cX6_evening 102 = .ok (.iload 7, 2) := by decide +kernel
theorem dX6_evening_104 : decode cX6_evening 104 = .ok (.ifCond .le 49, 3) := by decide +kernel
theorem dX6_evening_107 : decode cX6_evening 107 = .ok (.aload_n 0, 1) := by decide +kernel
theorem dX6_evening_108 : decode cX6_evening 108 = .ok (.bipush 10, 2) := by decide +kernel
theorem dX6_evening_110 : decode cX6_evening 110 = .ok (.invokevirtual 251, 3) := by decide +kernel
theorem dX6_evening_113 : decode cX6_evening 113 = .ok (.aload_n 0, 1) := by decide +kernel
theorem dX6_evening_114 : decode cX6_evening 114 = .ok (.getfield 9, 3) := by decide +kernel
theorem dX6_evening_117 : decode cX6_evening 117 = .ok (.bipush 8, 2) := by decide +kernel
theorem dX6_evening_119 : decode cX6_evening 119 = .ok (.iaload, 1) := by decide +kernel
theorem dX6_evening_120 : decode cX6_evening 120 = .ok (.if_icmp .ge 7, 3) := by decide +kernel
theorem dX6_evening_123 : decode cX6_evening 123 = .ok (.iconst 1, 1) := by decide +kernel
theorem dX6_evening_124 : decode cX6_evening 124 = .ok (.goto 4, 3) := by decide +kernel
theorem dX6_evening_127 : decode cX6_evening 127 = .ok (.iconst 0, 1) := by decide +kernel
theorem dX6_evening_128 : decode cX6_evening 128 = .ok (.istore 8, 2) := by decide +kernel
theorem dX6_evening_130 : decode cX6_evening 130 = .ok (.iload 6, 2) := by decide +kernel
theorem dX6_evening_132 : decode cX6_evening 132 = .ok (.ifCond .ne 8, 3) := by decide +kernel
theorem dX6_evening_135 : decode cX6_evening 135 = .ok (.iload 8, 2) := by decide +kernel
theorem dX6_evening_137 : decode cX6_evening 137 = .ok (.ifCond .eq 7, 3) := by decide +kernel
theorem dX6_evening_140 : decode cX6_evening 140 = .ok (.iconst 1, 1) := by decide +kernel
theorem dX6_evening_141 : decode cX6_evening 141 = .ok (.goto 4, 3) := by decide +kernel
theorem dX6_evening_144 : decode cX6_evening 144 = .ok (.iconst 0, 1) := by decide +kernel
theorem dX6_evening_145 : decode cX6_evening 145 = .ok (.istore 6, 2) := by decide +kernel
theorem dX6_evening_147 : decode cX6_evening 147 = .ok (.iinc 7 (-1), 3) := by decide +kernel
theorem dX6_evening_150 : decode cX6_evening 150 = .ok (.goto (-48), 3) := by decide +kernel
theorem dX6_evening_153 : decode cX6_evening 153 = .ok (.iload_n 3, 1) := by decide +kernel
theorem dX6_evening_154 : decode cX6_evening 154 = .ok (.iload 6, 2) := by decide +kernel
theorem dX6_evening_156 : decode cX6_evening 156 = .ok (.ifCond .eq 7, 3) := by decide +kernel
theorem dX6_evening_159 : decode cX6_evening 159 = .ok (.iconst 1, 1) := by decide +kernel
theorem dX6_evening_160 : decode cX6_evening 160 = .ok (.goto 4, 3) := by decide +kernel
theorem dX6_evening_163 : decode cX6_evening 163 = .ok (.iconst 0, 1) := by decide +kernel
theorem dX6_evening_164 : decode cX6_evening 164 = .ok (.iadd, 1) := by decide +kernel
theorem dX6_evening_165 : decode cX6_evening 165 = .ok (.istore_n 3, 1) := by decide +kernel
theorem dX6_evening_166 : decode cX6_evening 166 = .ok (.iinc 4 1, 3) := by decide +kernel
theorem dX6_evening_169 : decode cX6_evening 169 = .ok (.goto (-139), 3) := by decide +kernel
theorem dX6_evening_172 : decode cX6_evening 172 = .ok (.aload_n 0, 1) := by decide +kernel
theorem dX6_evening_173 : decode cX6_evening 173 = .ok (.getfield 9, 3) := by decide +kernel
theorem dX6_evening_176 : decode cX6_evening 176 = .ok (.iconst 2, 1) := by decide +kernel
theorem dX6_evening_177 : decode cX6_evening 177 = .ok (.iload_n 2, 1) := by decide +kernel
theorem dX6_evening_178 : decode cX6_evening 178 = .ok (.invokestatic 169, 3) := by decide +kernel
theorem dX6_evening_181 : decode cX6_evening 181 = .ok (.iastore, 1) := by decide +kernel
theorem dX6_evening_182 : decode cX6_evening 182 = .ok (.aload_n 0, 1) := by decide +kernel
theorem dX6_evening_183 : decode cX6_evening 183 = .ok (.getfield 9, 3) := by decide +kernel
theorem dX6_evening_186 : decode cX6_evening 186 = .ok (.iconst 3, 1) := by decide +kernel
theorem dX6_evening_187 : decode cX6_evening 187 = .ok (.iload_n 2, 1) := by decide +kernel
theorem dX6_evening_188 : decode cX6_evening 188 = .ok (.invokestatic 172, 3) := by decide +kernel
theorem dX6_evening_191 : decode cX6_evening 191 = .ok (.iastore, 1) := by decide +kernel
theorem dX6_evening_192 : decode cX6_evening 192 = .ok (.aload_n 0, 1) := by decide +kernel
theorem dX6_evening_193 : decode cX6_evening 193 = .ok (.getfield 9, 3) := by decide +kernel
theorem dX6_evening_196 : decode cX6_evening 196 = .ok (.bipush 6, 2) := by decide +kernel
theorem dX6_evening_198 : decode cX6_evening 198 = .ok (.dup2, 1) := by decide +kernel
theorem dX6_evening_199 : decode cX6_evening 199 = .ok (.iaload, 1) := by decide +kernel
theorem dX6_evening_200 : decode cX6_evening 200 = .ok (.aload_n 0, 1) := by decide +kernel
theorem dX6_evening_201 : decode cX6_evening 201 = .ok (.getfield 9, 3) := by decide +kernel
theorem dX6_evening_204 : decode cX6_evening 204 = .ok (.iconst 1, 1) := by decide +kernel
theorem dX6_evening_205 : decode cX6_evening 205 = .ok (.iaload, 1) := by decide +kernel
theorem dX6_evening_206 : decode cX6_evening 206 = .ok (.iadd, 1) := by decide +kernel
theorem dX6_evening_207 : decode cX6_evening 207 = .ok (.iastore, 1) := by decide +kernel
theorem dX6_evening_208 : decode cX6_evening 208 = .ok (.aload_n 0, 1) := by decide +kernel
theorem dX6_evening_209 : decode cX6_evening 209 = .ok (.getfield 9, 3) := by decide +kernel
theorem dX6_evening_212 : decode cX6_evening 212 = .ok (.bipush 7, 2) := by decide +kernel
theorem dX6_evening_214 : decode cX6_evening 214 = .ok (.dup2, 1) := by decide +kernel
theorem dX6_evening_215 : decode cX6_evening 215 = .ok (.iaload, 1) := by decide +kernel
theorem dX6_evening_216 : decode cX6_evening 216 = .ok (.iload_n 3, 1) := by decide +kernel
theorem dX6_evening_217 : decode cX6_evening 217 = .ok (.iadd, 1) := by decide +kernel
theorem dX6_evening_218 : decode cX6_evening 218 = .ok (.iastore, 1) := by decide +kernel
theorem dX6_evening_219 : decode cX6_evening 219 = .ok (.iload_n 3, 1) := by decide +kernel
theorem dX6_evening_220 : decode cX6_evening 220 = .ok (.ireturn, 1) := by decide +kernel
theorem dX6_canPlay_0 : decode cX6_canPlay 0 = .ok (.aload_n 0, 1) := by decide +kernel
theorem dX6_canPlay_1 : decode cX6_canPlay 1 = .ok (.getfield 9, 3) := by decide +kernel
theorem dX6_canPlay_4 : decode cX6_canPlay 4 = .ok (.iconst 1, 1) := by decide +kernel
theorem dX6_canPlay_5 : decode cX6_canPlay 5 = .ok (.iaload, 1) := by decide +kernel
theorem dX6_canPlay_6 : decode cX6_canPlay 6 = .ok (.ifCond .le 14, 3) := by decide +kernel
theorem dX6_canPlay_9 : decode cX6_canPlay 9 = .ok (.aload_n 0, 1) := by decide +kernel
theorem dX6_canPlay_10 : decode cX6_canPlay 10 = .ok (.invokevirtual 192, 3) := by decide +kernel
theorem dX6_canPlay_13 : decode cX6_canPlay 13 = .ok (.ifCond .eq 7, 3) := by decide +kernel
theorem dX6_canPlay_16 : decode cX6_canPlay 16 = .ok (.iconst 1, 1) := by decide +kernel
theorem dX6_canPlay_17 : decode cX6_canPlay 17 = .ok (.goto 4, 3) := by decide +kernel
theorem dX6_canPlay_20 : decode cX6_canPlay 20 = .ok (.iconst 0, 1) := by decide +kernel
theorem dX6_canPlay_21 : decode cX6_canPlay 21 = .ok (.ireturn, 1) := by decide +kernel
theorem dX6_plays_0 : decode cX6_plays 0 = .ok (.aload_n 0, 1) := by decide +kernel
theorem dX6_plays_1 : decode cX6_plays 1 = .ok (.invokevirtual 254, 3) := by decide +kernel
theorem dX6_plays_4 : decode cX6_plays 4 = .ok (.ifCond .eq 10, 3) := by decide +kernel
theorem dX6_plays_7 : decode cX6_plays 7 = .ok (.aload_n 0, 1) := by decide +kernel
theorem dX6_plays_8 : decode cX6_plays 8 = .ok (.invokevirtual 257, 3) := by decide +kernel
theorem dX6_plays_11 : decode cX6_plays 11 = .ok (.goto 9, 3) := by decide +kernel
theorem dX6_plays_14 : decode cX6_plays 14 = .ok (.aload_n 0, 1) := by decide +kernel
theorem dX6_plays_15 : decode cX6_plays 15 = .ok (.ldc 162, 2) := by decide +kernel
theorem dX6_plays_17 : decode cX6_plays 17 = .ok (.invokevirtual 87, 3) := by decide +kernel
theorem dX6_plays_20 : decode cX6_plays 20 = .ok (.ireturn, 1) := by decide +kernel
theorem dX6_ahead_0 : decode cX6_ahead 0 = .ok (.iload_n 1, 1) := by decide +kernel
theorem dX6_ahead_1 : decode cX6_ahead 1 = .ok (.iconst 0, 1) := by decide +kernel
theorem dX6_ahead_2 : decode cX6_ahead 2 = .ok (.bipush 20, 2) := by decide +kernel
theorem dX6_ahead_4 : decode cX6_ahead 4 = .ok (.invokestatic 75, 3) := by decide +kernel
theorem dX6_ahead_7 : decode cX6_ahead 7 = .ok (.ifCond .ne 10, 3) := by decide +kernel
theorem dX6_ahead_10 : decode cX6_ahead 10 = .ok (.aload_n 0, 1) := by decide +kernel
theorem dX6_ahead_11 : decode cX6_ahead 11 = .ok (.ldc 70, 2) := by decide +kernel
theorem dX6_ahead_13 : decode cX6_ahead 13 = .ok (.invokevirtual 87, 3) := by decide +kernel
theorem dX6_ahead_16 : decode cX6_ahead 16 = .ok (.ireturn, 1) := by decide +kernel
theorem dX6_ahead_17 : decode cX6_ahead 17 = .ok (.aload_n 0, 1) := by decide +kernel
theorem dX6_ahead_18 : decode cX6_ahead 18 = .ok (.invokevirtual 254, 3) := by decide +kernel
theorem dX6_ahead_21 : decode cX6_ahead 21 = .ok (.ifCond .ne 10, 3) := by decide +kernel
theorem dX6_ahead_24 : decode cX6_ahead 24 = .ok (.aload_n 0, 1) := by decide +kernel
theorem dX6_ahead_25 : decode cX6_ahead 25 = .ok (.ldc 162, 2) := by decide +kernel
theorem dX6_ahead_27 : decode cX6_ahead 27 = .ok (.invokevirtual 87, 3) := by decide +kernel
theorem dX6_ahead_30 : decode cX6_ahead 30 = .ok (.ireturn, 1) := by decide +kernel
theorem dX6_ahead_31 : decode cX6_ahead 31 = .ok (.aload_n 0, 1) := by decide +kernel
theorem dX6_ahead_32 : decode cX6_ahead 32 = .ok (.getfield 9, 3) := by decide +kernel
theorem dX6_ahead_35 : decode cX6_ahead 35 = .ok (.aload_n 0, 1) := by decide +kernel
theorem dX6_ahead_36 : decode cX6_ahead 36 = .ok (.getfield 16, 3) := by decide +kernel
theorem dX6_ahead_39 : decode cX6_ahead 39 = .ok (.invokestatic 71, 3) := by decide +kernel
theorem dX6_ahead_42 : decode cX6_ahead 42 = .ok (.iconst 0, 1) := by decide +kernel
theorem dX6_ahead_43 : decode cX6_ahead 43 = .ok (.istore_n 2, 1) := by decide +kernel
theorem dX6_ahead_44 : decode cX6_ahead 44 = .ok (.iconst 0, 1) := by decide +kernel
theorem dX6_ahead_45 : decode cX6_ahead 45 = .ok (.istore_n 3, 1) := by decide +kernel
theorem dX6_ahead_46 : decode cX6_ahead 46 = .ok (.iload_n 3, 1) := by decide +kernel
theorem dX6_ahead_47 : decode cX6_ahead 47 = .ok (.iload_n 1, 1) := by decide +kernel
theorem dX6_ahead_48 : decode cX6_ahead 48 = .ok (.if_icmp .ge 16, 3) := by decide +kernel
theorem dX6_ahead_51 : decode cX6_ahead 51 = .ok (.iload_n 2, 1) := by decide +kernel
theorem dX6_ahead_52 : decode cX6_ahead 52 = .ok (.aload_n 0, 1) := by decide +kernel
theorem dX6_ahead_53 : decode cX6_ahead 53 = .ok (.invokevirtual 257, 3) := by decide +kernel
theorem dX6_ahead_56 : decode cX6_ahead 56 = .ok (.iadd, 1) := by decide +kernel
theorem dX6_ahead_57 : decode cX6_ahead 57 = .ok (.istore_n 2, 1) := by decide +kernel
theorem dX6_ahead_58 : decode cX6_ahead 58 = .ok (.iinc 3 1, 3) := by decide +kernel
theorem dX6_ahead_61 : decode cX6_ahead 61 = .ok (.goto (-15), 3) := by decide +kernel
theorem dX6_ahead_64 : decode cX6_ahead 64 = .ok (.aload_n 0, 1) := by decide +kernel
theorem dX6_ahead_65 : decode cX6_ahead 65 = .ok (.iload_n 2, 1) := by decide +kernel
theorem dX6_ahead_66 : decode cX6_ahead 66 = .ok (.invokevirtual 260, 3) := by decide +kernel
theorem dX6_ahead_69 : decode cX6_ahead 69 = .ok (.ireturn, 1) := by decide +kernel
theorem dX6_seed_0 : decode cX6_seed 0 = .ok (.aload_n 0, 1) := by decide +kernel
theorem dX6_seed_1 : decode cX6_seed 1 = .ok (.bipush 9, 2) := by decide +kernel
theorem dX6_seed_3 : decode cX6_seed 3 = .ok (.iload_n 1, 1) := by decide +kernel
theorem dX6_seed_4 : decode cX6_seed 4 = .ok (.invokevirtual 122, 3) := by decide +kernel
theorem dX6_seed_7 : decode cX6_seed 7 = .ok (.ireturn, 1) := by decide +kernel
theorem dX6_feed_0 : decode cX6_feed 0 = .ok (.iload_n 2, 1) := by decide +kernel
theorem dX6_feed_1 : decode cX6_feed 1 = .ok (.iconst 1, 1) := by decide +kernel
theorem dX6_feed_2 : decode cX6_feed 2 = .ok (.iconst 4, 1) := by decide +kernel
theorem dX6_feed_3 : decode cX6_feed 3 = .ok (.invokestatic 75, 3) := by decide +kernel
theorem dX6_feed_6 : decode cX6_feed 6 = .ok (.ifCond .ne 10, 3) := by decide +kernel
theorem dX6_feed_9 : decode cX6_feed 9 = .ok (.aload_n 0, 1) := by decide +kernel
theorem dX6_feed_10 : decode cX6_feed 10 = .ok (.ldc 70, 2) := by decide +kernel
theorem dX6_feed_12 : decode cX6_feed 12 = .ok (.invokevirtual 87, 3) := by decide +kernel
theorem dX6_feed_15 : decode cX6_feed 15 = .ok (.ireturn, 1) := by decide +kernel
theorem dX6_feed_16 : decode cX6_feed 16 = .ok (.aload_n 0, 1) := by decide +kernel
theorem dX6_feed_17 : decode cX6_feed 17 = .ok (.getfield 263, 3) := by decide +kernel
theorem dX6_feed_20 : decode cX6_feed 20 = .ok (.iload_n 2, 1) := by decide +kernel
theorem dX6_feed_21 : decode cX6_feed 21 = .ok (.iadd, 1) := by decide +kernel
theorem dX6_feed_22 : decode cX6_feed 22 = .ok (.bipush 120, 2) := by decide +kernel
theorem dX6_feed_24 : decode cX6_feed 24 = .ok (.if_icmp .le 10, 3) := by decide +kernel
theorem dX6_feed_27 : decode cX6_feed 27 = .ok (.aload_n 0, 1) := by decide +kernel
theorem dX6_feed_28 : decode cX6_feed 28 = .ok (.ldc 91, 2) := by decide +kernel
theorem dX6_feed_30 : decode cX6_feed 30 = .ok (.invokevirtual 87, 3) := by decide +kernel
theorem dX6_feed_33 : decode cX6_feed 33 = .ok (.ireturn, 1) := by decide +kernel
theorem dX6_feed_34 : decode cX6_feed 34 = .ok (.iload_n 2, 1) := by decide +kernel
theorem dX6_feed_35 : decode cX6_feed 35 = .ok (.iconst 1, 1) := by decide +kernel
theorem dX6_feed_36 : decode cX6_feed 36 = .ok (.isub, 1) := by decide +kernel
theorem dX6_feed_37 : decode cX6_feed 37 = .ok (.istore_n 3, 1) := by decide +kernel
theorem dX6_feed_38 : decode cX6_feed 38 = .ok (.iload_n 3, 1) := by decide +kernel
theorem dX6_feed_39 : decode cX6_feed 39 = .ok (.ifCond .lt 38, 3) := by decide +kernel
theorem dX6_feed_42 : decode cX6_feed 42 = .ok (.aload_n 0, 1) := by decide +kernel
theorem dX6_feed_43 : decode cX6_feed 43 = .ok (.getfield 32, 3) := by decide +kernel
theorem dX6_feed_46 : decode cX6_feed 46 = .ok (.aload_n 0, 1) := by decide +kernel
theorem dX6_feed_47 : decode cX6_feed 47 = .ok (.getfield 263, 3) := by decide +kernel
theorem dX6_feed_50 : decode cX6_feed 50 = .ok (.iload_n 1, 1) := by decide +kernel
theorem dX6_feed_51 : decode cX6_feed 51 = .ok (.bipush 8, 2) := by decide +kernel
theorem dX6_feed_53 : decode cX6_feed 53 = .ok (.iload_n 3, 1) := by decide +kernel
theorem dX6_feed_54 : decode cX6_feed 54 = .ok (.imul, 1) := by decide +kernel
theorem dX6_feed_55 : decode cX6_feed 55 = .ok (.ishr, 1) := by decide +kernel
theorem dX6_feed_56 : decode cX6_feed 56 = .ok (.sipush 255, 3) := by decide +kernel
theorem dX6_feed_59 : decode cX6_feed 59 = .ok (.iand, 1) := by decide +kernel
theorem dX6_feed_60 : decode cX6_feed 60 = .ok (.iastore, 1) := by decide +kernel
theorem dX6_feed_61 : decode cX6_feed 61 = .ok (.aload_n 0, 1) := by decide +kernel
theorem dX6_feed_62 : decode cX6_feed 62 = .ok (.dup, 1) := by decide +kernel
theorem dX6_feed_63 : decode cX6_feed 63 = .ok (.getfield 263, 3) := by decide +kernel
theorem dX6_feed_66 : decode cX6_feed 66 = .ok (.iconst 1, 1) := by decide +kernel
theorem dX6_feed_67 : decode cX6_feed 67 = .ok (.iadd, 1) := by decide +kernel
theorem dX6_feed_68 : decode cX6_feed 68 = .ok (.putfield 263, 3) := by decide +kernel
theorem dX6_feed_71 : decode cX6_feed 71 = .ok (.iinc 3 (-1), 3) := by decide +kernel
theorem dX6_feed_74 : decode cX6_feed 74 = .ok (.goto (-36), 3) := by decide +kernel
theorem dX6_feed_77 : decode cX6_feed 77 = .ok (.aload_n 0, 1) := by decide +kernel
theorem dX6_feed_78 : decode cX6_feed 78 = .ok (.getfield 263, 3) := by decide +kernel
theorem dX6_feed_81 : decode cX6_feed 81 = .ok (.ireturn, 1) := by decide +kernel
theorem dX6_wipe_0 : decode cX6_wipe 0 = .ok (.aload_n 0, 1) := by decide +kernel
theorem dX6_wipe_1 : decode cX6_wipe 1 = .ok (.getfield 263, 3) := by decide +kernel
theorem dX6_wipe_4 : decode cX6_wipe 4 = .ok (.istore_n 1, 1) := by decide +kernel
theorem dX6_wipe_5 : decode cX6_wipe 5 = .ok (.aload_n 0, 1) := by decide +kernel
theorem dX6_wipe_6 : decode cX6_wipe 6 = .ok (.iconst 0, 1) := by decide +kernel
theorem dX6_wipe_7 : decode cX6_wipe 7 = .ok (.putfield 263, 3) := by decide +kernel
theorem dX6_wipe_10 : decode cX6_wipe 10 = .ok (.iload_n 1, 1) := by decide +kernel
theorem dX6_wipe_11 : decode cX6_wipe 11 = .ok (.ireturn, 1) := by decide +kernel
theorem dX6_byteAt_0 : decode cX6_byteAt 0 = .ok (.iload_n 1, 1) := by decide +kernel
theorem dX6_byteAt_1 : decode cX6_byteAt 1 = .ok (.aload_n 0, 1) := by decide +kernel
theorem dX6_byteAt_2 : decode cX6_byteAt 2 = .ok (.getfield 263, 3) := by decide +kernel
theorem dX6_byteAt_5 : decode cX6_byteAt 5 = .ok (.if_icmp .ge 12, 3) := by decide +kernel
theorem dX6_byteAt_8 : decode cX6_byteAt 8 = .ok (.aload_n 0, 1) := by decide +kernel
theorem dX6_byteAt_9 : decode cX6_byteAt 9 = .ok (.getfield 32, 3) := by decide +kernel
theorem dX6_byteAt_12 : decode cX6_byteAt 12 = .ok (.iload_n 1, 1) := by decide +kernel
theorem dX6_byteAt_13 : decode cX6_byteAt 13 = .ok (.iaload, 1) := by decide +kernel
theorem dX6_byteAt_14 : decode cX6_byteAt 14 = .ok (.goto 4, 3) := by decide +kernel
theorem dX6_byteAt_17 : decode cX6_byteAt 17 = .ok (.iconst (-1), 1) := by decide +kernel
theorem dX6_byteAt_18 : decode cX6_byteAt 18 = .ok (.ireturn, 1) := by decide +kernel
theorem dX6_next_0 : decode cX6_next 0 = .ok (.aload_n 0, 1) := by decide +kernel
theorem dX6_next_1 : decode cX6_next 1 = .ok (.aload_n 0, 1) := by decide +kernel
theorem dX6_next_2 : decode cX6_next 2 = .ok (.getfield 266, 3) := by decide +kernel
theorem dX6_next_5 : decode cX6_next 5 = .ok (.putfield 269, 3) := by decide +kernel
theorem dX6_next_8 : decode cX6_next 8 = .ok (.aload_n 0, 1) := by decide +kernel
theorem dX6_next_9 : decode cX6_next 9 = .ok (.aload_n 0, 1) := by decide +kernel
theorem dX6_next_10 : decode cX6_next 10 = .ok (.getfield 269, 3) := by decide +kernel
theorem dX6_next_13 : decode cX6_next 13 = .ok (.invokevirtual 272, 3) := by decide +kernel
theorem dX6_next_16 : decode cX6_next 16 = .ok (.bipush 32, 2) := by decide +kernel
theorem dX6_next_18 : decode cX6_next 18 = .ok (.if_icmp .ne 16, 3) := by decide +kernel
theorem dX6_next_21 : decode cX6_next 21 = .ok (.aload_n 0, 1) := by decide +kernel
theorem dX6_next_22 : decode cX6_next 22 = .ok (.dup, 1) := by decide +kernel
theorem dX6_next_23 : decode cX6_next 23 = .ok (.getfield 269, 3) := by decide +kernel
theorem dX6_next_26 : decode cX6_next 26 = .ok (.iconst 1, 1) := by decide +kernel
theorem dX6_next_27 : decode cX6_next 27 = .ok (.iadd, 1) := by decide +kernel
theorem dX6_next_28 : decode cX6_next 28 = .ok (.putfield 269, 3) := by decide +kernel
theorem dX6_next_31 : decode cX6_next 31 = .ok (.goto (-23), 3) := by decide +kernel
theorem dX6_next_34 : decode cX6_next 34 = .ok (.aload_n 0, 1) := by decide +kernel
theorem dX6_next_35 : decode cX6_next 35 = .ok (.aload_n 0, 1) := by decide +kernel
theorem dX6_next_36 : decode cX6_next 36 = .ok (.getfield 269, 3) := by decide +kernel
theorem dX6_next_39 : decode cX6_next 39 = .ok (.invokevirtual 272, 3) := by decide +kernel
theorem dX6_next_42 : decode cX6_next 42 = .ok (.istore_n 1, 1) := by decide +kernel
theorem dX6_next_43 : decode cX6_next 43 = .ok (.aload_n 0, 1) := by decide +kernel
theorem dX6_next_44 : decode cX6_next 44 = .ok (.aload_n 0, 1) := by decide +kernel
theorem dX6_next_45 : decode cX6_next 45 = .ok (.getfield 269, 3) := by decide +kernel
theorem dX6_next_48 : decode cX6_next 48 = .ok (.putfield 266, 3) := by decide +kernel
theorem dX6_next_51 : decode cX6_next 51 = .ok (.aload_n 0, 1) := by decide +kernel
theorem dX6_next_52 : decode cX6_next 52 = .ok (.iconst 0, 1) := by decide +kernel
theorem dX6_next_53 : decode cX6_next 53 = .ok (.putfield 275, 3) := by decide +kernel
theorem dX6_next_56 : decode cX6_next 56 = .ok (.iload_n 1, 1) := by decide +kernel
theorem dX6_next_57 : decode cX6_next 57 = .ok (.ifCond .ge 11, 3) := by decide +kernel
theorem dX6_next_60 : decode cX6_next 60 = .ok (.aload_n 0, 1) := by decide +kernel
theorem dX6_next_61 : decode cX6_next 61 = .ok (.iconst 0, 1) := by decide +kernel
theorem dX6_next_62 : decode cX6_next 62 = .ok (.putfield 278, 3) := by decide +kernel
theorem dX6_next_65 : decode cX6_next 65 = .ok (.goto 141, 3) := by decide +kernel
theorem dX6_next_68 : decode cX6_next 68 = .ok (.iload_n 1, 1) := by decide +kernel
theorem dX6_next_69 : decode cX6_next 69 = .ok (.bipush 97, 2) := by decide +kernel
theorem dX6_next_71 : decode cX6_next 71 = .ok (.bipush 122, 2) := by decide +kernel
theorem dX6_next_73 : decode cX6_next 73 = .ok (.invokestatic 75, 3) := by decide +kernel
theorem dX6_next_76 : decode cX6_next 76 = .ok (.ifCond .eq 39, 3) := by decide +kernel
theorem dX6_next_79 : decode cX6_next 79 = .ok (.aload_n 0, 1) := by decide +kernel
theorem dX6_next_80 : decode cX6_next 80 = .ok (.iconst 1, 1) := by decide +kernel
theorem dX6_next_81 : decode cX6_next 81 = .ok (.putfield 278, 3) := by decide +kernel
theorem dX6_next_84 : decode cX6_next 84 = .ok (.aload_n 0, 1) := by decide +kernel
theorem dX6_next_85 : decode cX6_next 85 = .ok (.aload_n 0, 1) := by decide +kernel
theorem dX6_next_86 : decode cX6_next 86 = .ok (.getfield 266, 3) := by decide +kernel
theorem dX6_next_89 : decode cX6_next 89 = .ok (.invokevirtual 272, 3) := by decide +kernel
theorem dX6_next_92 : decode cX6_next 92 = .ok (.bipush 97, 2) := by decide +kernel
theorem dX6_next_94 : decode cX6_next 94 = .ok (.bipush 122, 2) := by decide +kernel
theorem dX6_next_96 : decode cX6_next 96 = .ok (.invokestatic 75, 3) := by decide +kernel
theorem dX6_next_99 : decode cX6_next 99 = .ok (.ifCond .eq 107, 3) := by decide +kernel
theorem dX6_next_102 : decode cX6_next 102 = .ok (.aload_n 0, 1) := by decide +kernel
theorem dX6_next_103 : decode cX6_next 103 = .ok (.dup, 1) := by decide +kernel
theorem dX6_next_104 : decode cX6_next 104 = .ok (.getfield 266, 3) := by decide +kernel
theorem dX6_next_107 : decode cX6_next 107 = .ok (.iconst 1, 1) := by decide +kernel
theorem dX6_next_108 : decode cX6_next 108 = .ok (.iadd, 1) := by decide +kernel
theorem dX6_next_109 : decode cX6_next 109 = .ok (.putfield 266, 3) := by decide +kernel
theorem dX6_next_112 : decode cX6_next 112 = .ok (.goto (-28), 3) := by decide +kernel
theorem dX6_next_115 : decode cX6_next 115 = .ok (.iload_n 1, 1) := by decide +kernel
theorem dX6_next_116 : decode cX6_next 116 = .ok (.bipush 48, 2) := by decide +kernel
theorem dX6_next_118 : decode cX6_next 118 = .ok (.bipush 57, 2) := by decide +kernel
theorem dX6_next_120 : decode cX6_next 120 = .ok (.invokestatic 75, 3) := by decide +kernel
theorem dX6_next_123 : decode cX6_next 123 = .ok (.ifCond .eq 68, 3) := by decide +kernel
theorem dX6_next_126 : decode cX6_next 126 = .ok (.aload_n 0, 1) := by decide +kernel
theorem dX6_next_127 : decode cX6_next 127 = .ok (.iconst 2, 1) := by decide +kernel
theorem dX6_next_128 : decode cX6_next 128 = .ok (.putfield 278, 3) := by decide +kernel
theorem dX6_next_131 : decode cX6_next 131 = .ok (.aload_n 0, 1) := by decide +kernel
theorem dX6_next_132 : decode cX6_next 132 = .ok (.aload_n 0, 1) := by decide +kernel
theorem dX6_next_133 : decode cX6_next 133 = .ok (.getfield 266, 3) := by decide +kernel
theorem dX6_next_136 : decode cX6_next 136 = .ok (.invokevirtual 272, 3) := by decide +kernel
theorem dX6_next_139 : decode cX6_next 139 = .ok (.bipush 48, 2) := by decide +kernel
theorem dX6_next_141 : decode cX6_next 141 = .ok (.bipush 57, 2) := by decide +kernel
theorem dX6_next_143 : decode cX6_next 143 = .ok (.invokestatic 75, 3) := by decide +kernel
theorem dX6_next_146 : decode cX6_next 146 = .ok (.ifCond .eq 60, 3) := by decide +kernel
theorem dX6_next_149 : decode cX6_next 149 = .ok (.aload_n 0, 1) := by decide +kernel
theorem dX6_next_150 : decode cX6_next 150 = .ok (.sipush 1000, 3) := by decide +kernel
theorem dX6_next_153 : decode cX6_next 153 = .ok (.bipush 10, 2) := by decide +kernel
theorem dX6_next_155 : decode cX6_next 155 = .ok (.aload_n 0, 1) := by decide +kernel
theorem dX6_next_156 : decode cX6_next 156 = .ok (.getfield 275, 3) := by decide +kernel
theorem dX6_next_159 : decode cX6_next 159 = .ok (.imul, 1) := by decide +kernel
theorem dX6_next_160 : decode cX6_next 160 = .ok (.aload_n 0, 1) := by decide +kernel
theorem dX6_next_161 : decode cX6_next 161 = .ok (.aload_n 0, 1) := by decide +kernel
theorem dX6_next_162 : decode cX6_next 162 = .ok (.getfield 266, 3) := by decide +kernel
theorem dX6_next_165 : decode cX6_next 165 = .ok (.invokevirtual 272, 3) := by decide +kernel
theorem dX6_next_168 : decode cX6_next 168 = .ok (.iadd, 1) := by decide +kernel
theorem dX6_next_169 : decode cX6_next 169 = .ok (.bipush 48, 2) := by decide +kernel
theorem dX6_next_171 : decode cX6_next 171 = .ok (.isub, 1) := by decide +kernel
theorem dX6_next_172 : decode cX6_next 172 = .ok (.invokestatic 183, 3) := by decide +kernel
theorem dX6_next_175 : decode cX6_next 175 = .ok (.putfield 275, 3) := by decide +kernel
theorem dX6_next_178 : decode cX6_next 178 = .ok (.aload_n 0, 1) := by decide +kernel
theorem dX6_next_179 : decode cX6_next 179 = .ok (.dup, 1) := by decide +kernel
theorem dX6_next_180 : decode cX6_next 180 = .ok (.getfield 266, 3) := by decide +kernel
theorem dX6_next_183 : decode cX6_next 183 = .ok (.iconst 1, 1) := by decide +kernel
theorem dX6_next_184 : decode cX6_next 184 = .ok (.iadd, 1) := by decide +kernel
theorem dX6_next_185 : decode cX6_next 185 = .ok (.putfield 266, 3) := by decide +kernel
theorem dX6_next_188 : decode cX6_next 188 = .ok (.goto (-57), 3) := by decide +kernel
theorem dX6_next_191 : decode cX6_next 191 = .ok (.aload_n 0, 1) := by decide +kernel
theorem dX6_next_192 : decode cX6_next 192 = .ok (.iconst 3, 1) := by decide +kernel
theorem dX6_next_193 : decode cX6_next 193 = .ok (.putfield 278, 3) := by decide +kernel
theorem dX6_next_196 : decode cX6_next 196 = .ok (.aload_n 0, 1) := by decide +kernel
theorem dX6_next_197 : decode cX6_next 197 = .ok (.dup, 1) := by decide +kernel
theorem dX6_next_198 : decode cX6_next 198 = .ok (.getfield 266, 3) := by decide +kernel
theorem dX6_next_201 : decode cX6_next 201 = .ok (.iconst 1, 1) := by decide +kernel
theorem dX6_next_202 : decode cX6_next 202 = .ok (.iadd, 1) := by decide +kernel
theorem dX6_next_203 : decode cX6_next 203 = .ok (.putfield 266, 3) := by decide +kernel
theorem dX6_next_206 : decode cX6_next 206 = .ok (.return_, 1) := by decide +kernel
theorem dX6_isWord_0 : decode cX6_isWord 0 = .ok (.aload_n 0, 1) := by decide +kernel
theorem dX6_isWord_1 : decode cX6_isWord 1 = .ok (.getfield 278, 3) := by decide +kernel
theorem dX6_isWord_4 : decode cX6_isWord 4 = .ok (.iconst 1, 1) := by decide +kernel
theorem dX6_isWord_5 : decode cX6_isWord 5 = .ok (.if_icmp .ne 23, 3) := by decide +kernel
theorem dX6_isWord_8 : decode cX6_isWord 8 = .ok (.aload_n 0, 1) := by decide +kernel
theorem dX6_isWord_9 : decode cX6_isWord 9 = .ok (.getfield 266, 3) := by decide +kernel
theorem dX6_isWord_12 : decode cX6_isWord 12 = .ok (.aload_n 0, 1) := by decide +kernel
theorem dX6_isWord_13 : decode cX6_isWord 13 = .ok (.getfield 269, 3) := by decide +kernel
theorem dX6_isWord_16 : decode cX6_isWord 16 = .ok (.isub, 1) := by decide +kernel
theorem dX6_isWord_17 : decode cX6_isWord 17 = .ok (.aload_n 1, 1) := by decide +kernel
theorem dX6_isWord_18 : decode cX6_isWord 18 = .ok (.invokevirtual 281, 3) := by decide +kernel
theorem dX6_isWord_21 : decode cX6_isWord 21 = .ok (.if_icmp .ne 7, 3) := by decide +kernel
theorem dX6_isWord_24 : decode cX6_isWord 24 = .ok (.iconst 1, 1) := by decide +kernel
theorem dX6_isWord_25 : decode cX6_isWord 25 = .ok (.goto 4, 3) := by decide +kernel
theorem dX6_isWord_28 : decode cX6_isWord 28 = .ok (.iconst 0, 1) := by decide +kernel
theorem dX6_isWord_29 : decode cX6_isWord 29 = .ok (.istore_n 2, 1) := by decide +kernel
theorem dX6_isWord_30 : decode cX6_isWord 30 = .ok (.iconst 0, 1) := by decide +kernel
theorem dX6_isWord_31 : decode cX6_isWord 31 = .ok (.istore_n 3, 1) := by decide +kernel
theorem dX6_isWord_32 : decode cX6_isWord 32 = .ok (.iload_n 3, 1) := by decide +kernel
theorem dX6_isWord_33 : decode cX6_isWord 33 = .ok (.aload_n 1, 1) := by decide +kernel
theorem dX6_isWord_34 : decode cX6_isWord 34 = .ok (.invokevirtual 281, 3) := by decide +kernel
theorem dX6_isWord_37 : decode cX6_isWord 37 = .ok (.if_icmp .ge 38, 3) := by decide +kernel
theorem dX6_isWord_40 : decode cX6_isWord 40 = .ok (.iload_n 2, 1) := by decide +kernel
theorem dX6_isWord_41 : decode cX6_isWord 41 = .ok (.ifCond .eq 34, 3) := by decide +kernel
theorem dX6_isWord_44 : decode cX6_isWord 44 = .ok (.aload_n 0, 1) := by decide +kernel
theorem dX6_isWord_45 : decode cX6_isWord 45 = .ok (.getfield 32, 3) := by decide +kernel
theorem dX6_isWord_48 : decode cX6_isWord 48 = .ok (.aload_n 0, 1) := by decide +kernel
theorem dX6_isWord_49 : decode cX6_isWord 49 = .ok (.getfield 269, 3) := by decide +kernel
theorem dX6_isWord_52 : decode cX6_isWord 52 = .ok (.iload_n 3, 1) := by decide +kernel
theorem dX6_isWord_53 : decode cX6_isWord 53 = .ok (.iadd, 1) := by decide +kernel
theorem dX6_isWord_54 : decode cX6_isWord 54 = .ok (.iaload, 1) := by decide +kernel
theorem dX6_isWord_55 : decode cX6_isWord 55 = .ok (.aload_n 1, 1) := by decide +kernel
theorem dX6_isWord_56 : decode cX6_isWord 56 = .ok (.iload_n 3, 1) := by decide +kernel
theorem dX6_isWord_57 : decode cX6_isWord 57 = .ok (.invokevirtual 284, 3) := by decide +kernel
theorem dX6_isWord_60 : decode cX6_isWord 60 = .ok (.if_icmp .ne 7, 3) := by decide +kernel
theorem dX6_isWord_63 : decode cX6_isWord 63 = .ok (.iconst 1, 1) := by decide +kernel
theorem dX6_isWord_64 : decode cX6_isWord 64 = .ok (.goto 4, 3) := by decide +kernel
theorem dX6_isWord_67 : decode cX6_isWord 67 = .ok (.iconst 0, 1) := by decide +kernel
theorem dX6_isWord_68 : decode cX6_isWord 68 = .ok (.istore_n 2, 1) := by decide +kernel
theorem dX6_isWord_69 : decode cX6_isWord 69 = .ok (.iinc 3 1, 3) := by decide +kernel
theorem dX6_isWord_72 : decode cX6_isWord 72 = .ok (.goto (-40), 3) := by decide +kernel
theorem dX6_isWord_75 : decode cX6_isWord 75 = .ok (.iload_n 2, 1) := by decide +kernel
theorem dX6_isWord_76 : decode cX6_isWord 76 = .ok (.ireturn, 1) := by decide +kernel
theorem dX6_must_0 : decode cX6_must 0 = .ok (.aload_n 0, 1) := by decide +kernel
theorem dX6_must_1 : decode cX6_must 1 = .ok (.aload_n 0, 1) := by decide +kernel
theorem dX6_must_2 : decode cX6_must 2 = .ok (.getfield 288, 3) := by decide +kernel
theorem dX6_must_5 : decode cX6_must 5 = .ok (.ifCond .ne 7, 3) := by decide +kernel
theorem dX6_must_8 : decode cX6_must 8 = .ok (.iload_n 1, 1) := by decide +kernel
theorem dX6_must_9 : decode cX6_must 9 = .ok (.ifCond .ne 7, 3) := by decide +kernel
theorem dX6_must_12 : decode cX6_must 12 = .ok (.iconst 1, 1) := by decide +kernel
theorem dX6_must_13 : decode cX6_must 13 = .ok (.goto 4, 3) := by decide +kernel
theorem dX6_must_16 : decode cX6_must 16 = .ok (.iconst 0, 1) := by decide +kernel
theorem dX6_must_17 : decode cX6_must 17 = .ok (.putfield 288, 3) := by decide +kernel
theorem dX6_must_20 : decode cX6_must 20 = .ok (.aload_n 0, 1) := by decide +kernel
theorem dX6_must_21 : decode cX6_must 21 = .ok (.getfield 288, 3) := by decide +kernel
theorem dX6_must_24 : decode cX6_must 24 = .ok (.ifCond .ne 7, 3) := by decide +kernel
theorem dX6_must_27 : decode cX6_must 27 = .ok (.aload_n 0, 1) := by decide +kernel
theorem dX6_must_28 : decode cX6_must 28 = .ok (.invokevirtual 292, 3) := by decide +kernel
theorem dX6_must_31 : decode cX6_must 31 = .ok (.return_, 1) := by decide +kernel
theorem dX6_number_0 : decode cX6_number 0 = .ok (.aload_n 0, 1) := by decide +kernel
theorem dX6_number_1 : decode cX6_number 1 = .ok (.getfield 275, 3) := by decide +kernel
theorem dX6_number_4 : decode cX6_number 4 = .ok (.istore_n 3, 1) := by decide +kernel
theorem dX6_number_5 : decode cX6_number 5 = .ok (.aload_n 0, 1) := by decide +kernel
theorem dX6_number_6 : decode cX6_number 6 = .ok (.aload_n 0, 1) := by decide +kernel
theorem dX6_number_7 : decode cX6_number 7 = .ok (.getfield 278, 3) := by decide +kernel
theorem dX6_number_10 : decode cX6_number 10 = .ok (.iconst 2, 1) := by decide +kernel
theorem dX6_number_11 : decode cX6_number 11 = .ok (.if_icmp .ne 16, 3) := by decide +kernel
theorem dX6_number_14 : decode cX6_number 14 = .ok (.iload_n 3, 1) := by decide +kernel
theorem dX6_number_15 : decode cX6_number 15 = .ok (.iload_n 1, 1) := by decide +kernel
theorem dX6_number_16 : decode cX6_number 16 = .ok (.iload_n 2, 1) := by decide +kernel
theorem dX6_number_17 : decode cX6_number 17 = .ok (.invokestatic 75, 3) := by decide +kernel
theorem dX6_number_20 : decode cX6_number 20 = .ok (.ifCond .eq 7, 3) := by decide +kernel
theorem dX6_number_23 : decode cX6_number 23 = .ok (.iconst 1, 1) := by decide +kernel
theorem dX6_number_24 : decode cX6_number 24 = .ok (.goto 4, 3) := by decide +kernel
theorem dX6_number_27 : decode cX6_number 27 = .ok (.iconst 0, 1) := by decide +kernel
theorem dX6_number_28 : decode cX6_number 28 = .ok (.invokevirtual 295, 3) := by decide +kernel
theorem dX6_number_31 : decode cX6_number 31 = .ok (.iload_n 3, 1) := by decide +kernel
theorem dX6_number_32 : decode cX6_number 32 = .ok (.ireturn, 1) := by decide +kernel
theorem dX6_item_0 : decode cX6_item 0 = .ok (.iconst 3, 1) := by decide +kernel
theorem dX6_item_1 : decode cX6_item 1 = .ok (.aload_n 0, 1) := by decide +kernel
theorem dX6_item_2 : decode cX6_item 2 = .ok (.getfield 299, 3) := by decide +kernel
theorem dX6_item_5 : decode cX6_item 5 = .ok (.imul, 1) := by decide +kernel
theorem dX6_item_6 : decode cX6_item 6 = .ok (.istore 4, 2) := by decide +kernel
theorem dX6_item_8 : decode cX6_item 8 = .ok (.aload_n 0, 1) := by decide +kernel
theorem dX6_item_9 : decode cX6_item 9 = .ok (.getfield 55, 3) := by decide +kernel
theorem dX6_item_12 : decode cX6_item 12 = .ok (.iload 4, 2) := by decide +kernel
theorem dX6_item_14 : decode cX6_item 14 = .ok (.iload_n 1, 1) := by decide +kernel
theorem dX6_item_15 : decode cX6_item 15 = .ok (.iastore, 1) := by decide +kernel
theorem dX6_item_16 : decode cX6_item 16 = .ok (.aload_n 0, 1) := by decide +kernel
theorem dX6_item_17 : decode cX6_item 17 = .ok (.getfield 55, 3) := by decide +kernel
theorem dX6_item_20 : decode cX6_item 20 = .ok (.iload 4, 2) := by decide +kernel
theorem dX6_item_22 : decode cX6_item 22 = .ok (.iconst 1, 1) := by decide +kernel
theorem dX6_item_23 : decode cX6_item 23 = .ok (.iadd, 1) := by decide +kernel
theorem dX6_item_24 : decode cX6_item 24 = .ok (.iload_n 2, 1) := by decide +kernel
theorem dX6_item_25 : decode cX6_item 25 = .ok (.iastore, 1) := by decide +kernel
theorem dX6_item_26 : decode cX6_item 26 = .ok (.aload_n 0, 1) := by decide +kernel
theorem dX6_item_27 : decode cX6_item 27 = .ok (.getfield 55, 3) := by decide +kernel
theorem dX6_item_30 : decode cX6_item 30 = .ok (.iload 4, 2) := by decide +kernel
theorem dX6_item_32 : decode cX6_item 32 = .ok (.iconst 2, 1) := by decide +kernel
theorem dX6_item_33 : decode cX6_item 33 = .ok (.iadd, 1) := by decide +kernel
theorem dX6_item_34 : decode cX6_item 34 = .ok (.iload_n 3, 1) := by decide +kernel
theorem dX6_item_35 : decode cX6_item 35 = .ok (.iastore, 1) := by decide +kernel
theorem dX6_item_36 : decode cX6_item 36 = .ok (.aload_n 0, 1) := by decide +kernel
theorem dX6_item_37 : decode cX6_item 37 = .ok (.dup, 1) := by decide +kernel
theorem dX6_item_38 : decode cX6_item 38 = .ok (.getfield 299, 3) := by decide +kernel
theorem dX6_item_41 : decode cX6_item 41 = .ok (.iconst 1, 1) := by decide +kernel
theorem dX6_item_42 : decode cX6_item 42 = .ok (.iadd, 1) := by decide +kernel
theorem dX6_item_43 : decode cX6_item 43 = .ok (.putfield 299, 3) := by decide +kernel
theorem dX6_item_46 : decode cX6_item 46 = .ok (.return_, 1) := by decide +kernel
theorem dX6_kindTold_0 : decode cX6_kindTold 0 = .ok (.iconst (-1), 1) := by decide +kernel
theorem dX6_kindTold_1 : decode cX6_kindTold 1 = .ok (.istore_n 1, 1) := by decide +kernel
theorem dX6_kindTold_2 : decode cX6_kindTold 2 = .ok (.iconst 0, 1) := by decide +kernel
theorem dX6_kindTold_3 : decode cX6_kindTold 3 = .ok (.istore_n 2, 1) := by decide +kernel
theorem dX6_kindTold_4 : decode cX6_kindTold 4 = .ok (.iload_n 2, 1) := by decide +kernel
theorem dX6_kindTold_5 : decode cX6_kindTold 5 = .ok (.aload_n 0, 1) := by decide +kernel
theorem dX6_kindTold_6 : decode cX6_kindTold 6 = .ok (.getfield 51, 3) := by decide +kernel
theorem dX6_kindTold_9 : decode cX6_kindTold 9 = .ok (.arraylength, 1) := by decide +kernel
theorem dX6_kindTold_10 : decode cX6_kindTold 10 = .ok (.if_icmp .ge 28, 3) := by decide +kernel
theorem dX6_kindTold_13 : decode cX6_kindTold 13 = .ok (.aload_n 0, 1) := by decide +kernel
theorem dX6_kindTold_14 : decode cX6_kindTold 14 = .ok (.aload_n 0, 1) := by decide +kernel
theorem dX6_kindTold_15 : decode cX6_kindTold 15 = .ok (.getfield 51, 3) := by decide +kernel
theorem dX6_kindTold_18 : decode cX6_kindTold 18 = .ok (.iload_n 2, 1) := by decide +kernel
theorem dX6_kindTold_19 : decode cX6_kindTold 19 = .ok (.aaload, 1) := by decide +kernel
theorem dX6_kindTold_20 : decode cX6_kindTold 20 = .ok (.invokevirtual 302, 3) := by decide +kernel
theorem dX6_kindTold_23 : decode cX6_kindTold 23 = .ok (.ifCond .eq 7, 3) := by decide +kernel
theorem dX6_kindTold_26 : decode cX6_kindTold 26 = .ok (.iload_n 2, 1) := by decide +kernel
theorem dX6_kindTold_27 : decode cX6_kindTold 27 = .ok (.goto 4, 3) := by decide +kernel
theorem dX6_kindTold_30 : decode cX6_kindTold 30 = .ok (.iload_n 1, 1) := by decide +kernel
theorem dX6_kindTold_31 : decode cX6_kindTold 31 = .ok (.istore_n 1, 1) := by decide +kernel
theorem dX6_kindTold_32 : decode cX6_kindTold 32 = .ok (.iinc 2 1, 3) := by decide +kernel
theorem dX6_kindTold_35 : decode cX6_kindTold 35 = .ok (.goto (-31), 3) := by decide +kernel
theorem dX6_kindTold_38 : decode cX6_kindTold 38 = .ok (.iload_n 1, 1) := by decide +kernel
theorem dX6_kindTold_39 : decode cX6_kindTold 39 = .ok (.ireturn, 1) := by decide +kernel
theorem dX6_isNext_0 : decode cX6_isNext 0 = .ok (.aload_n 0, 1) := by decide +kernel
theorem dX6_isNext_1 : decode cX6_isNext 1 = .ok (.getfield 288, 3) := by decide +kernel
theorem dX6_isNext_4 : decode cX6_isNext 4 = .ok (.ifCond .ne 15, 3) := by decide +kernel
theorem dX6_isNext_7 : decode cX6_isNext 7 = .ok (.aload_n 0, 1) := by decide +kernel
theorem dX6_isNext_8 : decode cX6_isNext 8 = .ok (.aload_n 1, 1) := by decide +kernel
theorem dX6_isNext_9 : decode cX6_isNext 9 = .ok (.invokevirtual 302, 3) := by decide +kernel
theorem dX6_isNext_12 : decode cX6_isNext 12 = .ok (.ifCond .eq 7, 3) := by decide +kernel
theorem dX6_isNext_15 : decode cX6_isNext 15 = .ok (.iconst 1, 1) := by decide +kernel
theorem dX6_isNext_16 : decode cX6_isNext 16 = .ok (.goto 4, 3) := by decide +kernel
theorem dX6_isNext_19 : decode cX6_isNext 19 = .ok (.iconst 0, 1) := by decide +kernel
theorem dX6_isNext_20 : decode cX6_isNext 20 = .ok (.istore_n 2, 1) := by decide +kernel
theorem dX6_isNext_21 : decode cX6_isNext 21 = .ok (.iload_n 2, 1) := by decide +kernel
theorem dX6_isNext_22 : decode cX6_isNext 22 = .ok (.ifCond .eq 8, 3) := by decide +kernel
theorem dX6_isNext_25 : decode cX6_isNext 25 = .ok (.aload_n 0, 1) := by decide +kernel
theorem dX6_isNext_26 : decode cX6_isNext 26 = .ok (.iconst 1, 1) := by decide +kernel
theorem dX6_isNext_27 : decode cX6_isNext 27 = .ok (.invokevirtual 295, 3) := by decide +kernel
theorem dX6_isNext_30 : decode cX6_isNext 30 = .ok (.iload_n 2, 1) := by decide +kernel
theorem dX6_isNext_31 : decode cX6_isNext 31 = .ok (.ireturn, 1) := by decide +kernel
theorem dX6_readItem_0 : decode cX6_readItem 0 = .ok (.aload_n 0, 1) := by decide +kernel
theorem dX6_readItem_1 : decode cX6_readItem 1 = .ok (.invokevirtual 306, 3) := by decide +kernel
theorem dX6_readItem_4 : decode cX6_readItem 4 = .ok (.istore_n 1, 1) := by decide +kernel
theorem dX6_readItem_5 : decode cX6_readItem 5 = .ok (.iload_n 1, 1) := by decide +kernel
theorem dX6_readItem_6 : decode cX6_readItem 6 = .ok (.ifCond .lt 61, 3) := by decide +kernel
theorem dX6_readItem_9 : decode cX6_readItem 9 = .ok (.aload_n 0, 1) := by decide +kernel
theorem dX6_readItem_10 : decode cX6_readItem 10 = .ok (.aload_n 0, 1) := by decide +kernel
theorem dX6_readItem_11 : decode cX6_readItem 11 = .ok (.getfield 309, 3) := by decide +kernel
theorem dX6_readItem_14 : decode cX6_readItem 14 = .ok (.bipush 8, 2) := by decide +kernel
theorem dX6_readItem_16 : decode cX6_readItem 16 = .ok (.if_icmp .ge 7, 3) := by decide +kernel
theorem dX6_readItem_19 : decode cX6_readItem 19 = .ok (.iconst 1, 1) := by decide +kernel
theorem dX6_readItem_20 : decode cX6_readItem 20 = .ok (.goto 4, 3) := by decide +kernel
theorem dX6_readItem_23 : decode cX6_readItem 23 = .ok (.iconst 0, 1) := by decide +kernel
theorem dX6_readItem_24 : decode cX6_readItem 24 = .ok (.invokevirtual 295, 3) := by decide +kernel
theorem dX6_readItem_27 : decode cX6_readItem 27 = .ok (.aload_n 0, 1) := by decide +kernel
theorem dX6_readItem_28 : decode cX6_readItem 28 = .ok (.dup, 1) := by decide +kernel
theorem dX6_readItem_29 : decode cX6_readItem 29 = .ok (.getfield 309, 3) := by decide +kernel
theorem dX6_readItem_32 : decode cX6_readItem 32 = .ok (.iconst 1, 1) := by decide +kernel
theorem dX6_readItem_33 : decode cX6_readItem 33 = .ok (.iadd, 1) := by decide +kernel
theorem dX6_readItem_34 : decode cX6_readItem 34 = .ok (.putfield 309, 3) := by decide +kernel
