theorem dX8_plain_49 : decode cX8_plain 49 = .ok (.iaload, 1) := by decide +kernel
theorem dX8_plain_50 : decode cX8_plain 50 = .ok (.ireturn, 1) := by decide +kernel
theorem dX8_makeTree_0 : decode cX8_makeTree 0 = .ok (.iconst 0, 1) := by decide +kernel
theorem dX8_makeTree_1 : decode cX8_makeTree 1 = .ok (.istore_n 1, 1) := by decide +kernel
theorem dX8_makeTree_2 : decode cX8_makeTree 2 = .ok (.iload_n 1, 1) := by decide +kernel
theorem dX8_makeTree_3 : decode cX8_makeTree 3 = .ok (.aload_n 0, 1) := by decide +kernel
theorem dX8_makeTree_4 : decode cX8_makeTree 4 = .ok (.getfield 117, 3) := by decide +kernel
theorem dX8_makeTree_7 : decode cX8_makeTree 7 = .ok (.if_icmp .ge 23, 3) := by decide +kernel
theorem dX8_makeTree_10 : decode cX8_makeTree 10 = .ok (.aload_n 0, 1) := by decide +kernel
theorem dX8_makeTree_11 : decode cX8_makeTree 11 = .ok (.getfield 83, 3) := by decide +kernel
theorem dX8_makeTree_14 : decode cX8_makeTree 14 = .ok (.iload_n 1, 1) := by decide +kernel
theorem dX8_makeTree_15 : decode cX8_makeTree 15 = .ok (.iconst (-1), 1) := by decide +kernel
theorem dX8_makeTree_16 : decode cX8_makeTree 16 = .ok (.iastore, 1) := by decide +kernel
theorem dX8_makeTree_17 : decode cX8_makeTree 17 = .ok (.aload_n 0, 1) := by decide +kernel
theorem dX8_makeTree_18 : decode cX8_makeTree 18 = .ok (.getfield 80, 3) := by decide +kernel
theorem dX8_makeTree_21 : decode cX8_makeTree 21 = .ok (.iload_n 1, 1) := by decide +kernel
theorem dX8_makeTree_22 : decode cX8_makeTree 22 = .ok (.iconst (-1), 1) := by decide +kernel
theorem dX8_makeTree_23 : decode cX8_makeTree 23 = .ok (.iastore, 1) := by decide +kernel
theorem dX8_makeTree_24 : decode cX8_makeTree 24 = .ok (.iinc 1 1, 3) := by decide +kernel
theorem dX8_makeTree_27 : decode cX8_makeTree 27 = .ok (.goto (-25), 3) := by decide +kernel
theorem dX8_makeTree_30 : decode cX8_makeTree 30 = .ok (.aload_n 0, 1) := by decide +kernel
theorem dX8_makeTree_31 : decode cX8_makeTree 31 = .ok (.getfield 117, 3) := by decide +kernel
theorem dX8_makeTree_34 : decode cX8_makeTree 34 = .ok (.ifCond .ne 5, 3) := by decide +kernel
theorem dX8_makeTree_37 : decode cX8_makeTree 37 = .ok (.iconst 0, 1) := by decide +kernel
theorem dX8_makeTree_38 : decode cX8_makeTree 38 = .ok (.ireturn, 1) := by decide +kernel
theorem dX8_makeTree_39 : decode cX8_makeTree 39 = .ok (.aload_n 0, 1) := by decide +kernel
theorem dX8_makeTree_40 : decode cX8_makeTree 40 = .ok (.getfield 83, 3) := by decide +kernel
theorem dX8_makeTree_43 : decode cX8_makeTree 43 = .ok (.iconst 0, 1) := by decide +kernel
theorem dX8_makeTree_44 : decode cX8_makeTree 44 = .ok (.iconst 0, 1) := by decide +kernel
theorem dX8_makeTree_45 : decode cX8_makeTree 45 = .ok (.iastore, 1) := by decide +kernel
theorem dX8_makeTree_46 : decode cX8_makeTree 46 = .ok (.iconst 0, 1) := by decide +kernel
theorem dX8_makeTree_47 : decode cX8_makeTree 47 = .ok (.istore_n 1, 1) := by decide +kernel
theorem dX8_makeTree_48 : decode cX8_makeTree 48 = .ok (.iload_n 1, 1) := by decide +kernel
theorem dX8_makeTree_49 : decode cX8_makeTree 49 = .ok (.aload_n 0, 1) := by decide +kernel
theorem dX8_makeTree_50 : decode cX8_makeTree 50 = .ok (.getfield 117, 3) := by decide +kernel
theorem dX8_makeTree_53 : decode cX8_makeTree 53 = .ok (.if_icmp .ge 110, 3) := by decide +kernel
theorem dX8_makeTree_56 : decode cX8_makeTree 56 = .ok (.iconst 0, 1) := by decide +kernel
theorem dX8_makeTree_57 : decode cX8_makeTree 57 = .ok (.istore_n 2, 1) := by decide +kernel
theorem dX8_makeTree_58 : decode cX8_makeTree 58 = .ok (.iload_n 2, 1) := by decide +kernel
theorem dX8_makeTree_59 : decode cX8_makeTree 59 = .ok (.aload_n 0, 1) := by decide +kernel
theorem dX8_makeTree_60 : decode cX8_makeTree 60 = .ok (.getfield 124, 3) := by decide +kernel
theorem dX8_makeTree_63 : decode cX8_makeTree 63 = .ok (.if_icmp .ge 94, 3) := by decide +kernel
theorem dX8_makeTree_66 : decode cX8_makeTree 66 = .ok (.iconst 0, 1) := by decide +kernel
theorem dX8_makeTree_67 : decode cX8_makeTree 67 = .ok (.istore_n 3, 1) := by decide +kernel
theorem dX8_makeTree_68 : decode cX8_makeTree 68 = .ok (.iload_n 3, 1) := by decide +kernel
theorem dX8_makeTree_69 : decode cX8_makeTree 69 = .ok (.iconst 2, 1) := by decide +kernel
theorem dX8_makeTree_70 : decode cX8_makeTree 70 = .ok (.if_icmp .ge 81, 3) := by decide +kernel
theorem dX8_makeTree_73 : decode cX8_makeTree 73 = .ok (.iload_n 3, 1) := by decide +kernel
theorem dX8_makeTree_74 : decode cX8_makeTree 74 = .ok (.ifCond .ne 12, 3) := by decide +kernel
theorem dX8_makeTree_77 : decode cX8_makeTree 77 = .ok (.aload_n 0, 1) := by decide +kernel
theorem dX8_makeTree_78 : decode cX8_makeTree 78 = .ok (.getfield 7, 3) := by decide +kernel
theorem dX8_makeTree_81 : decode cX8_makeTree 81 = .ok (.iload_n 2, 1) := by decide +kernel
theorem dX8_makeTree_82 : decode cX8_makeTree 82 = .ok (.iaload, 1) := by decide +kernel
theorem dX8_makeTree_83 : decode cX8_makeTree 83 = .ok (.goto 9, 3) := by decide +kernel
theorem dX8_makeTree_86 : decode cX8_makeTree 86 = .ok (.aload_n 0, 1) := by decide +kernel
theorem dX8_makeTree_87 : decode cX8_makeTree 87 = .ok (.getfield 13, 3) := by decide +kernel
theorem dX8_makeTree_90 : decode cX8_makeTree 90 = .ok (.iload_n 2, 1) := by decide +kernel
theorem dX8_makeTree_91 : decode cX8_makeTree 91 = .ok (.iaload, 1) := by decide +kernel
theorem dX8_makeTree_92 : decode cX8_makeTree 92 = .ok (.istore 4, 2) := by decide +kernel
theorem dX8_makeTree_94 : decode cX8_makeTree 94 = .ok (.aload_n 0, 1) := by decide +kernel
theorem dX8_makeTree_95 : decode cX8_makeTree 95 = .ok (.iload_n 2, 1) := by decide +kernel
theorem dX8_makeTree_96 : decode cX8_makeTree 96 = .ok (.iload 4, 2) := by decide +kernel
theorem dX8_makeTree_98 : decode cX8_makeTree 98 = .ok (.invokevirtual 212, 3) := by decide +kernel
theorem dX8_makeTree_101 : decode cX8_makeTree 101 = .ok (.istore 5, 2) := by decide +kernel
theorem dX8_makeTree_103 : decode cX8_makeTree 103 = .ok (.aload_n 0, 1) := by decide +kernel
theorem dX8_makeTree_104 : decode cX8_makeTree 104 = .ok (.getfield 83, 3) := by decide +kernel
theorem dX8_makeTree_107 : decode cX8_makeTree 107 = .ok (.iload 5, 2) := by decide +kernel
theorem dX8_makeTree_109 : decode cX8_makeTree 109 = .ok (.aload_n 0, 1) := by decide +kernel
theorem dX8_makeTree_110 : decode cX8_makeTree 110 = .ok (.getfield 83, 3) := by decide +kernel
theorem dX8_makeTree_113 : decode cX8_makeTree 113 = .ok (.iload 4, 2) := by decide +kernel
theorem dX8_makeTree_115 : decode cX8_makeTree 115 = .ok (.iaload, 1) := by decide +kernel
theorem dX8_makeTree_116 : decode cX8_makeTree 116 = .ok (.iload_n 1, 1) := by decide +kernel
theorem dX8_makeTree_117 : decode cX8_makeTree 117 = .ok (.if_icmp .ne 20, 3) := by decide +kernel
theorem dX8_makeTree_120 : decode cX8_makeTree 120 = .ok (.aload_n 0, 1) := by decide +kernel
theorem dX8_makeTree_121 : decode cX8_makeTree 121 = .ok (.getfield 83, 3) := by decide +kernel
theorem dX8_makeTree_124 : decode cX8_makeTree 124 = .ok (.iload 5, 2) := by decide +kernel
theorem dX8_makeTree_126 : decode cX8_makeTree 126 = .ok (.iaload, 1) := by decide +kernel
theorem dX8_makeTree_127 : decode cX8_makeTree 127 = .ok (.iconst (-1), 1) := by decide +kernel
theorem dX8_makeTree_128 : decode cX8_makeTree 128 = .ok (.if_icmp .ne 9, 3) := by decide +kernel
theorem dX8_makeTree_131 : decode cX8_makeTree 131 = .ok (.iload_n 1, 1) := by decide +kernel
theorem dX8_makeTree_132 : decode cX8_makeTree 132 = .ok (.iconst 1, 1) := by decide +kernel
theorem dX8_makeTree_133 : decode cX8_makeTree 133 = .ok (.iadd, 1) := by decide +kernel
theorem dX8_makeTree_134 : decode cX8_makeTree 134 = .ok (.goto 10, 3) := by decide +kernel
theorem dX8_makeTree_137 : decode cX8_makeTree 137 = .ok (.aload_n 0, 1) := by decide +kernel
theorem dX8_makeTree_138 : decode cX8_makeTree 138 = .ok (.getfield 83, 3) := by decide +kernel
theorem dX8_makeTree_141 : decode cX8_makeTree 141 = .ok (.iload 5, 2) := by decide +kernel
theorem dX8_makeTree_143 : decode cX8_makeTree 143 = .ok (.iaload, 1) := by decide +kernel
theorem dX8_makeTree_144 : decode cX8_makeTree 144 = .ok (.iastore, 1) := by decide +kernel
theorem dX8_makeTree_145 : decode cX8_makeTree 145 = .ok (.iinc 3 1, 3) := by decide +kernel
theorem dX8_makeTree_148 : decode cX8_makeTree 148 = .ok (.goto (-80), 3) := by decide +kernel
theorem dX8_makeTree_151 : decode cX8_makeTree 151 = .ok (.iinc 2 1, 3) := by decide +kernel
theorem dX8_makeTree_154 : decode cX8_makeTree 154 = .ok (.goto (-96), 3) := by decide +kernel
theorem dX8_makeTree_157 : decode cX8_makeTree 157 = .ok (.iinc 1 1, 3) := by decide +kernel
theorem dX8_makeTree_160 : decode cX8_makeTree 160 = .ok (.goto (-112), 3) := by decide +kernel
theorem dX8_makeTree_163 : decode cX8_makeTree 163 = .ok (.iconst 1, 1) := by decide +kernel
theorem dX8_makeTree_164 : decode cX8_makeTree 164 = .ok (.istore_n 1, 1) := by decide +kernel
theorem dX8_makeTree_165 : decode cX8_makeTree 165 = .ok (.iconst 0, 1) := by decide +kernel
theorem dX8_makeTree_166 : decode cX8_makeTree 166 = .ok (.istore_n 2, 1) := by decide +kernel
theorem dX8_makeTree_167 : decode cX8_makeTree 167 = .ok (.iload_n 2, 1) := by decide +kernel
theorem dX8_makeTree_168 : decode cX8_makeTree 168 = .ok (.aload_n 0, 1) := by decide +kernel
theorem dX8_makeTree_169 : decode cX8_makeTree 169 = .ok (.getfield 117, 3) := by decide +kernel
theorem dX8_makeTree_172 : decode cX8_makeTree 172 = .ok (.if_icmp .ge 98, 3) := by decide +kernel
theorem dX8_makeTree_175 : decode cX8_makeTree 175 = .ok (.iload_n 1, 1) := by decide +kernel
theorem dX8_makeTree_176 : decode cX8_makeTree 176 = .ok (.ifCond .eq 17, 3) := by decide +kernel
theorem dX8_makeTree_179 : decode cX8_makeTree 179 = .ok (.aload_n 0, 1) := by decide +kernel
theorem dX8_makeTree_180 : decode cX8_makeTree 180 = .ok (.getfield 83, 3) := by decide +kernel
theorem dX8_makeTree_183 : decode cX8_makeTree 183 = .ok (.iload_n 2, 1) := by decide +kernel
theorem dX8_makeTree_184 : decode cX8_makeTree 184 = .ok (.iaload, 1) := by decide +kernel
theorem dX8_makeTree_185 : decode cX8_makeTree 185 = .ok (.iconst (-1), 1) := by decide +kernel
theorem dX8_makeTree_186 : decode cX8_makeTree 186 = .ok (.if_icmp .eq 7, 3) := by decide +kernel
theorem dX8_makeTree_189 : decode cX8_makeTree 189 = .ok (.iconst 1, 1) := by decide +kernel
theorem dX8_makeTree_190 : decode cX8_makeTree 190 = .ok (.goto 4, 3) := by decide +kernel
theorem dX8_makeTree_193 : decode cX8_makeTree 193 = .ok (.iconst 0, 1) := by decide +kernel
theorem dX8_makeTree_194 : decode cX8_makeTree 194 = .ok (.istore_n 1, 1) := by decide +kernel
theorem dX8_makeTree_195 : decode cX8_makeTree 195 = .ok (.aload_n 0, 1) := by decide +kernel
theorem dX8_makeTree_196 : decode cX8_makeTree 196 = .ok (.getfield 117, 3) := by decide +kernel
theorem dX8_makeTree_199 : decode cX8_makeTree 199 = .ok (.iconst 1, 1) := by decide +kernel
theorem dX8_makeTree_200 : decode cX8_makeTree 200 = .ok (.isub, 1) := by decide +kernel
theorem dX8_makeTree_201 : decode cX8_makeTree 201 = .ok (.istore_n 3, 1) := by decide +kernel
theorem dX8_makeTree_202 : decode cX8_makeTree 202 = .ok (.iload_n 3, 1) := by decide +kernel
theorem dX8_makeTree_203 : decode cX8_makeTree 203 = .ok (.ifCond .lt 61, 3) := by decide +kernel
theorem dX8_makeTree_206 : decode cX8_makeTree 206 = .ok (.aload_n 0, 1) := by decide +kernel
theorem dX8_makeTree_207 : decode cX8_makeTree 207 = .ok (.getfield 80, 3) := by decide +kernel
theorem dX8_makeTree_210 : decode cX8_makeTree 210 = .ok (.iload_n 2, 1) := by decide +kernel
theorem dX8_makeTree_211 : decode cX8_makeTree 211 = .ok (.aload_n 0, 1) := by decide +kernel
theorem dX8_makeTree_212 : decode cX8_makeTree 212 = .ok (.getfield 83, 3) := by decide +kernel
theorem dX8_makeTree_215 : decode cX8_makeTree 215 = .ok (.iload_n 2, 1) := by decide +kernel
theorem dX8_makeTree_216 : decode cX8_makeTree 216 = .ok (.iaload, 1) := by decide +kernel
theorem dX8_makeTree_217 : decode cX8_makeTree 217 = .ok (.ifCond .le 34, 3) := by decide +kernel
theorem dX8_makeTree_220 : decode cX8_makeTree 220 = .ok (.aload_n 0, 1) := by decide +kernel
theorem dX8_makeTree_221 : decode cX8_makeTree 221 = .ok (.getfield 83, 3) := by decide +kernel
theorem dX8_makeTree_224 : decode cX8_makeTree 224 = .ok (.iload_n 3, 1) := by decide +kernel
theorem dX8_makeTree_225 : decode cX8_makeTree 225 = .ok (.iaload, 1) := by decide +kernel
theorem dX8_makeTree_226 : decode cX8_makeTree 226 = .ok (.aload_n 0, 1) := by decide +kernel
theorem dX8_makeTree_227 : decode cX8_makeTree 227 = .ok (.getfield 83, 3) := by decide +kernel
theorem dX8_makeTree_230 : decode cX8_makeTree 230 = .ok (.iload_n 2, 1) := by decide +kernel
theorem dX8_makeTree_231 : decode cX8_makeTree 231 = .ok (.iaload, 1) := by decide +kernel
theorem dX8_makeTree_232 : decode cX8_makeTree 232 = .ok (.iconst 1, 1) := by decide +kernel
theorem dX8_makeTree_233 : decode cX8_makeTree 233 = .ok (.isub, 1) := by decide +kernel
theorem dX8_makeTree_234 : decode cX8_makeTree 234 = .ok (.if_icmp .ne 17, 3) := by decide +kernel
theorem dX8_makeTree_237 : decode cX8_makeTree 237 = .ok (.aload_n 0, 1) := by decide +kernel
theorem dX8_makeTree_238 : decode cX8_makeTree 238 = .ok (.iload_n 2, 1) := by decide +kernel
theorem dX8_makeTree_239 : decode cX8_makeTree 239 = .ok (.iload_n 3, 1) := by decide +kernel
theorem dX8_makeTree_240 : decode cX8_makeTree 240 = .ok (.invokevirtual 131, 3) := by decide +kernel
theorem dX8_makeTree_243 : decode cX8_makeTree 243 = .ok (.iconst (-1), 1) := by decide +kernel
theorem dX8_makeTree_244 : decode cX8_makeTree 244 = .ok (.if_icmp .eq 7, 3) := by decide +kernel
theorem dX8_makeTree_247 : decode cX8_makeTree 247 = .ok (.iload_n 3, 1) := by decide +kernel
theorem dX8_makeTree_248 : decode cX8_makeTree 248 = .ok (.goto 9, 3) := by decide +kernel
theorem dX8_makeTree_251 : decode cX8_makeTree 251 = .ok (.aload_n 0, 1) := by decide +kernel
theorem dX8_makeTree_252 : decode cX8_makeTree 252 = .ok (.getfield 80, 3) := by decide +kernel
theorem dX8_makeTree_255 : decode cX8_makeTree 255 = .ok (.iload_n 2, 1) := by decide +kernel
theorem dX8_makeTree_256 : decode cX8_makeTree 256 = .ok (.iaload, 1) := by decide +kernel
theorem dX8_makeTree_257 : decode cX8_makeTree 257 = .ok (.iastore, 1) := by decide +kernel
theorem dX8_makeTree_258 : decode cX8_makeTree 258 = .ok (.iinc 3 (-1), 3) := by decide +kernel
theorem dX8_makeTree_261 : decode cX8_makeTree 261 = .ok (.goto (-59), 3) := by decide +kernel
theorem dX8_makeTree_264 : decode cX8_makeTree 264 = .ok (.iinc 2 1, 3) := by decide +kernel
theorem dX8_makeTree_267 : decode cX8_makeTree 267 = .ok (.goto (-100), 3) := by decide +kernel
theorem dX8_makeTree_270 : decode cX8_makeTree 270 = .ok (.iload_n 1, 1) := by decide +kernel
theorem dX8_makeTree_271 : decode cX8_makeTree 271 = .ok (.ireturn, 1) := by decide +kernel
theorem dX8_sizeOf_0 : decode cX8_sizeOf 0 = .ok (.iconst 0, 1) := by decide +kernel
theorem dX8_sizeOf_1 : decode cX8_sizeOf 1 = .ok (.istore_n 2, 1) := by decide +kernel
theorem dX8_sizeOf_2 : decode cX8_sizeOf 2 = .ok (.iconst 0, 1) := by decide +kernel
theorem dX8_sizeOf_3 : decode cX8_sizeOf 3 = .ok (.istore_n 3, 1) := by decide +kernel
theorem dX8_sizeOf_4 : decode cX8_sizeOf 4 = .ok (.iload_n 3, 1) := by decide +kernel
theorem dX8_sizeOf_5 : decode cX8_sizeOf 5 = .ok (.aload_n 0, 1) := by decide +kernel
theorem dX8_sizeOf_6 : decode cX8_sizeOf 6 = .ok (.getfield 117, 3) := by decide +kernel
theorem dX8_sizeOf_9 : decode cX8_sizeOf 9 = .ok (.if_icmp .ge 27, 3) := by decide +kernel
theorem dX8_sizeOf_12 : decode cX8_sizeOf 12 = .ok (.iload_n 2, 1) := by decide +kernel
theorem dX8_sizeOf_13 : decode cX8_sizeOf 13 = .ok (.aload_n 0, 1) := by decide +kernel
theorem dX8_sizeOf_14 : decode cX8_sizeOf 14 = .ok (.getfield 86, 3) := by decide +kernel
theorem dX8_sizeOf_17 : decode cX8_sizeOf 17 = .ok (.iload_n 3, 1) := by decide +kernel
theorem dX8_sizeOf_18 : decode cX8_sizeOf 18 = .ok (.iaload, 1) := by decide +kernel
theorem dX8_sizeOf_19 : decode cX8_sizeOf 19 = .ok (.iload_n 1, 1) := by decide +kernel
theorem dX8_sizeOf_20 : decode cX8_sizeOf 20 = .ok (.if_icmp .ne 7, 3) := by decide +kernel
theorem dX8_sizeOf_23 : decode cX8_sizeOf 23 = .ok (.iconst 1, 1) := by decide +kernel
theorem dX8_sizeOf_24 : decode cX8_sizeOf 24 = .ok (.goto 4, 3) := by decide +kernel
theorem dX8_sizeOf_27 : decode cX8_sizeOf 27 = .ok (.iconst 0, 1) := by decide +kernel
theorem dX8_sizeOf_28 : decode cX8_sizeOf 28 = .ok (.iadd, 1) := by decide +kernel
theorem dX8_sizeOf_29 : decode cX8_sizeOf 29 = .ok (.istore_n 2, 1) := by decide +kernel
theorem dX8_sizeOf_30 : decode cX8_sizeOf 30 = .ok (.iinc 3 1, 3) := by decide +kernel
theorem dX8_sizeOf_33 : decode cX8_sizeOf 33 = .ok (.goto (-29), 3) := by decide +kernel
theorem dX8_sizeOf_36 : decode cX8_sizeOf 36 = .ok (.iload_n 2, 1) := by decide +kernel
theorem dX8_sizeOf_37 : decode cX8_sizeOf 37 = .ok (.ireturn, 1) := by decide +kernel
theorem dX8_markLayer_0 : decode cX8_markLayer 0 = .ok (.iconst 0, 1) := by decide +kernel
theorem dX8_markLayer_1 : decode cX8_markLayer 1 = .ok (.istore_n 2, 1) := by decide +kernel
theorem dX8_markLayer_2 : decode cX8_markLayer 2 = .ok (.iconst 0, 1) := by decide +kernel
theorem dX8_markLayer_3 : decode cX8_markLayer 3 = .ok (.istore_n 3, 1) := by decide +kernel
theorem dX8_markLayer_4 : decode cX8_markLayer 4 = .ok (.iload_n 3, 1) := by decide +kernel
theorem dX8_markLayer_5 : decode cX8_markLayer 5 = .ok (.aload_n 0, 1) := by decide +kernel
theorem dX8_markLayer_6 : decode cX8_markLayer 6 = .ok (.getfield 117, 3) := by decide +kernel
theorem dX8_markLayer_9 : decode cX8_markLayer 9 = .ok (.if_icmp .ge 99, 3) := by decide +kernel
theorem dX8_markLayer_12 : decode cX8_markLayer 12 = .ok (.iconst 0, 1) := by decide +kernel
theorem dX8_markLayer_13 : decode cX8_markLayer 13 = .ok (.istore 4, 2) := by decide +kernel
theorem dX8_markLayer_15 : decode cX8_markLayer 15 = .ok (.iconst 0, 1) := by decide +kernel
theorem dX8_markLayer_16 : decode cX8_markLayer 16 = .ok (.istore 5, 2) := by decide +kernel
theorem dX8_markLayer_18 : decode cX8_markLayer 18 = .ok (.iload 5, 2) := by decide +kernel
theorem dX8_markLayer_20 : decode cX8_markLayer 20 = .ok (.aload_n 0, 1) := by decide +kernel
theorem dX8_markLayer_21 : decode cX8_markLayer 21 = .ok (.getfield 117, 3) := by decide +kernel
theorem dX8_markLayer_24 : decode cX8_markLayer 24 = .ok (.if_icmp .ge 43, 3) := by decide +kernel
theorem dX8_markLayer_27 : decode cX8_markLayer 27 = .ok (.iload 4, 2) := by decide +kernel
theorem dX8_markLayer_29 : decode cX8_markLayer 29 = .ok (.ifCond .ne 25, 3) := by decide +kernel
theorem dX8_markLayer_32 : decode cX8_markLayer 32 = .ok (.aload_n 0, 1) := by decide +kernel
theorem dX8_markLayer_33 : decode cX8_markLayer 33 = .ok (.getfield 86, 3) := by decide +kernel
theorem dX8_markLayer_36 : decode cX8_markLayer 36 = .ok (.iload 5, 2) := by decide +kernel
theorem dX8_markLayer_38 : decode cX8_markLayer 38 = .ok (.iaload, 1) := by decide +kernel
theorem dX8_markLayer_39 : decode cX8_markLayer 39 = .ok (.iload_n 1, 1) := by decide +kernel
theorem dX8_markLayer_40 : decode cX8_markLayer 40 = .ok (.if_icmp .ne 18, 3) := by decide +kernel
theorem dX8_markLayer_43 : decode cX8_markLayer 43 = .ok (.aload_n 0, 1) := by decide +kernel
theorem dX8_markLayer_44 : decode cX8_markLayer 44 = .ok (.iload_n 3, 1) := by decide +kernel
theorem dX8_markLayer_45 : decode cX8_markLayer 45 = .ok (.iload 5, 2) := by decide +kernel
theorem dX8_markLayer_47 : decode cX8_markLayer 47 = .ok (.invokevirtual 131, 3) := by decide +kernel
theorem dX8_markLayer_50 : decode cX8_markLayer 50 = .ok (.iconst (-1), 1) := by decide +kernel
theorem dX8_markLayer_51 : decode cX8_markLayer 51 = .ok (.if_icmp .eq 7, 3) := by decide +kernel
theorem dX8_markLayer_54 : decode cX8_markLayer 54 = .ok (.iconst 1, 1) := by decide +kernel
theorem dX8_markLayer_55 : decode cX8_markLayer 55 = .ok (.goto 4, 3) := by decide +kernel
theorem dX8_markLayer_58 : decode cX8_markLayer 58 = .ok (.iconst 0, 1) := by decide +kernel
theorem dX8_markLayer_59 : decode cX8_markLayer 59 = .ok (.istore 4, 2) := by decide +kernel
theorem dX8_markLayer_61 : decode cX8_markLayer 61 = .ok (.iinc 5 1, 3) := by decide +kernel
theorem dX8_markLayer_64 : decode cX8_markLayer 64 = .ok (.goto (-46), 3) := by decide +kernel
theorem dX8_markLayer_67 : decode cX8_markLayer 67 = .ok (.aload_n 0, 1) := by decide +kernel
theorem dX8_markLayer_68 : decode cX8_markLayer 68 = .ok (.getfield 98, 3) := by decide +kernel
theorem dX8_markLayer_71 : decode cX8_markLayer 71 = .ok (.iload_n 3, 1) := by decide +kernel
theorem dX8_markLayer_72 : decode cX8_markLayer 72 = .ok (.aload_n 0, 1) := by decide +kernel
theorem dX8_markLayer_73 : decode cX8_markLayer 73 = .ok (.getfield 86, 3) := by decide +kernel
theorem dX8_markLayer_76 : decode cX8_markLayer 76 = .ok (.iload_n 3, 1) := by decide +kernel
theorem dX8_markLayer_77 : decode cX8_markLayer 77 = .ok (.iaload, 1) := by decide +kernel
theorem dX8_markLayer_78 : decode cX8_markLayer 78 = .ok (.iconst (-1), 1) := by decide +kernel
theorem dX8_markLayer_79 : decode cX8_markLayer 79 = .ok (.if_icmp .ne 12, 3) := by decide +kernel
theorem dX8_markLayer_82 : decode cX8_markLayer 82 = .ok (.iload 4, 2) := by decide +kernel
theorem dX8_markLayer_84 : decode cX8_markLayer 84 = .ok (.ifCond .eq 7, 3) := by decide +kernel
theorem dX8_markLayer_87 : decode cX8_markLayer 87 = .ok (.iconst 1, 1) := by decide +kernel
theorem dX8_markLayer_88 : decode cX8_markLayer 88 = .ok (.goto 4, 3) := by decide +kernel
theorem dX8_markLayer_91 : decode cX8_markLayer 91 = .ok (.iconst 0, 1) := by decide +kernel
theorem dX8_markLayer_92 : decode cX8_markLayer 92 = .ok (.iastore, 1) := by decide +kernel
theorem dX8_markLayer_93 : decode cX8_markLayer 93 = .ok (.iload_n 2, 1) := by decide +kernel
theorem dX8_markLayer_94 : decode cX8_markLayer 94 = .ok (.aload_n 0, 1) := by decide +kernel
theorem dX8_markLayer_95 : decode cX8_markLayer 95 = .ok (.getfield 98, 3) := by decide +kernel
theorem dX8_markLayer_98 : decode cX8_markLayer 98 = .ok (.iload_n 3, 1) := by decide +kernel
theorem dX8_markLayer_99 : decode cX8_markLayer 99 = .ok (.iaload, 1) := by decide +kernel
theorem dX8_markLayer_100 : decode cX8_markLayer 100 = .ok (.iadd, 1) := by decide +kernel
theorem dX8_markLayer_101 : decode cX8_markLayer 101 = .ok (.istore_n 2, 1) := by decide +kernel
theorem dX8_markLayer_102 : decode cX8_markLayer 102 = .ok (.iinc 3 1, 3) := by decide +kernel
theorem dX8_markLayer_105 : decode cX8_markLayer 105 = .ok (.goto (-101), 3) := by decide +kernel
theorem dX8_markLayer_108 : decode cX8_markLayer 108 = .ok (.iload_n 2, 1) := by decide +kernel
theorem dX8_markLayer_109 : decode cX8_markLayer 109 = .ok (.ireturn, 1) := by decide +kernel
theorem dX8_makeCluster_0 : decode cX8_makeCluster 0 = .ok (.aload_n 0, 1) := by decide +kernel
theorem dX8_makeCluster_1 : decode cX8_makeCluster 1 = .ok (.getfield 215, 3) := by decide +kernel
theorem dX8_makeCluster_4 : decode cX8_makeCluster 4 = .ok (.istore_n 3, 1) := by decide +kernel
theorem dX8_makeCluster_5 : decode cX8_makeCluster 5 = .ok (.aload_n 0, 1) := by decide +kernel
theorem dX8_makeCluster_6 : decode cX8_makeCluster 6 = .ok (.getfield 86, 3) := by decide +kernel
theorem dX8_makeCluster_9 : decode cX8_makeCluster 9 = .ok (.iload_n 1, 1) := by decide +kernel
theorem dX8_makeCluster_10 : decode cX8_makeCluster 10 = .ok (.iload_n 3, 1) := by decide +kernel
theorem dX8_makeCluster_11 : decode cX8_makeCluster 11 = .ok (.iastore, 1) := by decide +kernel
theorem dX8_makeCluster_12 : decode cX8_makeCluster 12 = .ok (.aload_n 0, 1) := by decide +kernel
theorem dX8_makeCluster_13 : decode cX8_makeCluster 13 = .ok (.getfield 92, 3) := by decide +kernel
theorem dX8_makeCluster_16 : decode cX8_makeCluster 16 = .ok (.iload_n 1, 1) := by decide +kernel
theorem dX8_makeCluster_17 : decode cX8_makeCluster 17 = .ok (.iconst 0, 1) := by decide +kernel
theorem dX8_makeCluster_18 : decode cX8_makeCluster 18 = .ok (.iastore, 1) := by decide +kernel
theorem dX8_makeCluster_19 : decode cX8_makeCluster 19 = .ok (.aload_n 0, 1) := by decide +kernel
theorem dX8_makeCluster_20 : decode cX8_makeCluster 20 = .ok (.getfield 89, 3) := by decide +kernel
theorem dX8_makeCluster_23 : decode cX8_makeCluster 23 = .ok (.iload_n 1, 1) := by decide +kernel
theorem dX8_makeCluster_24 : decode cX8_makeCluster 24 = .ok (.iconst (-1), 1) := by decide +kernel
theorem dX8_makeCluster_25 : decode cX8_makeCluster 25 = .ok (.iastore, 1) := by decide +kernel
theorem dX8_makeCluster_26 : decode cX8_makeCluster 26 = .ok (.iconst 0, 1) := by decide +kernel
theorem dX8_makeCluster_27 : decode cX8_makeCluster 27 = .ok (.istore 4, 2) := by decide +kernel
theorem dX8_makeCluster_29 : decode cX8_makeCluster 29 = .ok (.aload_n 0, 1) := by decide +kernel
theorem dX8_makeCluster_30 : decode cX8_makeCluster 30 = .ok (.iload_n 3, 1) := by decide +kernel
theorem dX8_makeCluster_31 : decode cX8_makeCluster 31 = .ok (.invokevirtual 218, 3) := by decide +kernel
theorem dX8_makeCluster_34 : decode cX8_makeCluster 34 = .ok (.istore 5, 2) := by decide +kernel
theorem dX8_makeCluster_36 : decode cX8_makeCluster 36 = .ok (.iload 5, 2) := by decide +kernel
theorem dX8_makeCluster_38 : decode cX8_makeCluster 38 = .ok (.ifCond .le 190, 3) := by decide +kernel
theorem dX8_makeCluster_41 : decode cX8_makeCluster 41 = .ok (.iload 5, 2) := by decide +kernel
theorem dX8_makeCluster_43 : decode cX8_makeCluster 43 = .ok (.iload_n 2, 1) := by decide +kernel
theorem dX8_makeCluster_44 : decode cX8_makeCluster 44 = .ok (.iconst 1, 1) := by decide +kernel
theorem dX8_makeCluster_45 : decode cX8_makeCluster 45 = .ok (.isub, 1) := by decide +kernel
theorem dX8_makeCluster_46 : decode cX8_makeCluster 46 = .ok (.aload_n 0, 1) := by decide +kernel
theorem dX8_makeCluster_47 : decode cX8_makeCluster 47 = .ok (.iload_n 3, 1) := by decide +kernel
theorem dX8_makeCluster_48 : decode cX8_makeCluster 48 = .ok (.invokevirtual 221, 3) := by decide +kernel
theorem dX8_makeCluster_51 : decode cX8_makeCluster 51 = .ok (.imul, 1) := by decide +kernel
theorem dX8_makeCluster_52 : decode cX8_makeCluster 52 = .ok (.if_icmp .lt 176, 3) := by decide +kernel
theorem dX8_makeCluster_55 : decode cX8_makeCluster 55 = .ok (.iinc 4 1, 3) := by decide +kernel
theorem dX8_makeCluster_58 : decode cX8_makeCluster 58 = .ok (.iconst 0, 1) := by decide +kernel
theorem dX8_makeCluster_59 : decode cX8_makeCluster 59 = .ok (.istore 6, 2) := by decide +kernel
theorem dX8_makeCluster_61 : decode cX8_makeCluster 61 = .ok (.iload 6, 2) := by decide +kernel
theorem dX8_makeCluster_63 : decode cX8_makeCluster 63 = .ok (.aload_n 0, 1) := by decide +kernel
theorem dX8_makeCluster_64 : decode cX8_makeCluster 64 = .ok (.getfield 117, 3) := by decide +kernel
theorem dX8_makeCluster_67 : decode cX8_makeCluster 67 = .ok (.if_icmp .ge 104, 3) := by decide +kernel
theorem dX8_makeCluster_70 : decode cX8_makeCluster 70 = .ok (.aload_n 0, 1) := by decide +kernel
theorem dX8_makeCluster_71 : decode cX8_makeCluster 71 = .ok (.getfield 98, 3) := by decide +kernel
theorem dX8_makeCluster_74 : decode cX8_makeCluster 74 = .ok (.iload 6, 2) := by decide +kernel
theorem dX8_makeCluster_76 : decode cX8_makeCluster 76 = .ok (.iaload, 1) := by decide +kernel
theorem dX8_makeCluster_77 : decode cX8_makeCluster 77 = .ok (.iconst 1, 1) := by decide +kernel
theorem dX8_makeCluster_78 : decode cX8_makeCluster 78 = .ok (.if_icmp .ne 87, 3) := by decide +kernel
theorem dX8_makeCluster_81 : decode cX8_makeCluster 81 = .ok (.aload_n 0, 1) := by decide +kernel
theorem dX8_makeCluster_82 : decode cX8_makeCluster 82 = .ok (.getfield 92, 3) := by decide +kernel
theorem dX8_makeCluster_85 : decode cX8_makeCluster 85 = .ok (.iload 6, 2) := by decide +kernel
theorem dX8_makeCluster_87 : decode cX8_makeCluster 87 = .ok (.iload 4, 2) := by decide +kernel
theorem dX8_makeCluster_89 : decode cX8_makeCluster 89 = .ok (.iastore, 1) := by decide +kernel
theorem dX8_makeCluster_90 : decode cX8_makeCluster 90 = .ok (.aload_n 0, 1) := by decide +kernel
theorem dX8_makeCluster_91 : decode cX8_makeCluster 91 = .ok (.getfield 117, 3) := by decide +kernel
theorem dX8_makeCluster_94 : decode cX8_makeCluster 94 = .ok (.iconst 1, 1) := by decide +kernel
theorem dX8_makeCluster_95 : decode cX8_makeCluster 95 = .ok (.isub, 1) := by decide +kernel
theorem dX8_makeCluster_96 : decode cX8_makeCluster 96 = .ok (.istore 7, 2) := by decide +kernel
theorem dX8_makeCluster_98 : decode cX8_makeCluster 98 = .ok (.iload 7, 2) := by decide +kernel
theorem dX8_makeCluster_100 : decode cX8_makeCluster 100 = .ok (.ifCond .lt 65, 3) := by decide +kernel
theorem dX8_makeCluster_103 : decode cX8_makeCluster 103 = .ok (.aload_n 0, 1) := by decide +kernel
theorem dX8_makeCluster_104 : decode cX8_makeCluster 104 = .ok (.getfield 89, 3) := by decide +kernel
theorem dX8_makeCluster_107 : decode cX8_makeCluster 107 = .ok (.iload 6, 2) := by decide +kernel
theorem dX8_makeCluster_109 : decode cX8_makeCluster 109 = .ok (.aload_n 0, 1) := by decide +kernel
theorem dX8_makeCluster_110 : decode cX8_makeCluster 110 = .ok (.getfield 86, 3) := by decide +kernel
theorem dX8_makeCluster_113 : decode cX8_makeCluster 113 = .ok (.iload 7, 2) := by decide +kernel
theorem dX8_makeCluster_115 : decode cX8_makeCluster 115 = .ok (.iaload, 1) := by decide +kernel
theorem dX8_makeCluster_116 : decode cX8_makeCluster 116 = .ok (.iload_n 3, 1) := by decide +kernel
theorem dX8_makeCluster_117 : decode cX8_makeCluster 117 = .ok (.if_icmp .ne 34, 3) := by decide +kernel
theorem dX8_makeCluster_120 : decode cX8_makeCluster 120 = .ok (.aload_n 0, 1) := by decide +kernel
theorem dX8_makeCluster_121 : decode cX8_makeCluster 121 = .ok (.getfield 92, 3) := by decide +kernel
theorem dX8_makeCluster_124 : decode cX8_makeCluster 124 = .ok (.iload 7, 2) := by decide +kernel
theorem dX8_makeCluster_126 : decode cX8_makeCluster 126 = .ok (.iaload, 1) := by decide +kernel
theorem dX8_makeCluster_127 : decode cX8_makeCluster 127 = .ok (.iload 4, 2) := by decide +kernel
theorem dX8_makeCluster_129 : decode cX8_makeCluster 129 = .ok (.iconst 1, 1) := by decide +kernel
theorem dX8_makeCluster_130 : decode cX8_makeCluster 130 = .ok (.isub, 1) := by decide +kernel
theorem dX8_makeCluster_131 : decode cX8_makeCluster 131 = .ok (.if_icmp .ne 20, 3) := by decide +kernel
theorem dX8_makeCluster_134 : decode cX8_makeCluster 134 = .ok (.aload_n 0, 1) := by decide +kernel
theorem dX8_makeCluster_135 : decode cX8_makeCluster 135 = .ok (.iload 6, 2) := by decide +kernel
theorem dX8_makeCluster_137 : decode cX8_makeCluster 137 = .ok (.iload 7, 2) := by decide +kernel
theorem dX8_makeCluster_139 : decode cX8_makeCluster 139 = .ok (.invokevirtual 131, 3) := by decide +kernel
theorem dX8_makeCluster_142 : decode cX8_makeCluster 142 = .ok (.iconst (-1), 1) := by decide +kernel
theorem dX8_makeCluster_143 : decode cX8_makeCluster 143 = .ok (.if_icmp .eq 8, 3) := by decide +kernel
theorem dX8_makeCluster_146 : decode cX8_makeCluster 146 = .ok (.iload 7, 2) := by decide +kernel
theorem dX8_makeCluster_148 : decode cX8_makeCluster 148 = .ok (.goto 10, 3) := by decide +kernel
theorem dX8_makeCluster_151 : decode cX8_makeCluster 151 = .ok (.aload_n 0, 1) := by decide +kernel
theorem dX8_makeCluster_152 : decode cX8_makeCluster 152 = .ok (.getfield 89, 3) := by decide +kernel
theorem dX8_makeCluster_155 : decode cX8_makeCluster 155 = .ok (.iload 6, 2) := by decide +kernel
theorem dX8_makeCluster_157 : decode cX8_makeCluster 157 = .ok (.iaload, 1) := by decide +kernel
theorem dX8_makeCluster_158 : decode cX8_makeCluster 158 = .ok (.iastore, 1) := by decide +kernel
theorem dX8_makeCluster_159 : decode cX8_makeCluster 159 = .ok (.iinc 7 (-1), 3) := by decide +kernel
theorem dX8_makeCluster_162 : decode cX8_makeCluster 162 = .ok (.goto (-64), 3) := by decide +kernel
theorem dX8_makeCluster_165 : decode cX8_makeCluster 165 = .ok (.iinc 6 1, 3) := by decide +kernel
theorem dX8_makeCluster_168 : decode cX8_makeCluster 168 = .ok (.goto (-107), 3) := by decide +kernel
theorem dX8_makeCluster_171 : decode cX8_makeCluster 171 = .ok (.iconst 0, 1) := by decide +kernel
theorem dX8_makeCluster_172 : decode cX8_makeCluster 172 = .ok (.istore 6, 2) := by decide +kernel
theorem dX8_makeCluster_174 : decode cX8_makeCluster 174 = .ok (.iload 6, 2) := by decide +kernel
theorem dX8_makeCluster_176 : decode cX8_makeCluster 176 = .ok (.aload_n 0, 1) := by decide +kernel
theorem dX8_makeCluster_177 : decode cX8_makeCluster 177 = .ok (.getfield 117, 3) := by decide +kernel
theorem dX8_makeCluster_180 : decode cX8_makeCluster 180 = .ok (.if_icmp .ge 38, 3) := by decide +kernel
theorem dX8_makeCluster_183 : decode cX8_makeCluster 183 = .ok (.aload_n 0, 1) := by decide +kernel
theorem dX8_makeCluster_184 : decode cX8_makeCluster 184 = .ok (.getfield 86, 3) := by decide +kernel
theorem dX8_makeCluster_187 : decode cX8_makeCluster 187 = .ok (.iload 6, 2) := by decide +kernel
theorem dX8_makeCluster_189 : decode cX8_makeCluster 189 = .ok (.aload_n 0, 1) := by decide +kernel
theorem dX8_makeCluster_190 : decode cX8_makeCluster 190 = .ok (.getfield 98, 3) := by decide +kernel
theorem dX8_makeCluster_193 : decode cX8_makeCluster 193 = .ok (.iload 6, 2) := by decide +kernel
theorem dX8_makeCluster_195 : decode cX8_makeCluster 195 = .ok (.iaload, 1) := by decide +kernel
theorem dX8_makeCluster_196 : decode cX8_makeCluster 196 = .ok (.iconst 1, 1) := by decide +kernel
theorem dX8_makeCluster_197 : decode cX8_makeCluster 197 = .ok (.if_icmp .ne 7, 3) := by decide +kernel
theorem dX8_makeCluster_200 : decode cX8_makeCluster 200 = .ok (.iload_n 3, 1) := by decide +kernel
theorem dX8_makeCluster_201 : decode cX8_makeCluster 201 = .ok (.goto 10, 3) := by decide +kernel
theorem dX8_makeCluster_204 : decode cX8_makeCluster 204 = .ok (.aload_n 0, 1) := by decide +kernel
theorem dX8_makeCluster_205 : decode cX8_makeCluster 205 = .ok (.getfield 86, 3) := by decide +kernel
theorem dX8_makeCluster_208 : decode cX8_makeCluster 208 = .ok (.iload 6, 2) := by decide +kernel
theorem dX8_makeCluster_210 : decode cX8_makeCluster 210 = .ok (.iaload, 1) := by decide +kernel
theorem dX8_makeCluster_211 : decode cX8_makeCluster 211 = .ok (.iastore, 1) := by decide +kernel
theorem dX8_makeCluster_212 : decode cX8_makeCluster 212 = .ok (.iinc 6 1, 3) := by decide +kernel
theorem dX8_makeCluster_215 : decode cX8_makeCluster 215 = .ok (.goto (-41), 3) := by decide +kernel
theorem dX8_makeCluster_218 : decode cX8_makeCluster 218 = .ok (.aload_n 0, 1) := by decide +kernel
theorem dX8_makeCluster_219 : decode cX8_makeCluster 219 = .ok (.iload_n 3, 1) := by decide +kernel
theorem dX8_makeCluster_220 : decode cX8_makeCluster 220 = .ok (.invokevirtual 218, 3) := by decide +kernel
theorem dX8_makeCluster_223 : decode cX8_makeCluster 223 = .ok (.istore 5, 2) := by decide +kernel
theorem dX8_makeCluster_225 : decode cX8_makeCluster 225 = .ok (.goto (-189), 3) := by decide +kernel
theorem dX8_makeCluster_228 : decode cX8_makeCluster 228 = .ok (.aload_n 0, 1) := by decide +kernel
theorem dX8_makeCluster_229 : decode cX8_makeCluster 229 = .ok (.dup, 1) := by decide +kernel
theorem dX8_makeCluster_230 : decode cX8_makeCluster 230 = .ok (.getfield 215, 3) := by decide +kernel
theorem dX8_makeCluster_233 : decode cX8_makeCluster 233 = .ok (.iconst 1, 1) := by decide +kernel
theorem dX8_makeCluster_234 : decode cX8_makeCluster 234 = .ok (.iadd, 1) := by decide +kernel
theorem dX8_makeCluster_235 : decode cX8_makeCluster 235 = .ok (.putfield 215, 3) := by decide +kernel
theorem dX8_makeCluster_238 : decode cX8_makeCluster 238 = .ok (.return_, 1) := by decide +kernel
theorem dX8_chosenLink_0 : decode cX8_chosenLink 0 = .ok (.iconst (-1), 1) := by decide +kernel
theorem dX8_chosenLink_1 : decode cX8_chosenLink 1 = .ok (.istore_n 3, 1) := by decide +kernel
theorem dX8_chosenLink_2 : decode cX8_chosenLink 2 = .ok (.aload_n 0, 1) := by decide +kernel
theorem dX8_chosenLink_3 : decode cX8_chosenLink 3 = .ok (.getfield 124, 3) := by decide +kernel
theorem dX8_chosenLink_6 : decode cX8_chosenLink 6 = .ok (.iconst 1, 1) := by decide +kernel
theorem dX8_chosenLink_7 : decode cX8_chosenLink 7 = .ok (.isub, 1) := by decide +kernel
theorem dX8_chosenLink_8 : decode cX8_chosenLink 8 = .ok (.istore 4, 2) := by decide +kernel
theorem dX8_chosenLink_10 : decode cX8_chosenLink 10 = .ok (.iload 4, 2) := by decide +kernel
theorem dX8_chosenLink_12 : decode cX8_chosenLink 12 = .ok (.ifCond .lt 73, 3) := by decide +kernel
theorem dX8_chosenLink_15 : decode cX8_chosenLink 15 = .ok (.aload_n 0, 1) := by decide +kernel
theorem dX8_chosenLink_16 : decode cX8_chosenLink 16 = .ok (.getfield 86, 3) := by decide +kernel
theorem dX8_chosenLink_19 : decode cX8_chosenLink 19 = .ok (.aload_n 0, 1) := by decide +kernel
theorem dX8_chosenLink_20 : decode cX8_chosenLink 20 = .ok (.getfield 7, 3) := by decide +kernel
theorem dX8_chosenLink_23 : decode cX8_chosenLink 23 = .ok (.iload 4, 2) := by decide +kernel
theorem dX8_chosenLink_25 : decode cX8_chosenLink 25 = .ok (.iaload, 1) := by decide +kernel
theorem dX8_chosenLink_26 : decode cX8_chosenLink 26 = .ok (.iaload, 1) := by decide +kernel
theorem dX8_chosenLink_27 : decode cX8_chosenLink 27 = .ok (.istore 5, 2) := by decide +kernel
theorem dX8_chosenLink_29 : decode cX8_chosenLink 29 = .ok (.aload_n 0, 1) := by decide +kernel
theorem dX8_chosenLink_30 : decode cX8_chosenLink 30 = .ok (.getfield 86, 3) := by decide +kernel
theorem dX8_chosenLink_33 : decode cX8_chosenLink 33 = .ok (.aload_n 0, 1) := by decide +kernel
theorem dX8_chosenLink_34 : decode cX8_chosenLink 34 = .ok (.getfield 13, 3) := by decide +kernel
theorem dX8_chosenLink_37 : decode cX8_chosenLink 37 = .ok (.iload 4, 2) := by decide +kernel
theorem dX8_chosenLink_39 : decode cX8_chosenLink 39 = .ok (.iaload, 1) := by decide +kernel
theorem dX8_chosenLink_40 : decode cX8_chosenLink 40 = .ok (.iaload, 1) := by decide +kernel
theorem dX8_chosenLink_41 : decode cX8_chosenLink 41 = .ok (.istore 6, 2) := by decide +kernel
theorem dX8_chosenLink_43 : decode cX8_chosenLink 43 = .ok (.iload_n 1, 1) := by decide +kernel
theorem dX8_chosenLink_44 : decode cX8_chosenLink 44 = .ok (.iload_n 2, 1) := by decide +kernel
theorem dX8_chosenLink_45 : decode cX8_chosenLink 45 = .ok (.if_icmp .eq 32, 3) := by decide +kernel
theorem dX8_chosenLink_48 : decode cX8_chosenLink 48 = .ok (.iload 5, 2) := by decide +kernel
theorem dX8_chosenLink_50 : decode cX8_chosenLink 50 = .ok (.iload_n 1, 1) := by decide +kernel
theorem dX8_chosenLink_51 : decode cX8_chosenLink 51 = .ok (.if_icmp .ne 9, 3) := by decide +kernel
theorem dX8_chosenLink_54 : decode cX8_chosenLink 54 = .ok (.iload 6, 2) := by decide +kernel
theorem dX8_chosenLink_56 : decode cX8_chosenLink 56 = .ok (.iload_n 2, 1) := by decide +kernel
theorem dX8_chosenLink_57 : decode cX8_chosenLink 57 = .ok (.if_icmp .eq 15, 3) := by decide +kernel
theorem dX8_chosenLink_60 : decode cX8_chosenLink 60 = .ok (.iload 5, 2) := by decide +kernel
theorem dX8_chosenLink_62 : decode cX8_chosenLink 62 = .ok (.iload_n 2, 1) := by decide +kernel
theorem dX8_chosenLink_63 : decode cX8_chosenLink 63 = .ok (.if_icmp .ne 14, 3) := by decide +kernel
theorem dX8_chosenLink_66 : decode cX8_chosenLink 66 = .ok (.iload 6, 2) := by decide +kernel
theorem dX8_chosenLink_68 : decode cX8_chosenLink 68 = .ok (.iload_n 1, 1) := by decide +kernel
theorem dX8_chosenLink_69 : decode cX8_chosenLink 69 = .ok (.if_icmp .ne 8, 3) := by decide +kernel
theorem dX8_chosenLink_72 : decode cX8_chosenLink 72 = .ok (.iload 4, 2) := by decide +kernel
theorem dX8_chosenLink_74 : decode cX8_chosenLink 74 = .ok (.goto 4, 3) := by decide +kernel
theorem dX8_chosenLink_77 : decode cX8_chosenLink 77 = .ok (.iload_n 3, 1) := by decide +kernel
theorem dX8_chosenLink_78 : decode cX8_chosenLink 78 = .ok (.istore_n 3, 1) := by decide +kernel
theorem dX8_chosenLink_79 : decode cX8_chosenLink 79 = .ok (.iinc 4 (-1), 3) := by decide +kernel
theorem dX8_chosenLink_82 : decode cX8_chosenLink 82 = .ok (.goto (-72), 3) := by decide +kernel
theorem dX8_chosenLink_85 : decode cX8_chosenLink 85 = .ok (.iload_n 3, 1) := by decide +kernel
theorem dX8_chosenLink_86 : decode cX8_chosenLink 86 = .ok (.ireturn, 1) := by decide +kernel
theorem dX8_makeClusters_0 : decode cX8_makeClusters 0 = .ok (.aload_n 0, 1) := by decide +kernel
theorem dX8_makeClusters_1 : decode cX8_makeClusters 1 = .ok (.iconst 0, 1) := by decide +kernel
theorem dX8_makeClusters_2 : decode cX8_makeClusters 2 = .ok (.putfield 215, 3) := by decide +kernel
theorem dX8_makeClusters_5 : decode cX8_makeClusters 5 = .ok (.iconst 0, 1) := by decide +kernel
theorem dX8_makeClusters_6 : decode cX8_makeClusters 6 = .ok (.istore_n 2, 1) := by decide +kernel
theorem dX8_makeClusters_7 : decode cX8_makeClusters 7 = .ok (.iload_n 2, 1) := by decide +kernel
theorem dX8_makeClusters_8 : decode cX8_makeClusters 8 = .ok (.aload_n 0, 1) := by decide +kernel
theorem dX8_makeClusters_9 : decode cX8_makeClusters 9 = .ok (.getfield 117, 3) := by decide +kernel
theorem dX8_makeClusters_12 : decode cX8_makeClusters 12 = .ok (.if_icmp .ge 23, 3) := by decide +kernel
theorem dX8_makeClusters_15 : decode cX8_makeClusters 15 = .ok (.aload_n 0, 1) := by decide +kernel
theorem dX8_makeClusters_16 : decode cX8_makeClusters 16 = .ok (.getfield 86, 3) := by decide +kernel
theorem dX8_makeClusters_19 : decode cX8_makeClusters 19 = .ok (.iload_n 2, 1) := by decide +kernel
theorem dX8_makeClusters_20 : decode cX8_makeClusters 20 = .ok (.iconst (-1), 1) := by decide +kernel
theorem dX8_makeClusters_21 : decode cX8_makeClusters 21 = .ok (.iastore, 1) := by decide +kernel
theorem dX8_makeClusters_22 : decode cX8_makeClusters 22 = .ok (.aload_n 0, 1) := by decide +kernel
theorem dX8_makeClusters_23 : decode cX8_makeClusters 23 = .ok (.getfield 89, 3) := by decide +kernel
theorem dX8_makeClusters_26 : decode cX8_makeClusters 26 = .ok (.iload_n 2, 1) := by decide +kernel
theorem dX8_makeClusters_27 : decode cX8_makeClusters 27 = .ok (.iconst (-1), 1) := by decide +kernel
theorem dX8_makeClusters_28 : decode cX8_makeClusters 28 = .ok (.iastore, 1) := by decide +kernel
theorem dX8_makeClusters_29 : decode cX8_makeClusters 29 = .ok (.iinc 2 1, 3) := by decide +kernel
theorem dX8_makeClusters_32 : decode cX8_makeClusters 32 = .ok (.goto (-25), 3) := by decide +kernel
theorem dX8_makeClusters_35 : decode cX8_makeClusters 35 = .ok (.iconst 0, 1) := by decide +kernel
theorem dX8_makeClusters_36 : decode cX8_makeClusters 36 = .ok (.istore_n 2, 1) := by decide +kernel
theorem dX8_makeClusters_37 : decode cX8_makeClusters 37 = .ok (.iload_n 2, 1) := by decide +kernel
theorem dX8_makeClusters_38 : decode cX8_makeClusters 38 = .ok (.aload_n 0, 1) := by decide +kernel
theorem dX8_makeClusters_39 : decode cX8_makeClusters 39 = .ok (.getfield 117, 3) := by decide +kernel
theorem dX8_makeClusters_42 : decode cX8_makeClusters 42 = .ok (.if_icmp .ge 25, 3) := by decide +kernel
theorem dX8_makeClusters_45 : decode cX8_makeClusters 45 = .ok (.aload_n 0, 1) := by decide +kernel
theorem dX8_makeClusters_46 : decode cX8_makeClusters 46 = .ok (.getfield 86, 3) := by decide +kernel
theorem dX8_makeClusters_49 : decode cX8_makeClusters 49 = .ok (.iload_n 2, 1) := by decide +kernel
theorem dX8_makeClusters_50 : decode cX8_makeClusters 50 = .ok (.iaload, 1) := by decide +kernel
theorem dX8_makeClusters_51 : decode cX8_makeClusters 51 = .ok (.iconst (-1), 1) := by decide +kernel
theorem dX8_makeClusters_52 : decode cX8_makeClusters 52 = .ok (.if_icmp .ne 9, 3) := by decide +kernel
theorem dX8_makeClusters_55 : decode cX8_makeClusters 55 = .ok (.aload_n 0, 1) := by decide +kernel
theorem dX8_makeClusters_56 : decode cX8_makeClusters 56 = .ok (.iload_n 2, 1) := by decide +kernel
theorem dX8_makeClusters_57 : decode cX8_makeClusters 57 = .ok (.iload_n 1, 1) := by decide +kernel
theorem dX8_makeClusters_58 : decode cX8_makeClusters 58 = .ok (.invokevirtual 224, 3) := by decide +kernel
theorem dX8_makeClusters_61 : decode cX8_makeClusters 61 = .ok (.iinc 2 1, 3) := by decide +kernel
theorem dX8_makeClusters_64 : decode cX8_makeClusters 64 = .ok (.goto (-27), 3) := by decide +kernel
theorem dX8_makeClusters_67 : decode cX8_makeClusters 67 = .ok (.iconst 0, 1) := by decide +kernel
theorem dX8_makeClusters_68 : decode cX8_makeClusters 68 = .ok (.istore_n 2, 1) := by decide +kernel
theorem dX8_makeClusters_69 : decode cX8_makeClusters 69 = .ok (.iload_n 2, 1) := by decide +kernel
theorem dX8_makeClusters_70 : decode cX8_makeClusters 70 = .ok (.aload_n 0, 1) := by decide +kernel
theorem dX8_makeClusters_71 : decode cX8_makeClusters 71 = .ok (.getfield 124, 3) := by decide +kernel
theorem dX8_makeClusters_74 : decode cX8_makeClusters 74 = .ok (.if_icmp .ge 50, 3) := by decide +kernel
theorem dX8_makeClusters_77 : decode cX8_makeClusters 77 = .ok (.aload_n 0, 1) := by decide +kernel
theorem dX8_makeClusters_78 : decode cX8_makeClusters 78 = .ok (.getfield 95, 3) := by decide +kernel
theorem dX8_makeClusters_81 : decode cX8_makeClusters 81 = .ok (.iload_n 2, 1) := by decide +kernel
theorem dX8_makeClusters_82 : decode cX8_makeClusters 82 = .ok (.aload_n 0, 1) := by decide +kernel
theorem dX8_makeClusters_83 : decode cX8_makeClusters 83 = .ok (.aload_n 0, 1) := by decide +kernel
theorem dX8_makeClusters_84 : decode cX8_makeClusters 84 = .ok (.getfield 86, 3) := by decide +kernel
theorem dX8_makeClusters_87 : decode cX8_makeClusters 87 = .ok (.aload_n 0, 1) := by decide +kernel
theorem dX8_makeClusters_88 : decode cX8_makeClusters 88 = .ok (.getfield 7, 3) := by decide +kernel
theorem dX8_makeClusters_91 : decode cX8_makeClusters 91 = .ok (.iload_n 2, 1) := by decide +kernel
theorem dX8_makeClusters_92 : decode cX8_makeClusters 92 = .ok (.iaload, 1) := by decide +kernel
theorem dX8_makeClusters_93 : decode cX8_makeClusters 93 = .ok (.iaload, 1) := by decide +kernel
theorem dX8_makeClusters_94 : decode cX8_makeClusters 94 = .ok (.aload_n 0, 1) := by decide +kernel
theorem dX8_makeClusters_95 : decode cX8_makeClusters 95 = .ok (.getfield 86, 3) := by decide +kernel
theorem dX8_makeClusters_98 : decode cX8_makeClusters 98 = .ok (.aload_n 0, 1) := by decide +kernel
theorem dX8_makeClusters_99 : decode cX8_makeClusters 99 = .ok (.getfield 13, 3) := by decide +kernel
theorem dX8_makeClusters_102 : decode cX8_makeClusters 102 = .ok (.iload_n 2, 1) := by decide +kernel
theorem dX8_makeClusters_103 : decode cX8_makeClusters 103 = .ok (.iaload, 1) := by decide +kernel
theorem dX8_makeClusters_104 : decode cX8_makeClusters 104 = .ok (.iaload, 1) := by decide +kernel
theorem dX8_makeClusters_105 : decode cX8_makeClusters 105 = .ok (.invokevirtual 227, 3) := by decide +kernel
theorem dX8_makeClusters_108 : decode cX8_makeClusters 108 = .ok (.iload_n 2, 1) := by decide +kernel
theorem dX8_makeClusters_109 : decode cX8_makeClusters 109 = .ok (.if_icmp .ne 7, 3) := by decide +kernel
theorem dX8_makeClusters_112 : decode cX8_makeClusters 112 = .ok (.iconst 1, 1) := by decide +kernel
theorem dX8_makeClusters_113 : decode cX8_makeClusters 113 = .ok (.goto 4, 3) := by decide +kernel
theorem dX8_makeClusters_116 : decode cX8_makeClusters 116 = .ok (.iconst 0, 1) := by decide +kernel
theorem dX8_makeClusters_117 : decode cX8_makeClusters 117 = .ok (.bastore, 1) := by decide +kernel
theorem dX8_makeClusters_118 : decode cX8_makeClusters 118 = .ok (.iinc 2 1, 3) := by decide +kernel
theorem dX8_makeClusters_121 : decode cX8_makeClusters 121 = .ok (.goto (-52), 3) := by decide +kernel
theorem dX8_makeClusters_124 : decode cX8_makeClusters 124 = .ok (.return_, 1) := by decide +kernel
theorem dX8_prepare_0 : decode cX8_prepare 0 = .ok (.aload_n 0, 1) := by decide +kernel
theorem dX8_prepare_1 : decode cX8_prepare 1 = .ok (.iload_n 1, 1) := by decide +kernel
theorem dX8_prepare_2 : decode cX8_prepare 2 = .ok (.ifCond .lt 19, 3) := by decide +kernel
theorem dX8_prepare_5 : decode cX8_prepare 5 = .ok (.iload_n 1, 1) := by decide +kernel
theorem dX8_prepare_6 : decode cX8_prepare 6 = .ok (.iconst 2, 1) := by decide +kernel
theorem dX8_prepare_7 : decode cX8_prepare 7 = .ok (.if_icmp .gt 14, 3) := by decide +kernel
theorem dX8_prepare_10 : decode cX8_prepare 10 = .ok (.iload_n 2, 1) := by decide +kernel
theorem dX8_prepare_11 : decode cX8_prepare 11 = .ok (.iconst 2, 1) := by decide +kernel
theorem dX8_prepare_12 : decode cX8_prepare 12 = .ok (.if_icmp .lt 9, 3) := by decide +kernel
theorem dX8_prepare_15 : decode cX8_prepare 15 = .ok (.iload_n 2, 1) := by decide +kernel
theorem dX8_prepare_16 : decode cX8_prepare 16 = .ok (.bipush 8, 2) := by decide +kernel
theorem dX8_prepare_18 : decode cX8_prepare 18 = .ok (.if_icmp .le 7, 3) := by decide +kernel
theorem dX8_prepare_21 : decode cX8_prepare 21 = .ok (.iconst 1, 1) := by decide +kernel
theorem dX8_prepare_22 : decode cX8_prepare 22 = .ok (.goto 30, 3) := by decide +kernel
theorem dX8_prepare_25 : decode cX8_prepare 25 = .ok (.aload_n 0, 1) := by decide +kernel
theorem dX8_prepare_26 : decode cX8_prepare 26 = .ok (.getfield 120, 3) := by decide +kernel
theorem dX8_prepare_29 : decode cX8_prepare 29 = .ok (.ifCond .ne 18, 3) := by decide +kernel
theorem dX8_prepare_32 : decode cX8_prepare 32 = .ok (.aload_n 0, 1) := by decide +kernel
theorem dX8_prepare_33 : decode cX8_prepare 33 = .ok (.invokevirtual 185, 3) := by decide +kernel
theorem dX8_prepare_36 : decode cX8_prepare 36 = .ok (.iconst (-1), 1) := by decide +kernel
theorem dX8_prepare_37 : decode cX8_prepare 37 = .ok (.if_icmp .ne 10, 3) := by decide +kernel
theorem dX8_prepare_40 : decode cX8_prepare 40 = .ok (.aload_n 0, 1) := by decide +kernel
theorem dX8_prepare_41 : decode cX8_prepare 41 = .ok (.invokevirtual 230, 3) := by decide +kernel
theorem dX8_prepare_44 : decode cX8_prepare 44 = .ok (.ifCond .ne 7, 3) := by decide +kernel
theorem dX8_prepare_47 : decode cX8_prepare 47 = .ok (.iconst 2, 1) := by decide +kernel
theorem dX8_prepare_48 : decode cX8_prepare 48 = .ok (.goto 4, 3) := by decide +kernel
theorem dX8_prepare_51 : decode cX8_prepare 51 = .ok (.iconst 0, 1) := by decide +kernel
theorem dX8_prepare_52 : decode cX8_prepare 52 = .ok (.putfield 113, 3) := by decide +kernel
theorem dX8_prepare_55 : decode cX8_prepare 55 = .ok (.aload_n 0, 1) := by decide +kernel
theorem dX8_prepare_56 : decode cX8_prepare 56 = .ok (.getfield 113, 3) := by decide +kernel
theorem dX8_prepare_59 : decode cX8_prepare 59 = .ok (.ifCond .le 5, 3) := by decide +kernel
theorem dX8_prepare_62 : decode cX8_prepare 62 = .ok (.iconst 0, 1) := by decide +kernel
theorem dX8_prepare_63 : decode cX8_prepare 63 = .ok (.ireturn, 1) := by decide +kernel
theorem dX8_prepare_64 : decode cX8_prepare 64 = .ok (.aload_n 0, 1) := by decide +kernel
theorem dX8_prepare_65 : decode cX8_prepare 65 = .ok (.iload_n 2, 1) := by decide +kernel
theorem dX8_prepare_66 : decode cX8_prepare 66 = .ok (.invokevirtual 234, 3) := by decide +kernel
theorem dX8_prepare_69 : decode cX8_prepare 69 = .ok (.aload_n 0, 1) := by decide +kernel
theorem dX8_prepare_70 : decode cX8_prepare 70 = .ok (.iconst 1, 1) := by decide +kernel
theorem dX8_prepare_71 : decode cX8_prepare 71 = .ok (.putfield 120, 3) := by decide +kernel
theorem dX8_prepare_74 : decode cX8_prepare 74 = .ok (.aload_n 0, 1) := by decide +kernel
theorem dX8_prepare_75 : decode cX8_prepare 75 = .ok (.iconst 0, 1) := by decide +kernel
theorem dX8_prepare_76 : decode cX8_prepare 76 = .ok (.putfield 237, 3) := by decide +kernel
theorem dX8_prepare_79 : decode cX8_prepare 79 = .ok (.aload_n 0, 1) := by decide +kernel
theorem dX8_prepare_80 : decode cX8_prepare 80 = .ok (.iconst 0, 1) := by decide +kernel
theorem dX8_prepare_81 : decode cX8_prepare 81 = .ok (.putfield 240, 3) := by decide +kernel
theorem dX8_prepare_84 : decode cX8_prepare 84 = .ok (.aload_n 0, 1) := by decide +kernel
theorem dX8_prepare_85 : decode cX8_prepare 85 = .ok (.getfield 53, 3) := by decide +kernel
theorem dX8_prepare_88 : decode cX8_prepare 88 = .ok (.iconst 0, 1) := by decide +kernel
theorem dX8_prepare_89 : decode cX8_prepare 89 = .ok (.iconst 0, 1) := by decide +kernel
theorem dX8_prepare_90 : decode cX8_prepare 90 = .ok (.iastore, 1) := by decide +kernel
theorem dX8_prepare_91 : decode cX8_prepare 91 = .ok (.aload_n 0, 1) := by decide +kernel
theorem dX8_prepare_92 : decode cX8_prepare 92 = .ok (.getfield 56, 3) := by decide +kernel
theorem dX8_prepare_95 : decode cX8_prepare 95 = .ok (.iconst 0, 1) := by decide +kernel
theorem dX8_prepare_96 : decode cX8_prepare 96 = .ok (.iload_n 1, 1) := by decide +kernel
theorem dX8_prepare_97 : decode cX8_prepare 97 = .ok (.iastore, 1) := by decide +kernel
theorem dX8_prepare_98 : decode cX8_prepare 98 = .ok (.aload_n 0, 1) := by decide +kernel
theorem dX8_prepare_99 : decode cX8_prepare 99 = .ok (.iconst 0, 1) := by decide +kernel
theorem dX8_prepare_100 : decode cX8_prepare 100 = .ok (.putfield 243, 3) := by decide +kernel
theorem dX8_prepare_103 : decode cX8_prepare 103 = .ok (.aload_n 0, 1) := by decide +kernel
theorem dX8_prepare_104 : decode cX8_prepare 104 = .ok (.iconst 0, 1) := by decide +kernel
theorem dX8_prepare_105 : decode cX8_prepare 105 = .ok (.putfield 246, 3) := by decide +kernel
theorem dX8_prepare_108 : decode cX8_prepare 108 = .ok (.iconst 0, 1) := by decide +kernel
theorem dX8_prepare_109 : decode cX8_prepare 109 = .ok (.istore_n 3, 1) := by decide +kernel
theorem dX8_prepare_110 : decode cX8_prepare 110 = .ok (.iload_n 3, 1) := by decide +kernel
theorem dX8_prepare_111 : decode cX8_prepare 111 = .ok (.iconst 3, 1) := by decide +kernel
theorem dX8_prepare_112 : decode cX8_prepare 112 = .ok (.if_icmp .ge 16, 3) := by decide +kernel
theorem dX8_prepare_115 : decode cX8_prepare 115 = .ok (.aload_n 0, 1) := by decide +kernel
theorem dX8_prepare_116 : decode cX8_prepare 116 = .ok (.getfield 104, 3) := by decide +kernel
theorem dX8_prepare_119 : decode cX8_prepare 119 = .ok (.iload_n 3, 1) := by decide +kernel
theorem dX8_prepare_120 : decode cX8_prepare 120 = .ok (.iconst 0, 1) := by decide +kernel
theorem dX8_prepare_121 : decode cX8_prepare 121 = .ok (.iastore, 1) := by decide +kernel
theorem dX8_prepare_122 : decode cX8_prepare 122 = .ok (.iinc 3 1, 3) := by decide +kernel
theorem dX8_prepare_125 : decode cX8_prepare 125 = .ok (.goto (-15), 3) := by decide +kernel
theorem dX8_prepare_128 : decode cX8_prepare 128 = .ok (.iconst 0, 1) := by decide +kernel
theorem dX8_prepare_129 : decode cX8_prepare 129 = .ok (.istore_n 3, 1) := by decide +kernel
theorem dX8_prepare_130 : decode cX8_prepare 130 = .ok (.iload_n 3, 1) := by decide +kernel
theorem dX8_prepare_131 : decode cX8_prepare 131 = .ok (.sipush 192, 3) := by decide +kernel
theorem dX8_prepare_134 : decode cX8_prepare 134 = .ok (.if_icmp .ge 21, 3) := by decide +kernel
theorem dX8_prepare_137 : decode cX8_prepare 137 = .ok (.aload_n 0, 1) := by decide +kernel
theorem dX8_prepare_138 : decode cX8_prepare 138 = .ok (.getfield 62, 3) := by decide +kernel
theorem dX8_prepare_141 : decode cX8_prepare 141 = .ok (.iload_n 3, 1) := by decide +kernel
theorem dX8_prepare_142 : decode cX8_prepare 142 = .ok (.aload_n 0, 1) := by decide +kernel
theorem dX8_prepare_143 : decode cX8_prepare 143 = .ok (.getfield 22, 3) := by decide +kernel
theorem dX8_prepare_146 : decode cX8_prepare 146 = .ok (.iload_n 3, 1) := by decide +kernel
theorem dX8_prepare_147 : decode cX8_prepare 147 = .ok (.iaload, 1) := by decide +kernel
theorem dX8_prepare_148 : decode cX8_prepare 148 = .ok (.iastore, 1) := by decide +kernel
theorem dX8_prepare_149 : decode cX8_prepare 149 = .ok (.iinc 3 1, 3) := by decide +kernel
theorem dX8_prepare_152 : decode cX8_prepare 152 = .ok (.goto (-22), 3) := by decide +kernel
theorem dX8_prepare_155 : decode cX8_prepare 155 = .ok (.iconst 0, 1) := by decide +kernel
theorem dX8_prepare_156 : decode cX8_prepare 156 = .ok (.istore_n 3, 1) := by decide +kernel
theorem dX8_prepare_157 : decode cX8_prepare 157 = .ok (.iload_n 3, 1) := by decide +kernel
theorem dX8_prepare_158 : decode cX8_prepare 158 = .ok (.sipush 384, 3) := by decide +kernel
theorem dX8_prepare_161 : decode cX8_prepare 161 = .ok (.if_icmp .ge 16, 3) := by decide +kernel
theorem dX8_prepare_164 : decode cX8_prepare 164 = .ok (.aload_n 0, 1) := by decide +kernel
theorem dX8_prepare_165 : decode cX8_prepare 165 = .ok (.getfield 77, 3) := by decide +kernel
theorem dX8_prepare_168 : decode cX8_prepare 168 = .ok (.iload_n 3, 1) := by decide +kernel
theorem dX8_prepare_169 : decode cX8_prepare 169 = .ok (.iconst 0, 1) := by decide +kernel
theorem dX8_prepare_170 : decode cX8_prepare 170 = .ok (.iastore, 1) := by decide +kernel
theorem dX8_prepare_171 : decode cX8_prepare 171 = .ok (.iinc 3 1, 3) := by decide +kernel
theorem dX8_prepare_174 : decode cX8_prepare 174 = .ok (.goto (-17), 3) := by decide +kernel
theorem dX8_prepare_177 : decode cX8_prepare 177 = .ok (.iconst 0, 1) := by decide +kernel
theorem dX8_prepare_178 : decode cX8_prepare 178 = .ok (.istore_n 3, 1) := by decide +kernel
theorem dX8_prepare_179 : decode cX8_prepare 179 = .ok (.iload_n 3, 1) := by decide +kernel
theorem dX8_prepare_180 : decode cX8_prepare 180 = .ok (.sipush 240, 3) := by decide +kernel
theorem dX8_prepare_183 : decode cX8_prepare 183 = .ok (.if_icmp .ge 16, 3) := by decide +kernel
theorem dX8_prepare_186 : decode cX8_prepare 186 = .ok (.aload_n 0, 1) := by decide +kernel
theorem dX8_prepare_187 : decode cX8_prepare 187 = .ok (.getfield 47, 3) := by decide +kernel
theorem dX8_prepare_190 : decode cX8_prepare 190 = .ok (.iload_n 3, 1) := by decide +kernel
theorem dX8_prepare_191 : decode cX8_prepare 191 = .ok (.iconst 0, 1) := by decide +kernel
theorem dX8_prepare_192 : decode cX8_prepare 192 = .ok (.bastore, 1) := by decide +kernel
theorem dX8_prepare_193 : decode cX8_prepare 193 = .ok (.iinc 3 1, 3) := by decide +kernel
theorem dX8_prepare_196 : decode cX8_prepare 196 = .ok (.goto (-17), 3) := by decide +kernel
theorem dX8_prepare_199 : decode cX8_prepare 199 = .ok (.iconst 0, 1) := by decide +kernel
theorem dX8_prepare_200 : decode cX8_prepare 200 = .ok (.istore_n 3, 1) := by decide +kernel
theorem dX8_prepare_201 : decode cX8_prepare 201 = .ok (.iload_n 3, 1) := by decide +kernel
theorem dX8_prepare_202 : decode cX8_prepare 202 = .ok (.bipush 24, 2) := by decide +kernel
theorem dX8_prepare_204 : decode cX8_prepare 204 = .ok (.if_icmp .ge 21, 3) := by decide +kernel
theorem dX8_prepare_207 : decode cX8_prepare 207 = .ok (.aload_n 0, 1) := by decide +kernel
theorem dX8_prepare_208 : decode cX8_prepare 208 = .ok (.getfield 59, 3) := by decide +kernel
theorem dX8_prepare_211 : decode cX8_prepare 211 = .ok (.iload_n 3, 1) := by decide +kernel
theorem dX8_prepare_212 : decode cX8_prepare 212 = .ok (.iconst 0, 1) := by decide +kernel
theorem dX8_prepare_213 : decode cX8_prepare 213 = .ok (.iastore, 1) := by decide +kernel
theorem dX8_prepare_214 : decode cX8_prepare 214 = .ok (.aload_n 0, 1) := by decide +kernel
theorem dX8_prepare_215 : decode cX8_prepare 215 = .ok (.iload_n 3, 1) := by decide +kernel
theorem dX8_prepare_216 : decode cX8_prepare 216 = .ok (.invokevirtual 249, 3) := by decide +kernel
theorem dX8_prepare_219 : decode cX8_prepare 219 = .ok (.iinc 3 1, 3) := by decide +kernel
theorem dX8_prepare_222 : decode cX8_prepare 222 = .ok (.goto (-21), 3) := by decide +kernel
theorem dX8_prepare_225 : decode cX8_prepare 225 = .ok (.aload_n 0, 1) := by decide +kernel
theorem dX8_prepare_226 : decode cX8_prepare 226 = .ok (.getfield 215, 3) := by decide +kernel
theorem dX8_prepare_229 : decode cX8_prepare 229 = .ok (.ireturn, 1) := by decide +kernel
theorem dX8_clearNode_0 : decode cX8_clearNode 0 = .ok (.aload_n 0, 1) := by decide +kernel
theorem dX8_clearNode_1 : decode cX8_clearNode 1 = .ok (.getfield 65, 3) := by decide +kernel
theorem dX8_clearNode_4 : decode cX8_clearNode 4 = .ok (.iload_n 1, 1) := by decide +kernel
theorem dX8_clearNode_5 : decode cX8_clearNode 5 = .ok (.iconst 0, 1) := by decide +kernel
theorem dX8_clearNode_6 : decode cX8_clearNode 6 = .ok (.iastore, 1) := by decide +kernel
theorem dX8_clearNode_7 : decode cX8_clearNode 7 = .ok (.aload_n 0, 1) := by decide +kernel
theorem dX8_clearNode_8 : decode cX8_clearNode 8 = .ok (.getfield 68, 3) := by decide +kernel
theorem dX8_clearNode_11 : decode cX8_clearNode 11 = .ok (.iload_n 1, 1) := by decide +kernel
theorem dX8_clearNode_12 : decode cX8_clearNode 12 = .ok (.iconst 0, 1) := by decide +kernel
theorem dX8_clearNode_13 : decode cX8_clearNode 13 = .ok (.bastore, 1) := by decide +kernel
theorem dX8_clearNode_14 : decode cX8_clearNode 14 = .ok (.aload_n 0, 1) := by decide +kernel
theorem dX8_clearNode_15 : decode cX8_clearNode 15 = .ok (.getfield 71, 3) := by decide +kernel
theorem dX8_clearNode_18 : decode cX8_clearNode 18 = .ok (.iload_n 1, 1) := by decide +kernel
theorem dX8_clearNode_19 : decode cX8_clearNode 19 = .ok (.iconst 0, 1) := by decide +kernel
theorem dX8_clearNode_20 : decode cX8_clearNode 20 = .ok (.bastore, 1) := by decide +kernel
theorem dX8_clearNode_21 : decode cX8_clearNode 21 = .ok (.aload_n 0, 1) := by decide +kernel
theorem dX8_clearNode_22 : decode cX8_clearNode 22 = .ok (.getfield 74, 3) := by decide +kernel
theorem dX8_clearNode_25 : decode cX8_clearNode 25 = .ok (.iload_n 1, 1) := by decide +kernel
theorem dX8_clearNode_26 : decode cX8_clearNode 26 = .ok (.iconst 0, 1) := by decide +kernel
theorem dX8_clearNode_27 : decode cX8_clearNode 27 = .ok (.bastore, 1) := by decide +kernel
theorem dX8_clearNode_28 : decode cX8_clearNode 28 = .ok (.return_, 1) := by decide +kernel
theorem dX8_send_0 : decode cX8_send 0 = .ok (.aload_n 0, 1) := by decide +kernel
theorem dX8_send_1 : decode cX8_send 1 = .ok (.getfield 101, 3) := by decide +kernel
theorem dX8_send_4 : decode cX8_send 4 = .ok (.iconst 5, 1) := by decide +kernel
theorem dX8_send_5 : decode cX8_send 5 = .ok (.aload_n 0, 1) := by decide +kernel
theorem dX8_send_6 : decode cX8_send 6 = .ok (.getfield 243, 3) := by decide +kernel
theorem dX8_send_9 : decode cX8_send 9 = .ok (.imul, 1) := by decide +kernel
theorem dX8_send_10 : decode cX8_send 10 = .ok (.iload_n 1, 1) := by decide +kernel
theorem dX8_send_11 : decode cX8_send 11 = .ok (.iastore, 1) := by decide +kernel
theorem dX8_send_12 : decode cX8_send 12 = .ok (.aload_n 0, 1) := by decide +kernel
theorem dX8_send_13 : decode cX8_send 13 = .ok (.getfield 101, 3) := by decide +kernel
theorem dX8_send_16 : decode cX8_send 16 = .ok (.iconst 5, 1) := by decide +kernel
theorem dX8_send_17 : decode cX8_send 17 = .ok (.aload_n 0, 1) := by decide +kernel
theorem dX8_send_18 : decode cX8_send 18 = .ok (.getfield 243, 3) := by decide +kernel
theorem dX8_send_21 : decode cX8_send 21 = .ok (.imul, 1) := by decide +kernel
theorem dX8_send_22 : decode cX8_send 22 = .ok (.iconst 1, 1) := by decide +kernel
theorem dX8_send_23 : decode cX8_send 23 = .ok (.iadd, 1) := by decide +kernel
theorem dX8_send_24 : decode cX8_send 24 = .ok (.iload_n 2, 1) := by decide +kernel
theorem dX8_send_25 : decode cX8_send 25 = .ok (.iastore, 1) := by decide +kernel
theorem dX8_send_26 : decode cX8_send 26 = .ok (.aload_n 0, 1) := by decide +kernel
theorem dX8_send_27 : decode cX8_send 27 = .ok (.getfield 101, 3) := by decide +kernel
theorem dX8_send_30 : decode cX8_send 30 = .ok (.iconst 5, 1) := by decide +kernel
theorem dX8_send_31 : decode cX8_send 31 = .ok (.aload_n 0, 1) := by decide +kernel
theorem dX8_send_32 : decode cX8_send 32 = .ok (.getfield 243, 3) := by decide +kernel
theorem dX8_send_35 : decode cX8_send 35 = .ok (.imul, 1) := by decide +kernel
theorem dX8_send_36 : decode cX8_send 36 = .ok (.iconst 2, 1) := by decide +kernel
theorem dX8_send_37 : decode cX8_send 37 = .ok (.iadd, 1) := by decide +kernel
theorem dX8_send_38 : decode cX8_send 38 = .ok (.iload_n 3, 1) := by decide +kernel
theorem dX8_send_39 : decode cX8_send 39 = .ok (.iastore, 1) := by decide +kernel
theorem dX8_send_40 : decode cX8_send 40 = .ok (.aload_n 0, 1) := by decide +kernel
theorem dX8_send_41 : decode cX8_send 41 = .ok (.getfield 101, 3) := by decide +kernel
theorem dX8_send_44 : decode cX8_send 44 = .ok (.iconst 5, 1) := by decide +kernel
theorem dX8_send_45 : decode cX8_send 45 = .ok (.aload_n 0, 1) := by decide +kernel
theorem dX8_send_46 : decode cX8_send 46 = .ok (.getfield 243, 3) := by decide +kernel
theorem dX8_send_49 : decode cX8_send 49 = .ok (.imul, 1) := by decide +kernel
theorem dX8_send_50 : decode cX8_send 50 = .ok (.iconst 3, 1) := by decide +kernel
theorem dX8_send_51 : decode cX8_send 51 = .ok (.iadd, 1) := by decide +kernel
theorem dX8_send_52 : decode cX8_send 52 = .ok (.iload 4, 2) := by decide +kernel
theorem dX8_send_54 : decode cX8_send 54 = .ok (.iastore, 1) := by decide +kernel
theorem dX8_send_55 : decode cX8_send 55 = .ok (.aload_n 0, 1) := by decide +kernel
theorem dX8_send_56 : decode cX8_send 56 = .ok (.getfield 101, 3) := by decide +kernel
theorem dX8_send_59 : decode cX8_send 59 = .ok (.iconst 5, 1) := by decide +kernel
theorem dX8_send_60 : decode cX8_send 60 = .ok (.aload_n 0, 1) := by decide +kernel
theorem dX8_send_61 : decode cX8_send 61 = .ok (.getfield 243, 3) := by decide +kernel
theorem dX8_send_64 : decode cX8_send 64 = .ok (.imul, 1) := by decide +kernel
theorem dX8_send_65 : decode cX8_send 65 = .ok (.iconst 4, 1) := by decide +kernel
theorem dX8_send_66 : decode cX8_send 66 = .ok (.iadd, 1) := by decide +kernel
theorem dX8_send_67 : decode cX8_send 67 = .ok (.iload 5, 2) := by decide +kernel
theorem dX8_send_69 : decode cX8_send 69 = .ok (.iastore, 1) := by decide +kernel
theorem dX8_send_70 : decode cX8_send 70 = .ok (.aload_n 0, 1) := by decide +kernel
theorem dX8_send_71 : decode cX8_send 71 = .ok (.dup, 1) := by decide +kernel
theorem dX8_send_72 : decode cX8_send 72 = .ok (.getfield 243, 3) := by decide +kernel
theorem dX8_send_75 : decode cX8_send 75 = .ok (.iconst 1, 1) := by decide +kernel
theorem dX8_send_76 : decode cX8_send 76 = .ok (.iadd, 1) := by decide +kernel
theorem dX8_send_77 : decode cX8_send 77 = .ok (.putfield 243, 3) := by decide +kernel
theorem dX8_send_80 : decode cX8_send 80 = .ok (.iload_n 1, 1) := by decide +kernel
theorem dX8_send_81 : decode cX8_send 81 = .ok (.iconst 2, 1) := by decide +kernel
theorem dX8_send_82 : decode cX8_send 82 = .ok (.if_icmp .ge 7, 3) := by decide +kernel
theorem dX8_send_85 : decode cX8_send 85 = .ok (.iload_n 1, 1) := by decide +kernel
theorem dX8_send_86 : decode cX8_send 86 = .ok (.goto 4, 3) := by decide +kernel
theorem dX8_send_89 : decode cX8_send 89 = .ok (.iconst 2, 1) := by decide +kernel
theorem dX8_send_90 : decode cX8_send 90 = .ok (.istore 6, 2) := by decide +kernel
theorem dX8_send_92 : decode cX8_send 92 = .ok (.aload_n 0, 1) := by decide +kernel
theorem dX8_send_93 : decode cX8_send 93 = .ok (.getfield 104, 3) := by decide +kernel
theorem dX8_send_96 : decode cX8_send 96 = .ok (.iload 6, 2) := by decide +kernel
theorem dX8_send_98 : decode cX8_send 98 = .ok (.aload_n 0, 1) := by decide +kernel
theorem dX8_send_99 : decode cX8_send 99 = .ok (.getfield 104, 3) := by decide +kernel
theorem dX8_send_102 : decode cX8_send 102 = .ok (.iload 6, 2) := by decide +kernel
theorem dX8_send_104 : decode cX8_send 104 = .ok (.iaload, 1) := by decide +kernel
theorem dX8_send_105 : decode cX8_send 105 = .ok (.iconst 1, 1) := by decide +kernel
theorem dX8_send_106 : decode cX8_send 106 = .ok (.iadd, 1) := by decide +kernel
theorem dX8_send_107 : decode cX8_send 107 = .ok (.iastore, 1) := by decide +kernel
theorem dX8_send_108 : decode cX8_send 108 = .ok (.return_, 1) := by decide +kernel
theorem dX8_spot_0 : decode cX8_spot 0 = .ok (.bipush 16, 2) := by decide +kernel
theorem dX8_spot_2 : decode cX8_spot 2 = .ok (.iload_n 0, 1) := by decide +kernel
theorem dX8_spot_3 : decode cX8_spot 3 = .ok (.imul, 1) := by decide +kernel
theorem dX8_spot_4 : decode cX8_spot 4 = .ok (.bipush 8, 2) := by decide +kernel
theorem dX8_spot_6 : decode cX8_spot 6 = .ok (.iload_n 2, 1) := by decide +kernel
theorem dX8_spot_7 : decode cX8_spot 7 = .ok (.iconst 2, 1) := by decide +kernel
theorem dX8_spot_8 : decode cX8_spot 8 = .ok (.irem, 1) := by decide +kernel
theorem dX8_spot_9 : decode cX8_spot 9 = .ok (.imul, 1) := by decide +kernel
theorem dX8_spot_10 : decode cX8_spot 10 = .ok (.iadd, 1) := by decide +kernel
theorem dX8_spot_11 : decode cX8_spot 11 = .ok (.iload_n 1, 1) := by decide +kernel
theorem dX8_spot_12 : decode cX8_spot 12 = .ok (.iadd, 1) := by decide +kernel
theorem dX8_spot_13 : decode cX8_spot 13 = .ok (.ireturn, 1) := by decide +kernel
theorem dX8_cameTo_0 : decode cX8_cameTo 0 = .ok (.aload_n 0, 1) := by decide +kernel
theorem dX8_cameTo_1 : decode cX8_cameTo 1 = .ok (.getfield 77, 3) := by decide +kernel
theorem dX8_cameTo_4 : decode cX8_cameTo 4 = .ok (.iload_n 1, 1) := by decide +kernel
theorem dX8_cameTo_5 : decode cX8_cameTo 5 = .ok (.iload_n 2, 1) := by decide +kernel
theorem dX8_cameTo_6 : decode cX8_cameTo 6 = .ok (.aload_n 0, 1) := by decide +kernel
theorem dX8_cameTo_7 : decode cX8_cameTo 7 = .ok (.getfield 59, 3) := by decide +kernel
theorem dX8_cameTo_10 : decode cX8_cameTo 10 = .ok (.iload_n 1, 1) := by decide +kernel
theorem dX8_cameTo_11 : decode cX8_cameTo 11 = .ok (.iaload, 1) := by decide +kernel
theorem dX8_cameTo_12 : decode cX8_cameTo 12 = .ok (.invokestatic 252, 3) := by decide +kernel
theorem dX8_cameTo_15 : decode cX8_cameTo 15 = .ok (.iaload, 1) := by decide +kernel
theorem dX8_cameTo_16 : decode cX8_cameTo 16 = .ok (.ireturn, 1) := by decide +kernel
theorem dX8_wayOf_0 : decode cX8_wayOf 0 = .ok (.aload_n 0, 1) := by decide +kernel
theorem dX8_wayOf_1 : decode cX8_wayOf 1 = .ok (.getfield 56, 3) := by decide +kernel
theorem dX8_wayOf_4 : decode cX8_wayOf 4 = .ok (.iconst 0, 1) := by decide +kernel
theorem dX8_wayOf_5 : decode cX8_wayOf 5 = .ok (.iaload, 1) := by decide +kernel
theorem dX8_wayOf_6 : decode cX8_wayOf 6 = .ok (.istore_n 2, 1) := by decide +kernel
theorem dX8_wayOf_7 : decode cX8_wayOf 7 = .ok (.iconst 1, 1) := by decide +kernel
theorem dX8_wayOf_8 : decode cX8_wayOf 8 = .ok (.istore_n 3, 1) := by decide +kernel
theorem dX8_wayOf_9 : decode cX8_wayOf 9 = .ok (.iload_n 3, 1) := by decide +kernel
theorem dX8_wayOf_10 : decode cX8_wayOf 10 = .ok (.aload_n 0, 1) := by decide +kernel
theorem dX8_wayOf_11 : decode cX8_wayOf 11 = .ok (.getfield 240, 3) := by decide +kernel
theorem dX8_wayOf_14 : decode cX8_wayOf 14 = .ok (.if_icmp .gt 30, 3) := by decide +kernel
theorem dX8_wayOf_17 : decode cX8_wayOf 17 = .ok (.aload_n 0, 1) := by decide +kernel
theorem dX8_wayOf_18 : decode cX8_wayOf 18 = .ok (.getfield 53, 3) := by decide +kernel
theorem dX8_wayOf_21 : decode cX8_wayOf 21 = .ok (.iload_n 3, 1) := by decide +kernel
theorem dX8_wayOf_22 : decode cX8_wayOf 22 = .ok (.iaload, 1) := by decide +kernel
theorem dX8_wayOf_23 : decode cX8_wayOf 23 = .ok (.iload_n 1, 1) := by decide +kernel
theorem dX8_wayOf_24 : decode cX8_wayOf 24 = .ok (.if_icmp .gt 12, 3) := by decide +kernel
theorem dX8_wayOf_27 : decode cX8_wayOf 27 = .ok (.aload_n 0, 1) := by decide +kernel
theorem dX8_wayOf_28 : decode cX8_wayOf 28 = .ok (.getfield 56, 3) := by decide +kernel
theorem dX8_wayOf_31 : decode cX8_wayOf 31 = .ok (.iload_n 3, 1) := by decide +kernel
theorem dX8_wayOf_32 : decode cX8_wayOf 32 = .ok (.iaload, 1) := by decide +kernel
theorem dX8_wayOf_33 : decode cX8_wayOf 33 = .ok (.goto 4, 3) := by decide +kernel
theorem dX8_wayOf_36 : decode cX8_wayOf 36 = .ok (.iload_n 2, 1) := by decide +kernel
theorem dX8_wayOf_37 : decode cX8_wayOf 37 = .ok (.istore_n 2, 1) := by decide +kernel
theorem dX8_wayOf_38 : decode cX8_wayOf 38 = .ok (.iinc 3 1, 3) := by decide +kernel
theorem dX8_wayOf_41 : decode cX8_wayOf 41 = .ok (.goto (-32), 3) := by decide +kernel
theorem dX8_wayOf_44 : decode cX8_wayOf 44 = .ok (.iload_n 2, 1) := by decide +kernel
theorem dX8_wayOf_45 : decode cX8_wayOf 45 = .ok (.ireturn, 1) := by decide +kernel
theorem dX8_measure_0 : decode cX8_measure 0 = .ok (.aload_n 0, 1) := by decide +kernel
theorem dX8_measure_1 : decode cX8_measure 1 = .ok (.getfield 59, 3) := by decide +kernel
theorem dX8_measure_4 : decode cX8_measure 4 = .ok (.iconst 0, 1) := by decide +kernel
theorem dX8_measure_5 : decode cX8_measure 5 = .ok (.iaload, 1) := by decide +kernel
theorem dX8_measure_6 : decode cX8_measure 6 = .ok (.istore_n 1, 1) := by decide +kernel
theorem dX8_measure_7 : decode cX8_measure 7 = .ok (.aload_n 0, 1) := by decide +kernel
theorem dX8_measure_8 : decode cX8_measure 8 = .ok (.getfield 59, 3) := by decide +kernel
theorem dX8_measure_11 : decode cX8_measure 11 = .ok (.iconst 0, 1) := by decide +kernel
theorem dX8_measure_12 : decode cX8_measure 12 = .ok (.iaload, 1) := by decide +kernel
theorem dX8_measure_13 : decode cX8_measure 13 = .ok (.istore_n 2, 1) := by decide +kernel
theorem dX8_measure_14 : decode cX8_measure 14 = .ok (.iconst 0, 1) := by decide +kernel
theorem dX8_measure_15 : decode cX8_measure 15 = .ok (.istore_n 3, 1) := by decide +kernel
theorem dX8_measure_16 : decode cX8_measure 16 = .ok (.iload_n 3, 1) := by decide +kernel
theorem dX8_measure_17 : decode cX8_measure 17 = .ok (.aload_n 0, 1) := by decide +kernel
theorem dX8_measure_18 : decode cX8_measure 18 = .ok (.getfield 117, 3) := by decide +kernel
theorem dX8_measure_21 : decode cX8_measure 21 = .ok (.if_icmp .ge 51, 3) := by decide +kernel
theorem dX8_measure_24 : decode cX8_measure 24 = .ok (.aload_n 0, 1) := by decide +kernel
theorem dX8_measure_25 : decode cX8_measure 25 = .ok (.getfield 59, 3) := by decide +kernel
theorem dX8_measure_28 : decode cX8_measure 28 = .ok (.iload_n 3, 1) := by decide +kernel
theorem dX8_measure_29 : decode cX8_measure 29 = .ok (.iaload, 1) := by decide +kernel
theorem dX8_measure_30 : decode cX8_measure 30 = .ok (.iload_n 1, 1) := by decide +kernel
theorem dX8_measure_31 : decode cX8_measure 31 = .ok (.if_icmp .ge 12, 3) := by decide +kernel
theorem dX8_measure_34 : decode cX8_measure 34 = .ok (.aload_n 0, 1) := by decide +kernel
theorem dX8_measure_35 : decode cX8_measure 35 = .ok (.getfield 59, 3) := by decide +kernel
theorem dX8_measure_38 : decode cX8_measure 38 = .ok (.iload_n 3, 1) := by decide +kernel
theorem dX8_measure_39 : decode cX8_measure 39 = .ok (.iaload, 1) := by decide +kernel
theorem dX8_measure_40 : decode cX8_measure 40 = .ok (.goto 4, 3) := by decide +kernel
theorem dX8_measure_43 : decode cX8_measure 43 = .ok (.iload_n 1, 1) := by decide +kernel
theorem dX8_measure_44 : decode cX8_measure 44 = .ok (.istore_n 1, 1) := by decide +kernel
theorem dX8_measure_45 : decode cX8_measure 45 = .ok (.aload_n 0, 1) := by decide +kernel
theorem dX8_measure_46 : decode cX8_measure 46 = .ok (.getfield 59, 3) := by decide +kernel
theorem dX8_measure_49 : decode cX8_measure 49 = .ok (.iload_n 3, 1) := by decide +kernel
theorem dX8_measure_50 : decode cX8_measure 50 = .ok (.iaload, 1) := by decide +kernel
theorem dX8_measure_51 : decode cX8_measure 51 = .ok (.iload_n 2, 1) := by decide +kernel
theorem dX8_measure_52 : decode cX8_measure 52 = .ok (.if_icmp .le 12, 3) := by decide +kernel
theorem dX8_measure_55 : decode cX8_measure 55 = .ok (.aload_n 0, 1) := by decide +kernel
theorem dX8_measure_56 : decode cX8_measure 56 = .ok (.getfield 59, 3) := by decide +kernel
theorem dX8_measure_59 : decode cX8_measure 59 = .ok (.iload_n 3, 1) := by decide +kernel
theorem dX8_measure_60 : decode cX8_measure 60 = .ok (.iaload, 1) := by decide +kernel
theorem dX8_measure_61 : decode cX8_measure 61 = .ok (.goto 4, 3) := by decide +kernel
theorem dX8_measure_64 : decode cX8_measure 64 = .ok (.iload_n 2, 1) := by decide +kernel
theorem dX8_measure_65 : decode cX8_measure 65 = .ok (.istore_n 2, 1) := by decide +kernel
theorem dX8_measure_66 : decode cX8_measure 66 = .ok (.iinc 3 1, 3) := by decide +kernel
theorem dX8_measure_69 : decode cX8_measure 69 = .ok (.goto (-53), 3) := by decide +kernel
theorem dX8_measure_72 : decode cX8_measure 72 = .ok (.aload_n 0, 1) := by decide +kernel
theorem dX8_measure_73 : decode cX8_measure 73 = .ok (.iload_n 2, 1) := by decide +kernel
theorem dX8_measure_74 : decode cX8_measure 74 = .ok (.iload_n 1, 1) := by decide +kernel
theorem dX8_measure_75 : decode cX8_measure 75 = .ok (.isub, 1) := by decide +kernel
theorem dX8_measure_76 : decode cX8_measure 76 = .ok (.aload_n 0, 1) := by decide +kernel
theorem dX8_measure_77 : decode cX8_measure 77 = .ok (.getfield 246, 3) := by decide +kernel
theorem dX8_measure_80 : decode cX8_measure 80 = .ok (.if_icmp .le 9, 3) := by decide +kernel
theorem dX8_measure_83 : decode cX8_measure 83 = .ok (.iload_n 2, 1) := by decide +kernel
theorem dX8_measure_84 : decode cX8_measure 84 = .ok (.iload_n 1, 1) := by decide +kernel
theorem dX8_measure_85 : decode cX8_measure 85 = .ok (.isub, 1) := by decide +kernel
theorem dX8_measure_86 : decode cX8_measure 86 = .ok (.goto 7, 3) := by decide +kernel
theorem dX8_measure_89 : decode cX8_measure 89 = .ok (.aload_n 0, 1) := by decide +kernel
theorem dX8_measure_90 : decode cX8_measure 90 = .ok (.getfield 246, 3) := by decide +kernel
theorem dX8_measure_93 : decode cX8_measure 93 = .ok (.putfield 246, 3) := by decide +kernel
theorem dX8_measure_96 : decode cX8_measure 96 = .ok (.return_, 1) := by decide +kernel
theorem dX8_next_0 : decode cX8_next 0 = .ok (.aload_n 0, 1) := by decide +kernel
theorem dX8_next_1 : decode cX8_next 1 = .ok (.getfield 59, 3) := by decide +kernel
theorem dX8_next_4 : decode cX8_next 4 = .ok (.iload_n 1, 1) := by decide +kernel
theorem dX8_next_5 : decode cX8_next 5 = .ok (.iaload, 1) := by decide +kernel
theorem dX8_next_6 : decode cX8_next 6 = .ok (.istore_n 2, 1) := by decide +kernel
theorem dX8_next_7 : decode cX8_next 7 = .ok (.aload_n 0, 1) := by decide +kernel
theorem dX8_next_8 : decode cX8_next 8 = .ok (.iload_n 1, 1) := by decide +kernel
theorem dX8_next_9 : decode cX8_next 9 = .ok (.iload_n 2, 1) := by decide +kernel
theorem dX8_next_10 : decode cX8_next 10 = .ok (.iconst 2, 1) := by decide +kernel
theorem dX8_next_11 : decode cX8_next 11 = .ok (.irem, 1) := by decide +kernel
theorem dX8_next_12 : decode cX8_next 12 = .ok (.invokevirtual 255, 3) := by decide +kernel
theorem dX8_next_15 : decode cX8_next 15 = .ok (.iconst 0, 1) := by decide +kernel
theorem dX8_next_16 : decode cX8_next 16 = .ok (.istore_n 3, 1) := by decide +kernel
theorem dX8_next_17 : decode cX8_next 17 = .ok (.iload_n 3, 1) := by decide +kernel
theorem dX8_next_18 : decode cX8_next 18 = .ok (.bipush 8, 2) := by decide +kernel
theorem dX8_next_20 : decode cX8_next 20 = .ok (.if_icmp .ge 26, 3) := by decide +kernel
theorem dX8_next_23 : decode cX8_next 23 = .ok (.aload_n 0, 1) := by decide +kernel
theorem dX8_next_24 : decode cX8_next 24 = .ok (.getfield 31, 3) := by decide +kernel
theorem dX8_next_27 : decode cX8_next 27 = .ok (.iload_n 3, 1) := by decide +kernel
theorem dX8_next_28 : decode cX8_next 28 = .ok (.aload_n 0, 1) := by decide +kernel
theorem dX8_next_29 : decode cX8_next 29 = .ok (.getfield 62, 3) := by decide +kernel
theorem dX8_next_32 : decode cX8_next 32 = .ok (.bipush 8, 2) := by decide +kernel
theorem dX8_next_34 : decode cX8_next 34 = .ok (.iload_n 1, 1) := by decide +kernel
theorem dX8_next_35 : decode cX8_next 35 = .ok (.imul, 1) := by decide +kernel
theorem dX8_next_36 : decode cX8_next 36 = .ok (.iload_n 3, 1) := by decide +kernel
theorem dX8_next_37 : decode cX8_next 37 = .ok (.iadd, 1) := by decide +kernel
theorem dX8_next_38 : decode cX8_next 38 = .ok (.iaload, 1) := by decide +kernel
theorem dX8_next_39 : decode cX8_next 39 = .ok (.iastore, 1) := by decide +kernel
theorem dX8_next_40 : decode cX8_next 40 = .ok (.iinc 3 1, 3) := by decide +kernel
theorem dX8_next_43 : decode cX8_next 43 = .ok (.goto (-26), 3) := by decide +kernel
theorem dX8_next_46 : decode cX8_next 46 = .ok (.aload_n 0, 1) := by decide +kernel
theorem dX8_next_47 : decode cX8_next 47 = .ok (.iload_n 1, 1) := by decide +kernel
theorem dX8_next_48 : decode cX8_next 48 = .ok (.iload_n 2, 1) := by decide +kernel
theorem dX8_next_49 : decode cX8_next 49 = .ok (.iconst 1, 1) := by decide +kernel
theorem dX8_next_50 : decode cX8_next 50 = .ok (.iadd, 1) := by decide +kernel
theorem dX8_next_51 : decode cX8_next 51 = .ok (.invokevirtual 209, 3) := by decide +kernel
theorem dX8_next_54 : decode cX8_next 54 = .ok (.iconst 0, 1) := by decide +kernel
theorem dX8_next_55 : decode cX8_next 55 = .ok (.istore_n 3, 1) := by decide +kernel
theorem dX8_next_56 : decode cX8_next 56 = .ok (.iload_n 3, 1) := by decide +kernel
theorem dX8_next_57 : decode cX8_next 57 = .ok (.bipush 8, 2) := by decide +kernel
theorem dX8_next_59 : decode cX8_next 59 = .ok (.if_icmp .ge 26, 3) := by decide +kernel
theorem dX8_next_62 : decode cX8_next 62 = .ok (.aload_n 0, 1) := by decide +kernel
theorem dX8_next_63 : decode cX8_next 63 = .ok (.getfield 62, 3) := by decide +kernel
theorem dX8_next_66 : decode cX8_next 66 = .ok (.bipush 8, 2) := by decide +kernel
theorem dX8_next_68 : decode cX8_next 68 = .ok (.iload_n 1, 1) := by decide +kernel
theorem dX8_next_69 : decode cX8_next 69 = .ok (.imul, 1) := by decide +kernel
theorem dX8_next_70 : decode cX8_next 70 = .ok (.iload_n 3, 1) := by decide +kernel
theorem dX8_next_71 : decode cX8_next 71 = .ok (.iadd, 1) := by decide +kernel
theorem dX8_next_72 : decode cX8_next 72 = .ok (.aload_n 0, 1) := by decide +kernel
theorem dX8_next_73 : decode cX8_next 73 = .ok (.getfield 31, 3) := by decide +kernel
theorem dX8_next_76 : decode cX8_next 76 = .ok (.iload_n 3, 1) := by decide +kernel
theorem dX8_next_77 : decode cX8_next 77 = .ok (.iaload, 1) := by decide +kernel
theorem dX8_next_78 : decode cX8_next 78 = .ok (.iastore, 1) := by decide +kernel
theorem dX8_next_79 : decode cX8_next 79 = .ok (.iinc 3 1, 3) := by decide +kernel
theorem dX8_next_82 : decode cX8_next 82 = .ok (.goto (-26), 3) := by decide +kernel
theorem dX8_next_85 : decode cX8_next 85 = .ok (.iconst 0, 1) := by decide +kernel
theorem dX8_next_86 : decode cX8_next 86 = .ok (.istore_n 3, 1) := by decide +kernel
theorem dX8_next_87 : decode cX8_next 87 = .ok (.iload_n 3, 1) := by decide +kernel
theorem dX8_next_88 : decode cX8_next 88 = .ok (.aload_n 0, 1) := by decide +kernel
theorem dX8_next_89 : decode cX8_next 89 = .ok (.getfield 16, 3) := by decide +kernel
theorem dX8_next_92 : decode cX8_next 92 = .ok (.iload_n 1, 1) := by decide +kernel
theorem dX8_next_93 : decode cX8_next 93 = .ok (.iaload, 1) := by decide +kernel
theorem dX8_next_94 : decode cX8_next 94 = .ok (.if_icmp .ge 38, 3) := by decide +kernel
theorem dX8_next_97 : decode cX8_next 97 = .ok (.aload_n 0, 1) := by decide +kernel
theorem dX8_next_98 : decode cX8_next 98 = .ok (.getfield 47, 3) := by decide +kernel
theorem dX8_next_101 : decode cX8_next 101 = .ok (.bipush 120, 2) := by decide +kernel
theorem dX8_next_103 : decode cX8_next 103 = .ok (.iload_n 2, 1) := by decide +kernel
theorem dX8_next_104 : decode cX8_next 104 = .ok (.iconst 2, 1) := by decide +kernel
theorem dX8_next_105 : decode cX8_next 105 = .ok (.irem, 1) := by decide +kernel
theorem dX8_next_106 : decode cX8_next 106 = .ok (.imul, 1) := by decide +kernel
theorem dX8_next_107 : decode cX8_next 107 = .ok (.aload_n 0, 1) := by decide +kernel
theorem dX8_next_108 : decode cX8_next 108 = .ok (.aload_n 0, 1) := by decide +kernel
theorem dX8_next_109 : decode cX8_next 109 = .ok (.getfield 19, 3) := by decide +kernel
theorem dX8_next_112 : decode cX8_next 112 = .ok (.bipush 24, 2) := by decide +kernel
theorem dX8_next_114 : decode cX8_next 114 = .ok (.iload_n 1, 1) := by decide +kernel
theorem dX8_next_115 : decode cX8_next 115 = .ok (.imul, 1) := by decide +kernel
theorem dX8_next_116 : decode cX8_next 116 = .ok (.iload_n 3, 1) := by decide +kernel
theorem dX8_next_117 : decode cX8_next 117 = .ok (.iadd, 1) := by decide +kernel
theorem dX8_next_118 : decode cX8_next 118 = .ok (.iaload, 1) := by decide +kernel
theorem dX8_next_119 : decode cX8_next 119 = .ok (.iload_n 1, 1) := by decide +kernel
theorem dX8_next_120 : decode cX8_next 120 = .ok (.invokevirtual 202, 3) := by decide +kernel
theorem dX8_next_123 : decode cX8_next 123 = .ok (.iadd, 1) := by decide +kernel
theorem dX8_next_124 : decode cX8_next 124 = .ok (.iconst 0, 1) := by decide +kernel
theorem dX8_next_125 : decode cX8_next 125 = .ok (.bastore, 1) := by decide +kernel
theorem dX8_next_126 : decode cX8_next 126 = .ok (.iinc 3 1, 3) := by decide +kernel
theorem dX8_next_129 : decode cX8_next 129 = .ok (.goto (-42), 3) := by decide +kernel
theorem dX8_next_132 : decode cX8_next 132 = .ok (.iconst 0, 1) := by decide +kernel
theorem dX8_next_133 : decode cX8_next 133 = .ok (.istore_n 3, 1) := by decide +kernel
theorem dX8_next_134 : decode cX8_next 134 = .ok (.iload_n 3, 1) := by decide +kernel
theorem dX8_next_135 : decode cX8_next 135 = .ok (.bipush 8, 2) := by decide +kernel
theorem dX8_next_137 : decode cX8_next 137 = .ok (.if_icmp .ge 21, 3) := by decide +kernel
theorem dX8_next_140 : decode cX8_next 140 = .ok (.aload_n 0, 1) := by decide +kernel
theorem dX8_next_141 : decode cX8_next 141 = .ok (.getfield 77, 3) := by decide +kernel
theorem dX8_next_144 : decode cX8_next 144 = .ok (.iload_n 1, 1) := by decide +kernel
theorem dX8_next_145 : decode cX8_next 145 = .ok (.iload_n 3, 1) := by decide +kernel
theorem dX8_next_146 : decode cX8_next 146 = .ok (.iload_n 2, 1) := by decide +kernel
theorem dX8_next_147 : decode cX8_next 147 = .ok (.invokestatic 252, 3) := by decide +kernel
theorem dX8_next_150 : decode cX8_next 150 = .ok (.iconst 0, 1) := by decide +kernel
theorem dX8_next_151 : decode cX8_next 151 = .ok (.iastore, 1) := by decide +kernel
theorem dX8_next_152 : decode cX8_next 152 = .ok (.iinc 3 1, 3) := by decide +kernel
theorem dX8_next_155 : decode cX8_next 155 = .ok (.goto (-21), 3) := by decide +kernel
theorem dX8_next_158 : decode cX8_next 158 = .ok (.aload_n 0, 1) := by decide +kernel
theorem dX8_next_159 : decode cX8_next 159 = .ok (.iload_n 1, 1) := by decide +kernel
theorem dX8_next_160 : decode cX8_next 160 = .ok (.invokevirtual 249, 3) := by decide +kernel
theorem dX8_next_163 : decode cX8_next 163 = .ok (.aload_n 0, 1) := by decide +kernel
theorem dX8_next_164 : decode cX8_next 164 = .ok (.getfield 59, 3) := by decide +kernel
theorem dX8_next_167 : decode cX8_next 167 = .ok (.iload_n 1, 1) := by decide +kernel
theorem dX8_next_168 : decode cX8_next 168 = .ok (.iload_n 2, 1) := by decide +kernel
theorem dX8_next_169 : decode cX8_next 169 = .ok (.iconst 1, 1) := by decide +kernel
theorem dX8_next_170 : decode cX8_next 170 = .ok (.iadd, 1) := by decide +kernel
theorem dX8_next_171 : decode cX8_next 171 = .ok (.iastore, 1) := by decide +kernel
theorem dX8_next_172 : decode cX8_next 172 = .ok (.aload_n 0, 1) := by decide +kernel
theorem dX8_next_173 : decode cX8_next 173 = .ok (.invokevirtual 258, 3) := by decide +kernel
theorem dX8_next_176 : decode cX8_next 176 = .ok (.iconst 0, 1) := by decide +kernel
theorem dX8_next_177 : decode cX8_next 177 = .ok (.istore_n 3, 1) := by decide +kernel
theorem dX8_next_178 : decode cX8_next 178 = .ok (.iload_n 3, 1) := by decide +kernel
theorem dX8_next_179 : decode cX8_next 179 = .ok (.aload_n 0, 1) := by decide +kernel
theorem dX8_next_180 : decode cX8_next 180 = .ok (.getfield 16, 3) := by decide +kernel
theorem dX8_next_183 : decode cX8_next 183 = .ok (.iload_n 1, 1) := by decide +kernel
theorem dX8_next_184 : decode cX8_next 184 = .ok (.iaload, 1) := by decide +kernel
theorem dX8_next_185 : decode cX8_next 185 = .ok (.if_icmp .ge 59, 3) := by decide +kernel
theorem dX8_next_188 : decode cX8_next 188 = .ok (.aload_n 0, 1) := by decide +kernel
theorem dX8_next_189 : decode cX8_next 189 = .ok (.getfield 41, 3) := by decide +kernel
theorem dX8_next_192 : decode cX8_next 192 = .ok (.iload_n 3, 1) := by decide +kernel
theorem dX8_next_193 : decode cX8_next 193 = .ok (.baload, 1) := by decide +kernel
theorem dX8_next_194 : decode cX8_next 194 = .ok (.ifCond .eq 44, 3) := by decide +kernel
theorem dX8_next_197 : decode cX8_next 197 = .ok (.aload_n 0, 1) := by decide +kernel
theorem dX8_next_198 : decode cX8_next 198 = .ok (.getfield 65, 3) := by decide +kernel
theorem dX8_next_201 : decode cX8_next 201 = .ok (.iload_n 1, 1) := by decide +kernel
theorem dX8_next_202 : decode cX8_next 202 = .ok (.dup2, 1) := by decide +kernel
theorem dX8_next_203 : decode cX8_next 203 = .ok (.iaload, 1) := by decide +kernel
theorem dX8_next_204 : decode cX8_next 204 = .ok (.iconst 1, 1) := by decide +kernel
theorem dX8_next_205 : decode cX8_next 205 = .ok (.iadd, 1) := by decide +kernel
theorem dX8_next_206 : decode cX8_next 206 = .ok (.iastore, 1) := by decide +kernel
theorem dX8_next_207 : decode cX8_next 207 = .ok (.aload_n 0, 1) := by decide +kernel
theorem dX8_next_208 : decode cX8_next 208 = .ok (.iconst 0, 1) := by decide +kernel
theorem dX8_next_209 : decode cX8_next 209 = .ok (.iload_n 1, 1) := by decide +kernel
theorem dX8_next_210 : decode cX8_next 210 = .ok (.aload_n 0, 1) := by decide +kernel
theorem dX8_next_211 : decode cX8_next 211 = .ok (.aload_n 0, 1) := by decide +kernel
theorem dX8_next_212 : decode cX8_next 212 = .ok (.getfield 19, 3) := by decide +kernel
theorem dX8_next_215 : decode cX8_next 215 = .ok (.bipush 24, 2) := by decide +kernel
theorem dX8_next_217 : decode cX8_next 217 = .ok (.iload_n 1, 1) := by decide +kernel
theorem dX8_next_218 : decode cX8_next 218 = .ok (.imul, 1) := by decide +kernel
theorem dX8_next_219 : decode cX8_next 219 = .ok (.iload_n 3, 1) := by decide +kernel
theorem dX8_next_220 : decode cX8_next 220 = .ok (.iadd, 1) := by decide +kernel
theorem dX8_next_221 : decode cX8_next 221 = .ok (.iaload, 1) := by decide +kernel
theorem dX8_next_222 : decode cX8_next 222 = .ok (.iload_n 1, 1) := by decide +kernel
theorem dX8_next_223 : decode cX8_next 223 = .ok (.invokevirtual 212, 3) := by decide +kernel
theorem dX8_next_226 : decode cX8_next 226 = .ok (.iload_n 2, 1) := by decide +kernel
theorem dX8_next_227 : decode cX8_next 227 = .ok (.iconst 1, 1) := by decide +kernel
theorem dX8_next_228 : decode cX8_next 228 = .ok (.iadd, 1) := by decide +kernel
theorem dX8_next_229 : decode cX8_next 229 = .ok (.aload_n 0, 1) := by decide +kernel
theorem dX8_next_230 : decode cX8_next 230 = .ok (.getfield 44, 3) := by decide +kernel
theorem dX8_next_233 : decode cX8_next 233 = .ok (.iload_n 3, 1) := by decide +kernel
theorem dX8_next_234 : decode cX8_next 234 = .ok (.iaload, 1) := by decide +kernel
theorem dX8_next_235 : decode cX8_next 235 = .ok (.invokevirtual 261, 3) := by decide +kernel
theorem dX8_next_238 : decode cX8_next 238 = .ok (.iinc 3 1, 3) := by decide +kernel
theorem dX8_next_241 : decode cX8_next 241 = .ok (.goto (-63), 3) := by decide +kernel
theorem dX8_next_244 : decode cX8_next 244 = .ok (.return_, 1) := by decide +kernel
theorem dX8_toNeighbours_0 : decode cX8_toNeighbours 0 = .ok (.iconst 0, 1) := by decide +kernel
theorem dX8_toNeighbours_1 : decode cX8_toNeighbours 1 = .ok (.istore_n 3, 1) := by decide +kernel
theorem dX8_toNeighbours_2 : decode cX8_toNeighbours 2 = .ok (.iload_n 3, 1) := by decide +kernel
theorem dX8_toNeighbours_3 : decode cX8_toNeighbours 3 = .ok (.aload_n 0, 1) := by decide +kernel
theorem dX8_toNeighbours_4 : decode cX8_toNeighbours 4 = .ok (.getfield 16, 3) := by decide +kernel
theorem dX8_toNeighbours_7 : decode cX8_toNeighbours 7 = .ok (.iload_n 1, 1) := by decide +kernel
theorem dX8_toNeighbours_8 : decode cX8_toNeighbours 8 = .ok (.iaload, 1) := by decide +kernel
theorem dX8_toNeighbours_9 : decode cX8_toNeighbours 9 = .ok (.if_icmp .ge 38, 3) := by decide +kernel
theorem dX8_toNeighbours_12 : decode cX8_toNeighbours 12 = .ok (.aload_n 0, 1) := by decide +kernel
theorem dX8_toNeighbours_13 : decode cX8_toNeighbours 13 = .ok (.iload_n 2, 1) := by decide +kernel
theorem dX8_toNeighbours_14 : decode cX8_toNeighbours 14 = .ok (.iload_n 1, 1) := by decide +kernel
theorem dX8_toNeighbours_15 : decode cX8_toNeighbours 15 = .ok (.aload_n 0, 1) := by decide +kernel
theorem dX8_toNeighbours_16 : decode cX8_toNeighbours 16 = .ok (.aload_n 0, 1) := by decide +kernel
theorem dX8_toNeighbours_17 : decode cX8_toNeighbours 17 = .ok (.getfield 19, 3) := by decide +kernel
theorem dX8_toNeighbours_20 : decode cX8_toNeighbours 20 = .ok (.bipush 24, 2) := by decide +kernel
theorem dX8_toNeighbours_22 : decode cX8_toNeighbours 22 = .ok (.iload_n 1, 1) := by decide +kernel
theorem dX8_toNeighbours_23 : decode cX8_toNeighbours 23 = .ok (.imul, 1) := by decide +kernel
theorem dX8_toNeighbours_24 : decode cX8_toNeighbours 24 = .ok (.iload_n 3, 1) := by decide +kernel
theorem dX8_toNeighbours_25 : decode cX8_toNeighbours 25 = .ok (.iadd, 1) := by decide +kernel
theorem dX8_toNeighbours_26 : decode cX8_toNeighbours 26 = .ok (.iaload, 1) := by decide +kernel
theorem dX8_toNeighbours_27 : decode cX8_toNeighbours 27 = .ok (.iload_n 1, 1) := by decide +kernel
theorem dX8_toNeighbours_28 : decode cX8_toNeighbours 28 = .ok (.invokevirtual 212, 3) := by decide +kernel
theorem dX8_toNeighbours_31 : decode cX8_toNeighbours 31 = .ok (.aload_n 0, 1) := by decide +kernel
theorem dX8_toNeighbours_32 : decode cX8_toNeighbours 32 = .ok (.getfield 59, 3) := by decide +kernel
theorem dX8_toNeighbours_35 : decode cX8_toNeighbours 35 = .ok (.iload_n 1, 1) := by decide +kernel
theorem dX8_toNeighbours_36 : decode cX8_toNeighbours 36 = .ok (.iaload, 1) := by decide +kernel
theorem dX8_toNeighbours_37 : decode cX8_toNeighbours 37 = .ok (.iconst 0, 1) := by decide +kernel
theorem dX8_toNeighbours_38 : decode cX8_toNeighbours 38 = .ok (.invokevirtual 261, 3) := by decide +kernel
theorem dX8_toNeighbours_41 : decode cX8_toNeighbours 41 = .ok (.iinc 3 1, 3) := by decide +kernel
theorem dX8_toNeighbours_44 : decode cX8_toNeighbours 44 = .ok (.goto (-42), 3) := by decide +kernel
theorem dX8_toNeighbours_47 : decode cX8_toNeighbours 47 = .ok (.return_, 1) := by decide +kernel
theorem dX8_toChildren_0 : decode cX8_toChildren 0 = .ok (.iconst 0, 1) := by decide +kernel
theorem dX8_toChildren_1 : decode cX8_toChildren 1 = .ok (.istore 4, 2) := by decide +kernel
theorem dX8_toChildren_3 : decode cX8_toChildren 3 = .ok (.iload 4, 2) := by decide +kernel
theorem dX8_toChildren_5 : decode cX8_toChildren 5 = .ok (.aload_n 0, 1) := by decide +kernel
theorem dX8_toChildren_6 : decode cX8_toChildren 6 = .ok (.getfield 117, 3) := by decide +kernel
theorem dX8_toChildren_9 : decode cX8_toChildren 9 = .ok (.if_icmp .ge 49, 3) := by decide +kernel
theorem dX8_toChildren_12 : decode cX8_toChildren 12 = .ok (.iload_n 1, 1) := by decide +kernel
theorem dX8_toChildren_13 : decode cX8_toChildren 13 = .ok (.iload_n 3, 1) := by decide +kernel
theorem dX8_toChildren_14 : decode cX8_toChildren 14 = .ok (.ifCond .eq 13, 3) := by decide +kernel
theorem dX8_toChildren_17 : decode cX8_toChildren 17 = .ok (.aload_n 0, 1) := by decide +kernel
theorem dX8_toChildren_18 : decode cX8_toChildren 18 = .ok (.getfield 89, 3) := by decide +kernel
theorem dX8_toChildren_21 : decode cX8_toChildren 21 = .ok (.iload 4, 2) := by decide +kernel
theorem dX8_toChildren_23 : decode cX8_toChildren 23 = .ok (.iaload, 1) := by decide +kernel
theorem dX8_toChildren_24 : decode cX8_toChildren 24 = .ok (.goto 10, 3) := by decide +kernel
theorem dX8_toChildren_27 : decode cX8_toChildren 27 = .ok (.aload_n 0, 1) := by decide +kernel
theorem dX8_toChildren_28 : decode cX8_toChildren 28 = .ok (.getfield 80, 3) := by decide +kernel
theorem dX8_toChildren_31 : decode cX8_toChildren 31 = .ok (.iload 4, 2) := by decide +kernel
theorem dX8_toChildren_33 : decode cX8_toChildren 33 = .ok (.iaload, 1) := by decide +kernel
theorem dX8_toChildren_34 : decode cX8_toChildren 34 = .ok (.if_icmp .ne 18, 3) := by decide +kernel
theorem dX8_toChildren_37 : decode cX8_toChildren 37 = .ok (.aload_n 0, 1) := by decide +kernel
theorem dX8_toChildren_38 : decode cX8_toChildren 38 = .ok (.iload_n 2, 1) := by decide +kernel
theorem dX8_toChildren_39 : decode cX8_toChildren 39 = .ok (.iload_n 1, 1) := by decide +kernel
theorem dX8_toChildren_40 : decode cX8_toChildren 40 = .ok (.iload 4, 2) := by decide +kernel
theorem dX8_toChildren_42 : decode cX8_toChildren 42 = .ok (.aload_n 0, 1) := by decide +kernel
theorem dX8_toChildren_43 : decode cX8_toChildren 43 = .ok (.getfield 59, 3) := by decide +kernel
theorem dX8_toChildren_46 : decode cX8_toChildren 46 = .ok (.iload_n 1, 1) := by decide +kernel
theorem dX8_toChildren_47 : decode cX8_toChildren 47 = .ok (.iaload, 1) := by decide +kernel
theorem dX8_toChildren_48 : decode cX8_toChildren 48 = .ok (.iconst 0, 1) := by decide +kernel
theorem dX8_toChildren_49 : decode cX8_toChildren 49 = .ok (.invokevirtual 261, 3) := by decide +kernel
theorem dX8_toChildren_52 : decode cX8_toChildren 52 = .ok (.iinc 4 1, 3) := by decide +kernel
theorem dX8_toChildren_55 : decode cX8_toChildren 55 = .ok (.goto (-52), 3) := by decide +kernel
theorem dX8_toChildren_58 : decode cX8_toChildren 58 = .ok (.return_, 1) := by decide +kernel
theorem dX8_childrenOf_0 : decode cX8_childrenOf 0 = .ok (.iconst 0, 1) := by decide +kernel
theorem dX8_childrenOf_1 : decode cX8_childrenOf 1 = .ok (.istore_n 3, 1) := by decide +kernel
theorem dX8_childrenOf_2 : decode cX8_childrenOf 2 = .ok (.iconst 0, 1) := by decide +kernel
theorem dX8_childrenOf_3 : decode cX8_childrenOf 3 = .ok (.istore 4, 2) := by decide +kernel
theorem dX8_childrenOf_5 : decode cX8_childrenOf 5 = .ok (.iload 4, 2) := by decide +kernel
theorem dX8_childrenOf_7 : decode cX8_childrenOf 7 = .ok (.aload_n 0, 1) := by decide +kernel
theorem dX8_childrenOf_8 : decode cX8_childrenOf 8 = .ok (.getfield 117, 3) := by decide +kernel
theorem dX8_childrenOf_11 : decode cX8_childrenOf 11 = .ok (.if_icmp .ge 42, 3) := by decide +kernel
theorem dX8_childrenOf_14 : decode cX8_childrenOf 14 = .ok (.iload_n 3, 1) := by decide +kernel
theorem dX8_childrenOf_15 : decode cX8_childrenOf 15 = .ok (.iload_n 1, 1) := by decide +kernel
theorem dX8_childrenOf_16 : decode cX8_childrenOf 16 = .ok (.iload_n 2, 1) := by decide +kernel
theorem dX8_childrenOf_17 : decode cX8_childrenOf 17 = .ok (.ifCond .eq 13, 3) := by decide +kernel
theorem dX8_childrenOf_20 : decode cX8_childrenOf 20 = .ok (.aload_n 0, 1) := by decide +kernel
theorem dX8_childrenOf_21 : decode cX8_childrenOf 21 = .ok (.getfield 89, 3) := by decide +kernel
theorem dX8_childrenOf_24 : decode cX8_childrenOf 24 = .ok (.iload 4, 2) := by decide +kernel
theorem dX8_childrenOf_26 : decode cX8_childrenOf 26 = .ok (.iaload, 1) := by decide +kernel
theorem dX8_childrenOf_27 : decode cX8_childrenOf 27 = .ok (.goto 10, 3) := by decide +kernel
theorem dX8_childrenOf_30 : decode cX8_childrenOf 30 = .ok (.aload_n 0, 1) := by decide +kernel
theorem dX8_childrenOf_31 : decode cX8_childrenOf 31 = .ok (.getfield 80, 3) := by decide +kernel
theorem dX8_childrenOf_34 : decode cX8_childrenOf 34 = .ok (.iload 4, 2) := by decide +kernel
theorem dX8_childrenOf_36 : decode cX8_childrenOf 36 = .ok (.iaload, 1) := by decide +kernel
theorem dX8_childrenOf_37 : decode cX8_childrenOf 37 = .ok (.if_icmp .ne 7, 3) := by decide +kernel
theorem dX8_childrenOf_40 : decode cX8_childrenOf 40 = .ok (.iconst 1, 1) := by decide +kernel
theorem dX8_childrenOf_41 : decode cX8_childrenOf 41 = .ok (.goto 4, 3) := by decide +kernel
theorem dX8_childrenOf_44 : decode cX8_childrenOf 44 = .ok (.iconst 0, 1) := by decide +kernel
theorem dX8_childrenOf_45 : decode cX8_childrenOf 45 = .ok (.iadd, 1) := by decide +kernel
theorem dX8_childrenOf_46 : decode cX8_childrenOf 46 = .ok (.istore_n 3, 1) := by decide +kernel
theorem dX8_childrenOf_47 : decode cX8_childrenOf 47 = .ok (.iinc 4 1, 3) := by decide +kernel
theorem dX8_childrenOf_50 : decode cX8_childrenOf 50 = .ok (.goto (-45), 3) := by decide +kernel
theorem dX8_childrenOf_53 : decode cX8_childrenOf 53 = .ok (.iload_n 3, 1) := by decide +kernel
theorem dX8_childrenOf_54 : decode cX8_childrenOf 54 = .ok (.ireturn, 1) := by decide +kernel
theorem dX8_chosenOf_0 : decode cX8_chosenOf 0 = .ok (.iconst 0, 1) := by decide +kernel
theorem dX8_chosenOf_1 : decode cX8_chosenOf 1 = .ok (.istore_n 2, 1) := by decide +kernel
theorem dX8_chosenOf_2 : decode cX8_chosenOf 2 = .ok (.iconst 0, 1) := by decide +kernel
theorem dX8_chosenOf_3 : decode cX8_chosenOf 3 = .ok (.istore_n 3, 1) := by decide +kernel
theorem dX8_chosenOf_4 : decode cX8_chosenOf 4 = .ok (.iload_n 3, 1) := by decide +kernel
theorem dX8_chosenOf_5 : decode cX8_chosenOf 5 = .ok (.aload_n 0, 1) := by decide +kernel
theorem dX8_chosenOf_6 : decode cX8_chosenOf 6 = .ok (.getfield 16, 3) := by decide +kernel
theorem dX8_chosenOf_9 : decode cX8_chosenOf 9 = .ok (.iload_n 1, 1) := by decide +kernel
theorem dX8_chosenOf_10 : decode cX8_chosenOf 10 = .ok (.iaload, 1) := by decide +kernel
theorem dX8_chosenOf_11 : decode cX8_chosenOf 11 = .ok (.if_icmp .ge 36, 3) := by decide +kernel
theorem dX8_chosenOf_14 : decode cX8_chosenOf 14 = .ok (.iload_n 2, 1) := by decide +kernel
theorem dX8_chosenOf_15 : decode cX8_chosenOf 15 = .ok (.aload_n 0, 1) := by decide +kernel
theorem dX8_chosenOf_16 : decode cX8_chosenOf 16 = .ok (.getfield 95, 3) := by decide +kernel
theorem dX8_chosenOf_19 : decode cX8_chosenOf 19 = .ok (.aload_n 0, 1) := by decide +kernel
theorem dX8_chosenOf_20 : decode cX8_chosenOf 20 = .ok (.getfield 19, 3) := by decide +kernel
theorem dX8_chosenOf_23 : decode cX8_chosenOf 23 = .ok (.bipush 24, 2) := by decide +kernel
theorem dX8_chosenOf_25 : decode cX8_chosenOf 25 = .ok (.iload_n 1, 1) := by decide +kernel
theorem dX8_chosenOf_26 : decode cX8_chosenOf 26 = .ok (.imul, 1) := by decide +kernel
theorem dX8_chosenOf_27 : decode cX8_chosenOf 27 = .ok (.iload_n 3, 1) := by decide +kernel
theorem dX8_chosenOf_28 : decode cX8_chosenOf 28 = .ok (.iadd, 1) := by decide +kernel
theorem dX8_chosenOf_29 : decode cX8_chosenOf 29 = .ok (.iaload, 1) := by decide +kernel
theorem dX8_chosenOf_30 : decode cX8_chosenOf 30 = .ok (.baload, 1) := by decide +kernel
theorem dX8_chosenOf_31 : decode cX8_chosenOf 31 = .ok (.ifCond .eq 7, 3) := by decide +kernel
theorem dX8_chosenOf_34 : decode cX8_chosenOf 34 = .ok (.iconst 1, 1) := by decide +kernel
theorem dX8_chosenOf_35 : decode cX8_chosenOf 35 = .ok (.goto 4, 3) := by decide +kernel
theorem dX8_chosenOf_38 : decode cX8_chosenOf 38 = .ok (.iconst 0, 1) := by decide +kernel
theorem dX8_chosenOf_39 : decode cX8_chosenOf 39 = .ok (.iadd, 1) := by decide +kernel
theorem dX8_chosenOf_40 : decode cX8_chosenOf 40 = .ok (.istore_n 2, 1) := by decide +kernel
theorem dX8_chosenOf_41 : decode cX8_chosenOf 41 = .ok (.iinc 3 1, 3) := by decide +kernel
theorem dX8_chosenOf_44 : decode cX8_chosenOf 44 = .ok (.goto (-40), 3) := by decide +kernel
theorem dX8_chosenOf_47 : decode cX8_chosenOf 47 = .ok (.iload_n 2, 1) := by decide +kernel
theorem dX8_chosenOf_48 : decode cX8_chosenOf 48 = .ok (.ireturn, 1) := by decide +kernel
theorem dX8_maySay_0 : decode cX8_maySay 0 = .ok (.aload_n 0, 1) := by decide +kernel
theorem dX8_maySay_1 : decode cX8_maySay 1 = .ok (.getfield 65, 3) := by decide +kernel
theorem dX8_maySay_4 : decode cX8_maySay 4 = .ok (.iload_n 1, 1) := by decide +kernel
theorem dX8_maySay_5 : decode cX8_maySay 5 = .ok (.iaload, 1) := by decide +kernel
theorem dX8_maySay_6 : decode cX8_maySay 6 = .ok (.ifCond .ne 29, 3) := by decide +kernel
theorem dX8_maySay_9 : decode cX8_maySay 9 = .ok (.aload_n 0, 1) := by decide +kernel
theorem dX8_maySay_10 : decode cX8_maySay 10 = .ok (.getfield 59, 3) := by decide +kernel
theorem dX8_maySay_13 : decode cX8_maySay 13 = .ok (.iload_n 1, 1) := by decide +kernel
theorem dX8_maySay_14 : decode cX8_maySay 14 = .ok (.iaload, 1) := by decide +kernel
theorem dX8_maySay_15 : decode cX8_maySay 15 = .ok (.aload_n 0, 1) := by decide +kernel
theorem dX8_maySay_16 : decode cX8_maySay 16 = .ok (.getfield 237, 3) := by decide +kernel
theorem dX8_maySay_19 : decode cX8_maySay 19 = .ok (.if_icmp .ge 16, 3) := by decide +kernel
theorem dX8_maySay_22 : decode cX8_maySay 22 = .ok (.aload_n 0, 1) := by decide +kernel
theorem dX8_maySay_23 : decode cX8_maySay 23 = .ok (.getfield 68, 3) := by decide +kernel
theorem dX8_maySay_26 : decode cX8_maySay 26 = .ok (.iload_n 1, 1) := by decide +kernel
theorem dX8_maySay_27 : decode cX8_maySay 27 = .ok (.baload, 1) := by decide +kernel
theorem dX8_maySay_28 : decode cX8_maySay 28 = .ok (.ifCond .ne 7, 3) := by decide +kernel
theorem dX8_maySay_31 : decode cX8_maySay 31 = .ok (.iconst 1, 1) := by decide +kernel
theorem dX8_maySay_32 : decode cX8_maySay 32 = .ok (.goto 4, 3) := by decide +kernel
theorem dX8_maySay_35 : decode cX8_maySay 35 = .ok (.iconst 0, 1) := by decide +kernel
theorem dX8_maySay_36 : decode cX8_maySay 36 = .ok (.ireturn, 1) := by decide +kernel
theorem dX8_byNodes_0 : decode cX8_byNodes 0 = .ok (.aload_n 0, 1) := by decide +kernel
theorem dX8_byNodes_1 : decode cX8_byNodes 1 = .ok (.iload_n 1, 1) := by decide +kernel
theorem dX8_byNodes_2 : decode cX8_byNodes 2 = .ok (.invokevirtual 264, 3) := by decide +kernel
theorem dX8_byNodes_5 : decode cX8_byNodes 5 = .ok (.ifCond .eq 18, 3) := by decide +kernel
theorem dX8_byNodes_8 : decode cX8_byNodes 8 = .ok (.aload_n 0, 1) := by decide +kernel
theorem dX8_byNodes_9 : decode cX8_byNodes 9 = .ok (.iload_n 1, 1) := by decide +kernel
theorem dX8_byNodes_10 : decode cX8_byNodes 10 = .ok (.iconst 2, 1) := by decide +kernel
theorem dX8_byNodes_11 : decode cX8_byNodes 11 = .ok (.invokevirtual 267, 3) := by decide +kernel
theorem dX8_byNodes_14 : decode cX8_byNodes 14 = .ok (.aload_n 0, 1) := by decide +kernel
theorem dX8_byNodes_15 : decode cX8_byNodes 15 = .ok (.getfield 68, 3) := by decide +kernel
theorem dX8_byNodes_18 : decode cX8_byNodes 18 = .ok (.iload_n 1, 1) := by decide +kernel
theorem dX8_byNodes_19 : decode cX8_byNodes 19 = .ok (.iconst 1, 1) := by decide +kernel
theorem dX8_byNodes_20 : decode cX8_byNodes 20 = .ok (.bastore, 1) := by decide +kernel
theorem dX8_byNodes_21 : decode cX8_byNodes 21 = .ok (.iconst 1, 1) := by decide +kernel
theorem dX8_byNodes_22 : decode cX8_byNodes 22 = .ok (.ireturn, 1) := by decide +kernel
theorem dX8_byNodes_23 : decode cX8_byNodes 23 = .ok (.aload_n 0, 1) := by decide +kernel
theorem dX8_byNodes_24 : decode cX8_byNodes 24 = .ok (.getfield 68, 3) := by decide +kernel
theorem dX8_byNodes_27 : decode cX8_byNodes 27 = .ok (.iload_n 1, 1) := by decide +kernel
theorem dX8_byNodes_28 : decode cX8_byNodes 28 = .ok (.baload, 1) := by decide +kernel
theorem dX8_byNodes_29 : decode cX8_byNodes 29 = .ok (.ifCond .eq 25, 3) := by decide +kernel
theorem dX8_byNodes_32 : decode cX8_byNodes 32 = .ok (.aload_n 0, 1) := by decide +kernel
theorem dX8_byNodes_33 : decode cX8_byNodes 33 = .ok (.iload_n 1, 1) := by decide +kernel
theorem dX8_byNodes_34 : decode cX8_byNodes 34 = .ok (.iconst 2, 1) := by decide +kernel
theorem dX8_byNodes_35 : decode cX8_byNodes 35 = .ok (.invokevirtual 270, 3) := by decide +kernel
theorem dX8_byNodes_38 : decode cX8_byNodes 38 = .ok (.aload_n 0, 1) := by decide +kernel
theorem dX8_byNodes_39 : decode cX8_byNodes 39 = .ok (.getfield 16, 3) := by decide +kernel
theorem dX8_byNodes_42 : decode cX8_byNodes 42 = .ok (.iload_n 1, 1) := by decide +kernel
theorem dX8_byNodes_43 : decode cX8_byNodes 43 = .ok (.iaload, 1) := by decide +kernel
theorem dX8_byNodes_44 : decode cX8_byNodes 44 = .ok (.if_icmp .ne 10, 3) := by decide +kernel
theorem dX8_byNodes_47 : decode cX8_byNodes 47 = .ok (.aload_n 0, 1) := by decide +kernel
theorem dX8_byNodes_48 : decode cX8_byNodes 48 = .ok (.iload_n 1, 1) := by decide +kernel
theorem dX8_byNodes_49 : decode cX8_byNodes 49 = .ok (.invokevirtual 273, 3) := by decide +kernel
theorem dX8_byNodes_52 : decode cX8_byNodes 52 = .ok (.iconst 1, 1) := by decide +kernel
theorem dX8_byNodes_53 : decode cX8_byNodes 53 = .ok (.ireturn, 1) := by decide +kernel
theorem dX8_byNodes_54 : decode cX8_byNodes 54 = .ok (.iconst 0, 1) := by decide +kernel
theorem dX8_byNodes_55 : decode cX8_byNodes 55 = .ok (.ireturn, 1) := by decide +kernel
theorem dX8_byTree_0 : decode cX8_byTree 0 = .ok (.aload_n 0, 1) := by decide +kernel
theorem dX8_byTree_1 : decode cX8_byTree 1 = .ok (.iload_n 1, 1) := by decide +kernel
theorem dX8_byTree_2 : decode cX8_byTree 2 = .ok (.invokevirtual 264, 3) := by decide +kernel
theorem dX8_byTree_5 : decode cX8_byTree 5 = .ok (.ifCond .eq 71, 3) := by decide +kernel
theorem dX8_byTree_8 : decode cX8_byTree 8 = .ok (.aload_n 0, 1) := by decide +kernel
theorem dX8_byTree_9 : decode cX8_byTree 9 = .ok (.iload_n 1, 1) := by decide +kernel
theorem dX8_byTree_10 : decode cX8_byTree 10 = .ok (.iconst 3, 1) := by decide +kernel
theorem dX8_byTree_11 : decode cX8_byTree 11 = .ok (.invokevirtual 270, 3) := by decide +kernel
theorem dX8_byTree_14 : decode cX8_byTree 14 = .ok (.aload_n 0, 1) := by decide +kernel
theorem dX8_byTree_15 : decode cX8_byTree 15 = .ok (.iload_n 1, 1) := by decide +kernel
theorem dX8_byTree_16 : decode cX8_byTree 16 = .ok (.iconst 0, 1) := by decide +kernel
theorem dX8_byTree_17 : decode cX8_byTree 17 = .ok (.invokevirtual 276, 3) := by decide +kernel
theorem dX8_byTree_20 : decode cX8_byTree 20 = .ok (.if_icmp .ne 56, 3) := by decide +kernel
theorem dX8_byTree_23 : decode cX8_byTree 23 = .ok (.aload_n 0, 1) := by decide +kernel
theorem dX8_byTree_24 : decode cX8_byTree 24 = .ok (.getfield 68, 3) := by decide +kernel
theorem dX8_byTree_27 : decode cX8_byTree 27 = .ok (.iload_n 1, 1) := by decide +kernel
theorem dX8_byTree_28 : decode cX8_byTree 28 = .ok (.iconst 1, 1) := by decide +kernel
theorem dX8_byTree_29 : decode cX8_byTree 29 = .ok (.bastore, 1) := by decide +kernel
theorem dX8_byTree_30 : decode cX8_byTree 30 = .ok (.aload_n 0, 1) := by decide +kernel
theorem dX8_byTree_31 : decode cX8_byTree 31 = .ok (.getfield 80, 3) := by decide +kernel
theorem dX8_byTree_34 : decode cX8_byTree 34 = .ok (.iload_n 1, 1) := by decide +kernel
theorem dX8_byTree_35 : decode cX8_byTree 35 = .ok (.iaload, 1) := by decide +kernel
theorem dX8_byTree_36 : decode cX8_byTree 36 = .ok (.iconst (-1), 1) := by decide +kernel
theorem dX8_byTree_37 : decode cX8_byTree 37 = .ok (.if_icmp .ne 18, 3) := by decide +kernel
theorem dX8_byTree_40 : decode cX8_byTree 40 = .ok (.aload_n 0, 1) := by decide +kernel
theorem dX8_byTree_41 : decode cX8_byTree 41 = .ok (.iload_n 1, 1) := by decide +kernel
theorem dX8_byTree_42 : decode cX8_byTree 42 = .ok (.iconst 4, 1) := by decide +kernel
theorem dX8_byTree_43 : decode cX8_byTree 43 = .ok (.iconst 0, 1) := by decide +kernel
theorem dX8_byTree_44 : decode cX8_byTree 44 = .ok (.invokevirtual 280, 3) := by decide +kernel
theorem dX8_byTree_47 : decode cX8_byTree 47 = .ok (.aload_n 0, 1) := by decide +kernel
theorem dX8_byTree_48 : decode cX8_byTree 48 = .ok (.iload_n 1, 1) := by decide +kernel
theorem dX8_byTree_49 : decode cX8_byTree 49 = .ok (.invokevirtual 273, 3) := by decide +kernel
theorem dX8_byTree_52 : decode cX8_byTree 52 = .ok (.goto 22, 3) := by decide +kernel
theorem dX8_byTree_55 : decode cX8_byTree 55 = .ok (.aload_n 0, 1) := by decide +kernel
theorem dX8_byTree_56 : decode cX8_byTree 56 = .ok (.iconst 3, 1) := by decide +kernel
theorem dX8_byTree_57 : decode cX8_byTree 57 = .ok (.iload_n 1, 1) := by decide +kernel
theorem dX8_byTree_58 : decode cX8_byTree 58 = .ok (.aload_n 0, 1) := by decide +kernel
theorem dX8_byTree_59 : decode cX8_byTree 59 = .ok (.getfield 80, 3) := by decide +kernel
theorem dX8_byTree_62 : decode cX8_byTree 62 = .ok (.iload_n 1, 1) := by decide +kernel
theorem dX8_byTree_63 : decode cX8_byTree 63 = .ok (.iaload, 1) := by decide +kernel
theorem dX8_byTree_64 : decode cX8_byTree 64 = .ok (.aload_n 0, 1) := by decide +kernel
theorem dX8_byTree_65 : decode cX8_byTree 65 = .ok (.getfield 59, 3) := by decide +kernel
theorem dX8_byTree_68 : decode cX8_byTree 68 = .ok (.iload_n 1, 1) := by decide +kernel
theorem dX8_byTree_69 : decode cX8_byTree 69 = .ok (.iaload, 1) := by decide +kernel
theorem dX8_byTree_70 : decode cX8_byTree 70 = .ok (.iconst 0, 1) := by decide +kernel
theorem dX8_byTree_71 : decode cX8_byTree 71 = .ok (.invokevirtual 261, 3) := by decide +kernel
theorem dX8_byTree_74 : decode cX8_byTree 74 = .ok (.iconst 1, 1) := by decide +kernel
theorem dX8_byTree_75 : decode cX8_byTree 75 = .ok (.ireturn, 1) := by decide +kernel
theorem dX8_byTree_76 : decode cX8_byTree 76 = .ok (.aload_n 0, 1) := by decide +kernel
theorem dX8_byTree_77 : decode cX8_byTree 77 = .ok (.iload_n 1, 1) := by decide +kernel
theorem dX8_byTree_78 : decode cX8_byTree 78 = .ok (.iconst 4, 1) := by decide +kernel
theorem dX8_byTree_79 : decode cX8_byTree 79 = .ok (.invokevirtual 270, 3) := by decide +kernel
theorem dX8_byTree_82 : decode cX8_byTree 82 = .ok (.ifCond .le 17, 3) := by decide +kernel
theorem dX8_byTree_85 : decode cX8_byTree 85 = .ok (.aload_n 0, 1) := by decide +kernel
theorem dX8_byTree_86 : decode cX8_byTree 86 = .ok (.iload_n 1, 1) := by decide +kernel
theorem dX8_byTree_87 : decode cX8_byTree 87 = .ok (.iconst 4, 1) := by decide +kernel
theorem dX8_byTree_88 : decode cX8_byTree 88 = .ok (.iconst 0, 1) := by decide +kernel
theorem dX8_byTree_89 : decode cX8_byTree 89 = .ok (.invokevirtual 280, 3) := by decide +kernel
theorem dX8_byTree_92 : decode cX8_byTree 92 = .ok (.aload_n 0, 1) := by decide +kernel
theorem dX8_byTree_93 : decode cX8_byTree 93 = .ok (.iload_n 1, 1) := by decide +kernel
theorem dX8_byTree_94 : decode cX8_byTree 94 = .ok (.invokevirtual 273, 3) := by decide +kernel
theorem dX8_byTree_97 : decode cX8_byTree 97 = .ok (.iconst 1, 1) := by decide +kernel
theorem dX8_byTree_98 : decode cX8_byTree 98 = .ok (.ireturn, 1) := by decide +kernel
theorem dX8_byTree_99 : decode cX8_byTree 99 = .ok (.iconst 0, 1) := by decide +kernel
theorem dX8_byTree_100 : decode cX8_byTree 100 = .ok (.ireturn, 1) := by decide +kernel
theorem dX8_tell_0 : decode cX8_tell 0 = .ok (.aload_n 0, 1) := by decide +kernel
theorem dX8_tell_1 : decode cX8_tell 1 = .ok (.getfield 74, 3) := by decide +kernel
theorem dX8_tell_4 : decode cX8_tell 4 = .ok (.iload_n 1, 1) := by decide +kernel
theorem dX8_tell_5 : decode cX8_tell 5 = .ok (.iconst 1, 1) := by decide +kernel
theorem dX8_tell_6 : decode cX8_tell 6 = .ok (.bastore, 1) := by decide +kernel
theorem dX8_tell_7 : decode cX8_tell 7 = .ok (.aload_n 0, 1) := by decide +kernel
theorem dX8_tell_8 : decode cX8_tell 8 = .ok (.iload_n 1, 1) := by decide +kernel
theorem dX8_tell_9 : decode cX8_tell 9 = .ok (.iconst 5, 1) := by decide +kernel
theorem dX8_tell_10 : decode cX8_tell 10 = .ok (.iconst 1, 1) := by decide +kernel
theorem dX8_tell_11 : decode cX8_tell 11 = .ok (.invokevirtual 280, 3) := by decide +kernel
theorem dX8_tell_14 : decode cX8_tell 14 = .ok (.iconst 0, 1) := by decide +kernel
theorem dX8_tell_15 : decode cX8_tell 15 = .ok (.istore_n 2, 1) := by decide +kernel
theorem dX8_tell_16 : decode cX8_tell 16 = .ok (.iload_n 2, 1) := by decide +kernel
theorem dX8_tell_17 : decode cX8_tell 17 = .ok (.aload_n 0, 1) := by decide +kernel
theorem dX8_tell_18 : decode cX8_tell 18 = .ok (.getfield 16, 3) := by decide +kernel
theorem dX8_tell_21 : decode cX8_tell 21 = .ok (.iload_n 1, 1) := by decide +kernel
theorem dX8_tell_22 : decode cX8_tell 22 = .ok (.iaload, 1) := by decide +kernel
theorem dX8_tell_23 : decode cX8_tell 23 = .ok (.if_icmp .ge 50, 3) := by decide +kernel
theorem dX8_tell_26 : decode cX8_tell 26 = .ok (.aload_n 0, 1) := by decide +kernel
theorem dX8_tell_27 : decode cX8_tell 27 = .ok (.getfield 19, 3) := by decide +kernel
theorem dX8_tell_30 : decode cX8_tell 30 = .ok (.bipush 24, 2) := by decide +kernel
theorem dX8_tell_32 : decode cX8_tell 32 = .ok (.iload_n 1, 1) := by decide +kernel
theorem dX8_tell_33 : decode cX8_tell 33 = .ok (.imul, 1) := by decide +kernel
theorem dX8_tell_34 : decode cX8_tell 34 = .ok (.iload_n 2, 1) := by decide +kernel
theorem dX8_tell_35 : decode cX8_tell 35 = .ok (.iadd, 1) := by decide +kernel
theorem dX8_tell_36 : decode cX8_tell 36 = .ok (.iaload, 1) := by decide +kernel
theorem dX8_tell_37 : decode cX8_tell 37 = .ok (.istore_n 3, 1) := by decide +kernel
theorem dX8_tell_38 : decode cX8_tell 38 = .ok (.aload_n 0, 1) := by decide +kernel
theorem dX8_tell_39 : decode cX8_tell 39 = .ok (.getfield 95, 3) := by decide +kernel
theorem dX8_tell_42 : decode cX8_tell 42 = .ok (.iload_n 3, 1) := by decide +kernel
theorem dX8_tell_43 : decode cX8_tell 43 = .ok (.baload, 1) := by decide +kernel
theorem dX8_tell_44 : decode cX8_tell 44 = .ok (.ifCond .eq 23, 3) := by decide +kernel
theorem dX8_tell_47 : decode cX8_tell 47 = .ok (.aload_n 0, 1) := by decide +kernel
theorem dX8_tell_48 : decode cX8_tell 48 = .ok (.bipush 6, 2) := by decide +kernel
theorem dX8_tell_50 : decode cX8_tell 50 = .ok (.iload_n 1, 1) := by decide +kernel
theorem dX8_tell_51 : decode cX8_tell 51 = .ok (.aload_n 0, 1) := by decide +kernel
theorem dX8_tell_52 : decode cX8_tell 52 = .ok (.iload_n 3, 1) := by decide +kernel
theorem dX8_tell_53 : decode cX8_tell 53 = .ok (.iload_n 1, 1) := by decide +kernel
theorem dX8_tell_54 : decode cX8_tell 54 = .ok (.invokevirtual 212, 3) := by decide +kernel
theorem dX8_tell_57 : decode cX8_tell 57 = .ok (.aload_n 0, 1) := by decide +kernel
theorem dX8_tell_58 : decode cX8_tell 58 = .ok (.getfield 59, 3) := by decide +kernel
theorem dX8_tell_61 : decode cX8_tell 61 = .ok (.iload_n 1, 1) := by decide +kernel
theorem dX8_tell_62 : decode cX8_tell 62 = .ok (.iaload, 1) := by decide +kernel
theorem dX8_tell_63 : decode cX8_tell 63 = .ok (.iconst 0, 1) := by decide +kernel
theorem dX8_tell_64 : decode cX8_tell 64 = .ok (.invokevirtual 261, 3) := by decide +kernel
theorem dX8_tell_67 : decode cX8_tell 67 = .ok (.iinc 2 1, 3) := by decide +kernel
theorem dX8_tell_70 : decode cX8_tell 70 = .ok (.goto (-54), 3) := by decide +kernel
theorem dX8_tell_73 : decode cX8_tell 73 = .ok (.return_, 1) := by decide +kernel
theorem dX8_byClusters_0 : decode cX8_byClusters 0 = .ok (.aload_n 0, 1) := by decide +kernel
theorem dX8_byClusters_1 : decode cX8_byClusters 1 = .ok (.iload_n 1, 1) := by decide +kernel
theorem dX8_byClusters_2 : decode cX8_byClusters 2 = .ok (.iconst 1, 1) := by decide +kernel
theorem dX8_byClusters_3 : decode cX8_byClusters 3 = .ok (.invokevirtual 276, 3) := by decide +kernel
theorem dX8_byClusters_6 : decode cX8_byClusters 6 = .ok (.istore_n 2, 1) := by decide +kernel
theorem dX8_byClusters_7 : decode cX8_byClusters 7 = .ok (.aload_n 0, 1) := by decide +kernel
theorem dX8_byClusters_8 : decode cX8_byClusters 8 = .ok (.iload_n 1, 1) := by decide +kernel
theorem dX8_byClusters_9 : decode cX8_byClusters 9 = .ok (.invokevirtual 264, 3) := by decide +kernel
theorem dX8_byClusters_12 : decode cX8_byClusters 12 = .ok (.ifCond .eq 59, 3) := by decide +kernel
theorem dX8_byClusters_15 : decode cX8_byClusters 15 = .ok (.aload_n 0, 1) := by decide +kernel
theorem dX8_byClusters_16 : decode cX8_byClusters 16 = .ok (.iload_n 1, 1) := by decide +kernel
theorem dX8_byClusters_17 : decode cX8_byClusters 17 = .ok (.iconst 3, 1) := by decide +kernel
theorem dX8_byClusters_18 : decode cX8_byClusters 18 = .ok (.invokevirtual 270, 3) := by decide +kernel
theorem dX8_byClusters_21 : decode cX8_byClusters 21 = .ok (.iload_n 2, 1) := by decide +kernel
theorem dX8_byClusters_22 : decode cX8_byClusters 22 = .ok (.if_icmp .ne 49, 3) := by decide +kernel
theorem dX8_byClusters_25 : decode cX8_byClusters 25 = .ok (.aload_n 0, 1) := by decide +kernel
theorem dX8_byClusters_26 : decode cX8_byClusters 26 = .ok (.getfield 68, 3) := by decide +kernel
theorem dX8_byClusters_29 : decode cX8_byClusters 29 = .ok (.iload_n 1, 1) := by decide +kernel
theorem dX8_byClusters_30 : decode cX8_byClusters 30 = .ok (.iconst 1, 1) := by decide +kernel
theorem dX8_byClusters_31 : decode cX8_byClusters 31 = .ok (.bastore, 1) := by decide +kernel
theorem dX8_byClusters_32 : decode cX8_byClusters 32 = .ok (.aload_n 0, 1) := by decide +kernel
theorem dX8_byClusters_33 : decode cX8_byClusters 33 = .ok (.getfield 89, 3) := by decide +kernel
theorem dX8_byClusters_36 : decode cX8_byClusters 36 = .ok (.iload_n 1, 1) := by decide +kernel
theorem dX8_byClusters_37 : decode cX8_byClusters 37 = .ok (.iaload, 1) := by decide +kernel
theorem dX8_byClusters_38 : decode cX8_byClusters 38 = .ok (.iconst (-1), 1) := by decide +kernel
theorem dX8_byClusters_39 : decode cX8_byClusters 39 = .ok (.if_icmp .ne 11, 3) := by decide +kernel
theorem dX8_byClusters_42 : decode cX8_byClusters 42 = .ok (.aload_n 0, 1) := by decide +kernel
theorem dX8_byClusters_43 : decode cX8_byClusters 43 = .ok (.iload_n 1, 1) := by decide +kernel
theorem dX8_byClusters_44 : decode cX8_byClusters 44 = .ok (.invokevirtual 284, 3) := by decide +kernel
theorem dX8_byClusters_47 : decode cX8_byClusters 47 = .ok (.goto 22, 3) := by decide +kernel
theorem dX8_byClusters_50 : decode cX8_byClusters 50 = .ok (.aload_n 0, 1) := by decide +kernel
theorem dX8_byClusters_51 : decode cX8_byClusters 51 = .ok (.iconst 3, 1) := by decide +kernel
theorem dX8_byClusters_52 : decode cX8_byClusters 52 = .ok (.iload_n 1, 1) := by decide +kernel
theorem dX8_byClusters_53 : decode cX8_byClusters 53 = .ok (.aload_n 0, 1) := by decide +kernel
theorem dX8_byClusters_54 : decode cX8_byClusters 54 = .ok (.getfield 89, 3) := by decide +kernel
theorem dX8_byClusters_57 : decode cX8_byClusters 57 = .ok (.iload_n 1, 1) := by decide +kernel
theorem dX8_byClusters_58 : decode cX8_byClusters 58 = .ok (.iaload, 1) := by decide +kernel
theorem dX8_byClusters_59 : decode cX8_byClusters 59 = .ok (.aload_n 0, 1) := by decide +kernel
theorem dX8_byClusters_60 : decode cX8_byClusters 60 = .ok (.getfield 59, 3) := by decide +kernel
theorem dX8_byClusters_63 : decode cX8_byClusters 63 = .ok (.iload_n 1, 1) := by decide +kernel
theorem dX8_byClusters_64 : decode cX8_byClusters 64 = .ok (.iaload, 1) := by decide +kernel
theorem dX8_byClusters_65 : decode cX8_byClusters 65 = .ok (.iconst 0, 1) := by decide +kernel
theorem dX8_byClusters_66 : decode cX8_byClusters 66 = .ok (.invokevirtual 261, 3) := by decide +kernel
theorem dX8_byClusters_69 : decode cX8_byClusters 69 = .ok (.iconst 1, 1) := by decide +kernel
theorem dX8_byClusters_70 : decode cX8_byClusters 70 = .ok (.ireturn, 1) := by decide +kernel
theorem dX8_byClusters_71 : decode cX8_byClusters 71 = .ok (.aload_n 0, 1) := by decide +kernel
theorem dX8_byClusters_72 : decode cX8_byClusters 72 = .ok (.getfield 74, 3) := by decide +kernel
theorem dX8_byClusters_75 : decode cX8_byClusters 75 = .ok (.iload_n 1, 1) := by decide +kernel
theorem dX8_byClusters_76 : decode cX8_byClusters 76 = .ok (.baload, 1) := by decide +kernel
theorem dX8_byClusters_77 : decode cX8_byClusters 77 = .ok (.ifCond .ne 19, 3) := by decide +kernel
theorem dX8_byClusters_80 : decode cX8_byClusters 80 = .ok (.aload_n 0, 1) := by decide +kernel
theorem dX8_byClusters_81 : decode cX8_byClusters 81 = .ok (.iload_n 1, 1) := by decide +kernel
theorem dX8_byClusters_82 : decode cX8_byClusters 82 = .ok (.iconst 5, 1) := by decide +kernel
theorem dX8_byClusters_83 : decode cX8_byClusters 83 = .ok (.invokevirtual 270, 3) := by decide +kernel
theorem dX8_byClusters_86 : decode cX8_byClusters 86 = .ok (.ifCond .le 10, 3) := by decide +kernel
theorem dX8_byClusters_89 : decode cX8_byClusters 89 = .ok (.aload_n 0, 1) := by decide +kernel
theorem dX8_byClusters_90 : decode cX8_byClusters 90 = .ok (.iload_n 1, 1) := by decide +kernel
theorem dX8_byClusters_91 : decode cX8_byClusters 91 = .ok (.invokevirtual 284, 3) := by decide +kernel
theorem dX8_byClusters_94 : decode cX8_byClusters 94 = .ok (.iconst 1, 1) := by decide +kernel
theorem dX8_byClusters_95 : decode cX8_byClusters 95 = .ok (.ireturn, 1) := by decide +kernel
theorem dX8_byClusters_96 : decode cX8_byClusters 96 = .ok (.aload_n 0, 1) := by decide +kernel
theorem dX8_byClusters_97 : decode cX8_byClusters 97 = .ok (.getfield 74, 3) := by decide +kernel
theorem dX8_byClusters_100 : decode cX8_byClusters 100 = .ok (.iload_n 1, 1) := by decide +kernel
theorem dX8_byClusters_101 : decode cX8_byClusters 101 = .ok (.baload, 1) := by decide +kernel
theorem dX8_byClusters_102 : decode cX8_byClusters 102 = .ok (.ifCond .eq 92, 3) := by decide +kernel
theorem dX8_byClusters_105 : decode cX8_byClusters 105 = .ok (.aload_n 0, 1) := by decide +kernel
theorem dX8_byClusters_106 : decode cX8_byClusters 106 = .ok (.getfield 71, 3) := by decide +kernel
theorem dX8_byClusters_109 : decode cX8_byClusters 109 = .ok (.iload_n 1, 1) := by decide +kernel
theorem dX8_byClusters_110 : decode cX8_byClusters 110 = .ok (.baload, 1) := by decide +kernel
theorem dX8_byClusters_111 : decode cX8_byClusters 111 = .ok (.ifCond .ne 83, 3) := by decide +kernel
theorem dX8_byClusters_114 : decode cX8_byClusters 114 = .ok (.aload_n 0, 1) := by decide +kernel
theorem dX8_byClusters_115 : decode cX8_byClusters 115 = .ok (.iload_n 1, 1) := by decide +kernel
theorem dX8_byClusters_116 : decode cX8_byClusters 116 = .ok (.bipush 6, 2) := by decide +kernel
theorem dX8_byClusters_118 : decode cX8_byClusters 118 = .ok (.invokevirtual 270, 3) := by decide +kernel
theorem dX8_byClusters_121 : decode cX8_byClusters 121 = .ok (.aload_n 0, 1) := by decide +kernel
theorem dX8_byClusters_122 : decode cX8_byClusters 122 = .ok (.iload_n 1, 1) := by decide +kernel
theorem dX8_byClusters_123 : decode cX8_byClusters 123 = .ok (.invokevirtual 287, 3) := by decide +kernel
theorem dX8_byClusters_126 : decode cX8_byClusters 126 = .ok (.if_icmp .ne 68, 3) := by decide +kernel
theorem dX8_byClusters_129 : decode cX8_byClusters 129 = .ok (.aload_n 0, 1) := by decide +kernel
theorem dX8_byClusters_130 : decode cX8_byClusters 130 = .ok (.iload_n 1, 1) := by decide +kernel
theorem dX8_byClusters_131 : decode cX8_byClusters 131 = .ok (.bipush 7, 2) := by decide +kernel
theorem dX8_byClusters_133 : decode cX8_byClusters 133 = .ok (.invokevirtual 270, 3) := by decide +kernel
theorem dX8_byClusters_136 : decode cX8_byClusters 136 = .ok (.iload_n 2, 1) := by decide +kernel
theorem dX8_byClusters_137 : decode cX8_byClusters 137 = .ok (.if_icmp .ne 57, 3) := by decide +kernel
theorem dX8_byClusters_140 : decode cX8_byClusters 140 = .ok (.aload_n 0, 1) := by decide +kernel
theorem dX8_byClusters_141 : decode cX8_byClusters 141 = .ok (.getfield 71, 3) := by decide +kernel
theorem dX8_byClusters_144 : decode cX8_byClusters 144 = .ok (.iload_n 1, 1) := by decide +kernel
theorem dX8_byClusters_145 : decode cX8_byClusters 145 = .ok (.iconst 1, 1) := by decide +kernel
theorem dX8_byClusters_146 : decode cX8_byClusters 146 = .ok (.bastore, 1) := by decide +kernel
theorem dX8_byClusters_147 : decode cX8_byClusters 147 = .ok (.aload_n 0, 1) := by decide +kernel
theorem dX8_byClusters_148 : decode cX8_byClusters 148 = .ok (.getfield 89, 3) := by decide +kernel
theorem dX8_byClusters_151 : decode cX8_byClusters 151 = .ok (.iload_n 1, 1) := by decide +kernel
theorem dX8_byClusters_152 : decode cX8_byClusters 152 = .ok (.iaload, 1) := by decide +kernel
theorem dX8_byClusters_153 : decode cX8_byClusters 153 = .ok (.iconst (-1), 1) := by decide +kernel
theorem dX8_byClusters_154 : decode cX8_byClusters 154 = .ok (.if_icmp .ne 18, 3) := by decide +kernel
theorem dX8_byClusters_157 : decode cX8_byClusters 157 = .ok (.aload_n 0, 1) := by decide +kernel
theorem dX8_byClusters_158 : decode cX8_byClusters 158 = .ok (.iload_n 1, 1) := by decide +kernel
theorem dX8_byClusters_159 : decode cX8_byClusters 159 = .ok (.iconst 4, 1) := by decide +kernel
theorem dX8_byClusters_160 : decode cX8_byClusters 160 = .ok (.iconst 1, 1) := by decide +kernel
theorem dX8_byClusters_161 : decode cX8_byClusters 161 = .ok (.invokevirtual 280, 3) := by decide +kernel
theorem dX8_byClusters_164 : decode cX8_byClusters 164 = .ok (.aload_n 0, 1) := by decide +kernel
theorem dX8_byClusters_165 : decode cX8_byClusters 165 = .ok (.iload_n 1, 1) := by decide +kernel
theorem dX8_byClusters_166 : decode cX8_byClusters 166 = .ok (.invokevirtual 273, 3) := by decide +kernel
theorem dX8_byClusters_169 : decode cX8_byClusters 169 = .ok (.goto 23, 3) := by decide +kernel
theorem dX8_byClusters_172 : decode cX8_byClusters 172 = .ok (.aload_n 0, 1) := by decide +kernel
theorem dX8_byClusters_173 : decode cX8_byClusters 173 = .ok (.bipush 7, 2) := by decide +kernel
theorem dX8_byClusters_175 : decode cX8_byClusters 175 = .ok (.iload_n 1, 1) := by decide +kernel
theorem dX8_byClusters_176 : decode cX8_byClusters 176 = .ok (.aload_n 0, 1) := by decide +kernel
theorem dX8_byClusters_177 : decode cX8_byClusters 177 = .ok (.getfield 89, 3) := by decide +kernel
theorem dX8_byClusters_180 : decode cX8_byClusters 180 = .ok (.iload_n 1, 1) := by decide +kernel
theorem dX8_byClusters_181 : decode cX8_byClusters 181 = .ok (.iaload, 1) := by decide +kernel
theorem dX8_byClusters_182 : decode cX8_byClusters 182 = .ok (.aload_n 0, 1) := by decide +kernel
theorem dX8_byClusters_183 : decode cX8_byClusters 183 = .ok (.getfield 59, 3) := by decide +kernel
theorem dX8_byClusters_186 : decode cX8_byClusters 186 = .ok (.iload_n 1, 1) := by decide +kernel
theorem dX8_byClusters_187 : decode cX8_byClusters 187 = .ok (.iaload, 1) := by decide +kernel
theorem dX8_byClusters_188 : decode cX8_byClusters 188 = .ok (.iconst 0, 1) := by decide +kernel
theorem dX8_byClusters_189 : decode cX8_byClusters 189 = .ok (.invokevirtual 261, 3) := by decide +kernel
theorem dX8_byClusters_192 : decode cX8_byClusters 192 = .ok (.iconst 1, 1) := by decide +kernel
theorem dX8_byClusters_193 : decode cX8_byClusters 193 = .ok (.ireturn, 1) := by decide +kernel
theorem dX8_byClusters_194 : decode cX8_byClusters 194 = .ok (.aload_n 0, 1) := by decide +kernel
theorem dX8_byClusters_195 : decode cX8_byClusters 195 = .ok (.iload_n 1, 1) := by decide +kernel
theorem dX8_byClusters_196 : decode cX8_byClusters 196 = .ok (.iconst 4, 1) := by decide +kernel
theorem dX8_byClusters_197 : decode cX8_byClusters 197 = .ok (.invokevirtual 270, 3) := by decide +kernel
theorem dX8_byClusters_200 : decode cX8_byClusters 200 = .ok (.ifCond .le 17, 3) := by decide +kernel
theorem dX8_byClusters_203 : decode cX8_byClusters 203 = .ok (.aload_n 0, 1) := by decide +kernel
theorem dX8_byClusters_204 : decode cX8_byClusters 204 = .ok (.iload_n 1, 1) := by decide +kernel
theorem dX8_byClusters_205 : decode cX8_byClusters 205 = .ok (.iconst 4, 1) := by decide +kernel
theorem dX8_byClusters_206 : decode cX8_byClusters 206 = .ok (.iconst 1, 1) := by decide +kernel
theorem dX8_byClusters_207 : decode cX8_byClusters 207 = .ok (.invokevirtual 280, 3) := by decide +kernel
theorem dX8_byClusters_210 : decode cX8_byClusters 210 = .ok (.aload_n 0, 1) := by decide +kernel
theorem dX8_byClusters_211 : decode cX8_byClusters 211 = .ok (.iload_n 1, 1) := by decide +kernel
theorem dX8_byClusters_212 : decode cX8_byClusters 212 = .ok (.invokevirtual 273, 3) := by decide +kernel
theorem dX8_byClusters_215 : decode cX8_byClusters 215 = .ok (.iconst 1, 1) := by decide +kernel
theorem dX8_byClusters_216 : decode cX8_byClusters 216 = .ok (.ireturn, 1) := by decide +kernel
theorem dX8_byClusters_217 : decode cX8_byClusters 217 = .ok (.iconst 0, 1) := by decide +kernel
theorem dX8_byClusters_218 : decode cX8_byClusters 218 = .ok (.ireturn, 1) := by decide +kernel
theorem dX8_act_0 : decode cX8_act 0 = .ok (.iconst 1, 1) := by decide +kernel
theorem dX8_act_1 : decode cX8_act 1 = .ok (.istore_n 2, 1) := by decide +kernel
theorem dX8_act_2 : decode cX8_act 2 = .ok (.iload_n 2, 1) := by decide +kernel
theorem dX8_act_3 : decode cX8_act 3 = .ok (.ifCond .eq 48, 3) := by decide +kernel
theorem dX8_act_6 : decode cX8_act 6 = .ok (.aload_n 0, 1) := by decide +kernel
theorem dX8_act_7 : decode cX8_act 7 = .ok (.aload_n 0, 1) := by decide +kernel
theorem dX8_act_8 : decode cX8_act 8 = .ok (.getfield 59, 3) := by decide +kernel
theorem dX8_act_11 : decode cX8_act 11 = .ok (.iload_n 1, 1) := by decide +kernel
theorem dX8_act_12 : decode cX8_act 12 = .ok (.iaload, 1) := by decide +kernel
theorem dX8_act_13 : decode cX8_act 13 = .ok (.invokevirtual 290, 3) := by decide +kernel
theorem dX8_act_16 : decode cX8_act 16 = .ok (.istore_n 3, 1) := by decide +kernel
theorem dX8_act_17 : decode cX8_act 17 = .ok (.iload_n 3, 1) := by decide +kernel
theorem dX8_act_18 : decode cX8_act 18 = .ok (.ifCond .ne 11, 3) := by decide +kernel
theorem dX8_act_21 : decode cX8_act 21 = .ok (.aload_n 0, 1) := by decide +kernel
theorem dX8_act_22 : decode cX8_act 22 = .ok (.iload_n 1, 1) := by decide +kernel
theorem dX8_act_23 : decode cX8_act 23 = .ok (.invokevirtual 293, 3) := by decide +kernel
theorem dX8_act_26 : decode cX8_act 26 = .ok (.goto 21, 3) := by decide +kernel
theorem dX8_act_29 : decode cX8_act 29 = .ok (.iload_n 3, 1) := by decide +kernel
theorem dX8_act_30 : decode cX8_act 30 = .ok (.iconst 1, 1) := by decide +kernel
theorem dX8_act_31 : decode cX8_act 31 = .ok (.if_icmp .ne 11, 3) := by decide +kernel
theorem dX8_act_34 : decode cX8_act 34 = .ok (.aload_n 0, 1) := by decide +kernel
theorem dX8_act_35 : decode cX8_act 35 = .ok (.iload_n 1, 1) := by decide +kernel
theorem dX8_act_36 : decode cX8_act 36 = .ok (.invokevirtual 296, 3) := by decide +kernel
theorem dX8_act_39 : decode cX8_act 39 = .ok (.goto 8, 3) := by decide +kernel
theorem dX8_act_42 : decode cX8_act 42 = .ok (.aload_n 0, 1) := by decide +kernel
theorem dX8_act_43 : decode cX8_act 43 = .ok (.iload_n 1, 1) := by decide +kernel
theorem dX8_act_44 : decode cX8_act 44 = .ok (.invokevirtual 299, 3) := by decide +kernel
theorem dX8_act_47 : decode cX8_act 47 = .ok (.istore_n 2, 1) := by decide +kernel
theorem dX8_act_48 : decode cX8_act 48 = .ok (.goto (-46), 3) := by decide +kernel
theorem dX8_act_51 : decode cX8_act 51 = .ok (.return_, 1) := by decide +kernel
theorem dX8_release_0 : decode cX8_release 0 = .ok (.aload_n 0, 1) := by decide +kernel
theorem dX8_release_1 : decode cX8_release 1 = .ok (.aload_n 0, 1) := by decide +kernel
theorem dX8_release_2 : decode cX8_release 2 = .ok (.getfield 120, 3) := by decide +kernel
theorem dX8_release_5 : decode cX8_release 5 = .ok (.ifCond .eq 7, 3) := by decide +kernel
theorem dX8_release_8 : decode cX8_release 8 = .ok (.iconst 0, 1) := by decide +kernel
theorem dX8_release_9 : decode cX8_release 9 = .ok (.goto 4, 3) := by decide +kernel
theorem dX8_release_12 : decode cX8_release 12 = .ok (.iconst 1, 1) := by decide +kernel
theorem dX8_release_13 : decode cX8_release 13 = .ok (.putfield 113, 3) := by decide +kernel
theorem dX8_release_16 : decode cX8_release 16 = .ok (.aload_n 0, 1) := by decide +kernel
theorem dX8_release_17 : decode cX8_release 17 = .ok (.iconst 0, 1) := by decide +kernel
theorem dX8_release_18 : decode cX8_release 18 = .ok (.putfield 120, 3) := by decide +kernel
theorem dX8_release_21 : decode cX8_release 21 = .ok (.return_, 1) := by decide +kernel
theorem dX8_stopAt_0 : decode cX8_stopAt 0 = .ok (.aload_n 0, 1) := by decide +kernel
theorem dX8_stopAt_1 : decode cX8_stopAt 1 = .ok (.aload_n 0, 1) := by decide +kernel
theorem dX8_stopAt_2 : decode cX8_stopAt 2 = .ok (.getfield 120, 3) := by decide +kernel
theorem dX8_stopAt_5 : decode cX8_stopAt 5 = .ok (.ifCond .ne 7, 3) := by decide +kernel
theorem dX8_stopAt_8 : decode cX8_stopAt 8 = .ok (.iconst 1, 1) := by decide +kernel
theorem dX8_stopAt_9 : decode cX8_stopAt 9 = .ok (.goto 23, 3) := by decide +kernel
theorem dX8_stopAt_12 : decode cX8_stopAt 12 = .ok (.iload_n 1, 1) := by decide +kernel
theorem dX8_stopAt_13 : decode cX8_stopAt 13 = .ok (.sipush 500, 3) := by decide +kernel
theorem dX8_stopAt_16 : decode cX8_stopAt 16 = .ok (.if_icmp .gt 11, 3) := by decide +kernel
theorem dX8_stopAt_19 : decode cX8_stopAt 19 = .ok (.iload_n 1, 1) := by decide +kernel
theorem dX8_stopAt_20 : decode cX8_stopAt 20 = .ok (.aload_n 0, 1) := by decide +kernel
theorem dX8_stopAt_21 : decode cX8_stopAt 21 = .ok (.getfield 237, 3) := by decide +kernel
theorem dX8_stopAt_24 : decode cX8_stopAt 24 = .ok (.if_icmp .ge 7, 3) := by decide +kernel
theorem dX8_stopAt_27 : decode cX8_stopAt 27 = .ok (.iconst 2, 1) := by decide +kernel
theorem dX8_stopAt_28 : decode cX8_stopAt 28 = .ok (.goto 4, 3) := by decide +kernel
theorem dX8_stopAt_31 : decode cX8_stopAt 31 = .ok (.iconst 0, 1) := by decide +kernel
theorem dX8_stopAt_32 : decode cX8_stopAt 32 = .ok (.putfield 113, 3) := by decide +kernel
theorem dX8_stopAt_35 : decode cX8_stopAt 35 = .ok (.aload_n 0, 1) := by decide +kernel
theorem dX8_stopAt_36 : decode cX8_stopAt 36 = .ok (.getfield 113, 3) := by decide +kernel
theorem dX8_stopAt_39 : decode cX8_stopAt 39 = .ok (.ifCond .le 4, 3) := by decide +kernel
theorem dX8_stopAt_42 : decode cX8_stopAt 42 = .ok (.return_, 1) := by decide +kernel
theorem dX8_stopAt_43 : decode cX8_stopAt 43 = .ok (.aload_n 0, 1) := by decide +kernel
theorem dX8_stopAt_44 : decode cX8_stopAt 44 = .ok (.iload_n 1, 1) := by decide +kernel
theorem dX8_stopAt_45 : decode cX8_stopAt 45 = .ok (.putfield 237, 3) := by decide +kernel
theorem dX8_stopAt_48 : decode cX8_stopAt 48 = .ok (.iconst 0, 1) := by decide +kernel
theorem dX8_stopAt_49 : decode cX8_stopAt 49 = .ok (.istore_n 2, 1) := by decide +kernel
theorem dX8_stopAt_50 : decode cX8_stopAt 50 = .ok (.iload_n 2, 1) := by decide +kernel
theorem dX8_stopAt_51 : decode cX8_stopAt 51 = .ok (.aload_n 0, 1) := by decide +kernel
theorem dX8_stopAt_52 : decode cX8_stopAt 52 = .ok (.getfield 117, 3) := by decide +kernel
theorem dX8_stopAt_55 : decode cX8_stopAt 55 = .ok (.if_icmp .ge 14, 3) := by decide +kernel
theorem dX8_stopAt_58 : decode cX8_stopAt 58 = .ok (.aload_n 0, 1) := by decide +kernel
theorem dX8_stopAt_59 : decode cX8_stopAt 59 = .ok (.iload_n 2, 1) := by decide +kernel
theorem dX8_stopAt_60 : decode cX8_stopAt 60 = .ok (.invokevirtual 302, 3) := by decide +kernel
theorem dX8_stopAt_63 : decode cX8_stopAt 63 = .ok (.iinc 2 1, 3) := by decide +kernel
theorem dX8_stopAt_66 : decode cX8_stopAt 66 = .ok (.goto (-16), 3) := by decide +kernel
theorem dX8_stopAt_69 : decode cX8_stopAt 69 = .ok (.return_, 1) := by decide +kernel
theorem dX8_letters_0 : decode cX8_letters 0 = .ok (.aload_n 0, 1) := by decide +kernel
theorem dX8_letters_1 : decode cX8_letters 1 = .ok (.iconst 0, 1) := by decide +kernel
theorem dX8_letters_2 : decode cX8_letters 2 = .ok (.putfield 113, 3) := by decide +kernel
theorem dX8_letters_5 : decode cX8_letters 5 = .ok (.aload_n 0, 1) := by decide +kernel
theorem dX8_letters_6 : decode cX8_letters 6 = .ok (.getfield 120, 3) := by decide +kernel
theorem dX8_letters_9 : decode cX8_letters 9 = .ok (.ifCond .eq 10, 3) := by decide +kernel
theorem dX8_letters_12 : decode cX8_letters 12 = .ok (.aload_n 0, 1) := by decide +kernel
theorem dX8_letters_13 : decode cX8_letters 13 = .ok (.getfield 243, 3) := by decide +kernel
theorem dX8_letters_16 : decode cX8_letters 16 = .ok (.goto 4, 3) := by decide +kernel
theorem dX8_letters_19 : decode cX8_letters 19 = .ok (.iconst 0, 1) := by decide +kernel
theorem dX8_letters_20 : decode cX8_letters 20 = .ok (.ireturn, 1) := by decide +kernel
theorem dX8_letter_0 : decode cX8_letter 0 = .ok (.aload_n 0, 1) := by decide +kernel
theorem dX8_letter_1 : decode cX8_letter 1 = .ok (.aload_n 0, 1) := by decide +kernel
theorem dX8_letter_2 : decode cX8_letter 2 = .ok (.getfield 120, 3) := by decide +kernel
theorem dX8_letter_5 : decode cX8_letter 5 = .ok (.ifCond .eq 24, 3) := by decide +kernel
theorem dX8_letter_8 : decode cX8_letter 8 = .ok (.iload_n 1, 1) := by decide +kernel
theorem dX8_letter_9 : decode cX8_letter 9 = .ok (.ifCond .lt 20, 3) := by decide +kernel
theorem dX8_letter_12 : decode cX8_letter 12 = .ok (.iload_n 1, 1) := by decide +kernel
theorem dX8_letter_13 : decode cX8_letter 13 = .ok (.aload_n 0, 1) := by decide +kernel
theorem dX8_letter_14 : decode cX8_letter 14 = .ok (.getfield 243, 3) := by decide +kernel
theorem dX8_letter_17 : decode cX8_letter 17 = .ok (.if_icmp .ge 12, 3) := by decide +kernel
theorem dX8_letter_20 : decode cX8_letter 20 = .ok (.iload_n 2, 1) := by decide +kernel
theorem dX8_letter_21 : decode cX8_letter 21 = .ok (.ifCond .lt 8, 3) := by decide +kernel
theorem dX8_letter_24 : decode cX8_letter 24 = .ok (.iload_n 2, 1) := by decide +kernel
theorem dX8_letter_25 : decode cX8_letter 25 = .ok (.iconst 4, 1) := by decide +kernel
theorem dX8_letter_26 : decode cX8_letter 26 = .ok (.if_icmp .le 7, 3) := by decide +kernel
theorem dX8_letter_29 : decode cX8_letter 29 = .ok (.iconst 1, 1) := by decide +kernel
theorem dX8_letter_30 : decode cX8_letter 30 = .ok (.goto 4, 3) := by decide +kernel
theorem dX8_letter_33 : decode cX8_letter 33 = .ok (.iconst 0, 1) := by decide +kernel
theorem dX8_letter_34 : decode cX8_letter 34 = .ok (.putfield 113, 3) := by decide +kernel
theorem dX8_letter_37 : decode cX8_letter 37 = .ok (.aload_n 0, 1) := by decide +kernel
theorem dX8_letter_38 : decode cX8_letter 38 = .ok (.getfield 113, 3) := by decide +kernel
theorem dX8_letter_41 : decode cX8_letter 41 = .ok (.ifCond .le 7, 3) := by decide +kernel
theorem dX8_letter_44 : decode cX8_letter 44 = .ok (.iconst 0, 1) := by decide +kernel
theorem dX8_letter_45 : decode cX8_letter 45 = .ok (.goto 13, 3) := by decide +kernel
theorem dX8_letter_48 : decode cX8_letter 48 = .ok (.aload_n 0, 1) := by decide +kernel
theorem dX8_letter_49 : decode cX8_letter 49 = .ok (.getfield 101, 3) := by decide +kernel
theorem dX8_letter_52 : decode cX8_letter 52 = .ok (.iconst 5, 1) := by decide +kernel
theorem dX8_letter_53 : decode cX8_letter 53 = .ok (.iload_n 1, 1) := by decide +kernel
theorem dX8_letter_54 : decode cX8_letter 54 = .ok (.imul, 1) := by decide +kernel
theorem dX8_letter_55 : decode cX8_letter 55 = .ok (.iload_n 2, 1) := by decide +kernel
theorem dX8_letter_56 : decode cX8_letter 56 = .ok (.iadd, 1) := by decide +kernel
theorem dX8_letter_57 : decode cX8_letter 57 = .ok (.iaload, 1) := by decide +kernel
theorem dX8_letter_58 : decode cX8_letter 58 = .ok (.ireturn, 1) := by decide +kernel
theorem dX8_bring_0 : decode cX8_bring 0 = .ok (.aload_n 0, 1) := by decide +kernel
theorem dX8_bring_1 : decode cX8_bring 1 = .ok (.getfield 101, 3) := by decide +kernel
theorem dX8_bring_4 : decode cX8_bring 4 = .ok (.iconst 5, 1) := by decide +kernel
theorem dX8_bring_5 : decode cX8_bring 5 = .ok (.iload_n 1, 1) := by decide +kernel
theorem dX8_bring_6 : decode cX8_bring 6 = .ok (.imul, 1) := by decide +kernel
theorem dX8_bring_7 : decode cX8_bring 7 = .ok (.iaload, 1) := by decide +kernel
theorem dX8_bring_8 : decode cX8_bring 8 = .ok (.istore_n 2, 1) := by decide +kernel
theorem dX8_bring_9 : decode cX8_bring 9 = .ok (.aload_n 0, 1) := by decide +kernel
theorem dX8_bring_10 : decode cX8_bring 10 = .ok (.getfield 101, 3) := by decide +kernel
theorem dX8_bring_13 : decode cX8_bring 13 = .ok (.iconst 5, 1) := by decide +kernel
theorem dX8_bring_14 : decode cX8_bring 14 = .ok (.iload_n 1, 1) := by decide +kernel
theorem dX8_bring_15 : decode cX8_bring 15 = .ok (.imul, 1) := by decide +kernel
theorem dX8_bring_16 : decode cX8_bring 16 = .ok (.iconst 1, 1) := by decide +kernel
theorem dX8_bring_17 : decode cX8_bring 17 = .ok (.iadd, 1) := by decide +kernel
theorem dX8_bring_18 : decode cX8_bring 18 = .ok (.iaload, 1) := by decide +kernel
theorem dX8_bring_19 : decode cX8_bring 19 = .ok (.istore_n 3, 1) := by decide +kernel
theorem dX8_bring_20 : decode cX8_bring 20 = .ok (.aload_n 0, 1) := by decide +kernel
theorem dX8_bring_21 : decode cX8_bring 21 = .ok (.getfield 101, 3) := by decide +kernel
theorem dX8_bring_24 : decode cX8_bring 24 = .ok (.iconst 5, 1) := by decide +kernel
theorem dX8_bring_25 : decode cX8_bring 25 = .ok (.iload_n 1, 1) := by decide +kernel
theorem dX8_bring_26 : decode cX8_bring 26 = .ok (.imul, 1) := by decide +kernel
theorem dX8_bring_27 : decode cX8_bring 27 = .ok (.iconst 2, 1) := by decide +kernel
theorem dX8_bring_28 : decode cX8_bring 28 = .ok (.iadd, 1) := by decide +kernel
theorem dX8_bring_29 : decode cX8_bring 29 = .ok (.iaload, 1) := by decide +kernel
theorem dX8_bring_30 : decode cX8_bring 30 = .ok (.istore 4, 2) := by decide +kernel
theorem dX8_bring_32 : decode cX8_bring 32 = .ok (.aload_n 0, 1) := by decide +kernel
theorem dX8_bring_33 : decode cX8_bring 33 = .ok (.getfield 101, 3) := by decide +kernel
theorem dX8_bring_36 : decode cX8_bring 36 = .ok (.iconst 5, 1) := by decide +kernel
theorem dX8_bring_37 : decode cX8_bring 37 = .ok (.iload_n 1, 1) := by decide +kernel
theorem dX8_bring_38 : decode cX8_bring 38 = .ok (.imul, 1) := by decide +kernel
theorem dX8_bring_39 : decode cX8_bring 39 = .ok (.iconst 3, 1) := by decide +kernel
theorem dX8_bring_40 : decode cX8_bring 40 = .ok (.iadd, 1) := by decide +kernel
theorem dX8_bring_41 : decode cX8_bring 41 = .ok (.iaload, 1) := by decide +kernel
theorem dX8_bring_42 : decode cX8_bring 42 = .ok (.istore 5, 2) := by decide +kernel
theorem dX8_bring_44 : decode cX8_bring 44 = .ok (.aload_n 0, 1) := by decide +kernel
theorem dX8_bring_45 : decode cX8_bring 45 = .ok (.getfield 101, 3) := by decide +kernel
theorem dX8_bring_48 : decode cX8_bring 48 = .ok (.iconst 5, 1) := by decide +kernel
theorem dX8_bring_49 : decode cX8_bring 49 = .ok (.iload_n 1, 1) := by decide +kernel
theorem dX8_bring_50 : decode cX8_bring 50 = .ok (.imul, 1) := by decide +kernel
theorem dX8_bring_51 : decode cX8_bring 51 = .ok (.iconst 4, 1) := by decide +kernel
theorem dX8_bring_52 : decode cX8_bring 52 = .ok (.iadd, 1) := by decide +kernel
theorem dX8_bring_53 : decode cX8_bring 53 = .ok (.iaload, 1) := by decide +kernel
theorem dX8_bring_54 : decode cX8_bring 54 = .ok (.istore 6, 2) := by decide +kernel
theorem dX8_bring_56 : decode cX8_bring 56 = .ok (.aload_n 0, 1) := by decide +kernel
theorem dX8_bring_57 : decode cX8_bring 57 = .ok (.dup, 1) := by decide +kernel
theorem dX8_bring_58 : decode cX8_bring 58 = .ok (.getfield 243, 3) := by decide +kernel
theorem dX8_bring_61 : decode cX8_bring 61 = .ok (.iconst 1, 1) := by decide +kernel
theorem dX8_bring_62 : decode cX8_bring 62 = .ok (.isub, 1) := by decide +kernel
theorem dX8_bring_63 : decode cX8_bring 63 = .ok (.putfield 243, 3) := by decide +kernel
theorem dX8_bring_66 : decode cX8_bring 66 = .ok (.iconst 5, 1) := by decide +kernel
theorem dX8_bring_67 : decode cX8_bring 67 = .ok (.iload_n 1, 1) := by decide +kernel
theorem dX8_bring_68 : decode cX8_bring 68 = .ok (.imul, 1) := by decide +kernel
theorem dX8_bring_69 : decode cX8_bring 69 = .ok (.istore 7, 2) := by decide +kernel
theorem dX8_bring_71 : decode cX8_bring 71 = .ok (.iload 7, 2) := by decide +kernel
theorem dX8_bring_73 : decode cX8_bring 73 = .ok (.iconst 5, 1) := by decide +kernel
theorem dX8_bring_74 : decode cX8_bring 74 = .ok (.aload_n 0, 1) := by decide +kernel
theorem dX8_bring_75 : decode cX8_bring 75 = .ok (.getfield 243, 3) := by decide +kernel
theorem dX8_bring_78 : decode cX8_bring 78 = .ok (.imul, 1) := by decide +kernel
theorem dX8_bring_79 : decode cX8_bring 79 = .ok (.if_icmp .ge 25, 3) := by decide +kernel
theorem dX8_bring_82 : decode cX8_bring 82 = .ok (.aload_n 0, 1) := by decide +kernel
theorem dX8_bring_83 : decode cX8_bring 83 = .ok (.getfield 101, 3) := by decide +kernel
theorem dX8_bring_86 : decode cX8_bring 86 = .ok (.iload 7, 2) := by decide +kernel
theorem dX8_bring_88 : decode cX8_bring 88 = .ok (.aload_n 0, 1) := by decide +kernel
theorem dX8_bring_89 : decode cX8_bring 89 = .ok (.getfield 101, 3) := by decide +kernel
theorem dX8_bring_92 : decode cX8_bring 92 = .ok (.iload 7, 2) := by decide +kernel
theorem dX8_bring_94 : decode cX8_bring 94 = .ok (.iconst 5, 1) := by decide +kernel
theorem dX8_bring_95 : decode cX8_bring 95 = .ok (.iadd, 1) := by decide +kernel
theorem dX8_bring_96 : decode cX8_bring 96 = .ok (.iaload, 1) := by decide +kernel
theorem dX8_bring_97 : decode cX8_bring 97 = .ok (.iastore, 1) := by decide +kernel
theorem dX8_bring_98 : decode cX8_bring 98 = .ok (.iinc 7 1, 3) := by decide +kernel
theorem dX8_bring_101 : decode cX8_bring 101 = .ok (.goto (-30), 3) := by decide +kernel
theorem dX8_bring_104 : decode cX8_bring 104 = .ok (.iload_n 2, 1) := by decide +kernel
theorem dX8_bring_105 : decode cX8_bring 105 = .ok (.ifCond .ne 57, 3) := by decide +kernel
theorem dX8_bring_108 : decode cX8_bring 108 = .ok (.bipush 120, 2) := by decide +kernel
theorem dX8_bring_110 : decode cX8_bring 110 = .ok (.iload 5, 2) := by decide +kernel
theorem dX8_bring_112 : decode cX8_bring 112 = .ok (.iconst 2, 1) := by decide +kernel
theorem dX8_bring_113 : decode cX8_bring 113 = .ok (.irem, 1) := by decide +kernel
theorem dX8_bring_114 : decode cX8_bring 114 = .ok (.imul, 1) := by decide +kernel
theorem dX8_bring_115 : decode cX8_bring 115 = .ok (.aload_n 0, 1) := by decide +kernel
theorem dX8_bring_116 : decode cX8_bring 116 = .ok (.aload_n 0, 1) := by decide +kernel
theorem dX8_bring_117 : decode cX8_bring 117 = .ok (.iload_n 3, 1) := by decide +kernel
theorem dX8_bring_118 : decode cX8_bring 118 = .ok (.iload 4, 2) := by decide +kernel
theorem dX8_bring_120 : decode cX8_bring 120 = .ok (.invokevirtual 131, 3) := by decide +kernel
theorem dX8_bring_123 : decode cX8_bring 123 = .ok (.iload 4, 2) := by decide +kernel
theorem dX8_bring_125 : decode cX8_bring 125 = .ok (.invokevirtual 202, 3) := by decide +kernel
theorem dX8_bring_128 : decode cX8_bring 128 = .ok (.iadd, 1) := by decide +kernel
theorem dX8_bring_129 : decode cX8_bring 129 = .ok (.istore 7, 2) := by decide +kernel
theorem dX8_bring_131 : decode cX8_bring 131 = .ok (.aload_n 0, 1) := by decide +kernel
theorem dX8_bring_132 : decode cX8_bring 132 = .ok (.getfield 47, 3) := by decide +kernel
theorem dX8_bring_135 : decode cX8_bring 135 = .ok (.iload 7, 2) := by decide +kernel
theorem dX8_bring_137 : decode cX8_bring 137 = .ok (.iconst 1, 1) := by decide +kernel
theorem dX8_bring_138 : decode cX8_bring 138 = .ok (.bastore, 1) := by decide +kernel
theorem dX8_bring_139 : decode cX8_bring 139 = .ok (.aload_n 0, 1) := by decide +kernel
theorem dX8_bring_140 : decode cX8_bring 140 = .ok (.getfield 50, 3) := by decide +kernel
theorem dX8_bring_143 : decode cX8_bring 143 = .ok (.iload 7, 2) := by decide +kernel
theorem dX8_bring_145 : decode cX8_bring 145 = .ok (.iload 6, 2) := by decide +kernel
theorem dX8_bring_147 : decode cX8_bring 147 = .ok (.iastore, 1) := by decide +kernel
theorem dX8_bring_148 : decode cX8_bring 148 = .ok (.aload_n 0, 1) := by decide +kernel
theorem dX8_bring_149 : decode cX8_bring 149 = .ok (.iconst 1, 1) := by decide +kernel
theorem dX8_bring_150 : decode cX8_bring 150 = .ok (.iload 4, 2) := by decide +kernel
theorem dX8_bring_152 : decode cX8_bring 152 = .ok (.iload_n 3, 1) := by decide +kernel
theorem dX8_bring_153 : decode cX8_bring 153 = .ok (.iload 5, 2) := by decide +kernel
theorem dX8_bring_155 : decode cX8_bring 155 = .ok (.iconst 0, 1) := by decide +kernel
theorem dX8_bring_156 : decode cX8_bring 156 = .ok (.invokevirtual 261, 3) := by decide +kernel
theorem dX8_bring_159 : decode cX8_bring 159 = .ok (.goto 48, 3) := by decide +kernel
theorem dX8_bring_162 : decode cX8_bring 162 = .ok (.iload_n 2, 1) := by decide +kernel
theorem dX8_bring_163 : decode cX8_bring 163 = .ok (.iconst 1, 1) := by decide +kernel
theorem dX8_bring_164 : decode cX8_bring 164 = .ok (.if_icmp .ne 17, 3) := by decide +kernel
theorem dX8_bring_167 : decode cX8_bring 167 = .ok (.aload_n 0, 1) := by decide +kernel
theorem dX8_bring_168 : decode cX8_bring 168 = .ok (.getfield 65, 3) := by decide +kernel
theorem dX8_bring_171 : decode cX8_bring 171 = .ok (.iload 4, 2) := by decide +kernel
theorem dX8_bring_173 : decode cX8_bring 173 = .ok (.dup2, 1) := by decide +kernel
theorem dX8_bring_174 : decode cX8_bring 174 = .ok (.iaload, 1) := by decide +kernel
theorem dX8_bring_175 : decode cX8_bring 175 = .ok (.iconst 1, 1) := by decide +kernel
theorem dX8_bring_176 : decode cX8_bring 176 = .ok (.isub, 1) := by decide +kernel
theorem dX8_bring_177 : decode cX8_bring 177 = .ok (.iastore, 1) := by decide +kernel
theorem dX8_bring_178 : decode cX8_bring 178 = .ok (.goto 29, 3) := by decide +kernel
theorem dX8_bring_181 : decode cX8_bring 181 = .ok (.iload 4, 2) := by decide +kernel
theorem dX8_bring_183 : decode cX8_bring 183 = .ok (.iload_n 2, 1) := by decide +kernel
theorem dX8_bring_184 : decode cX8_bring 184 = .ok (.iload 5, 2) := by decide +kernel
theorem dX8_bring_186 : decode cX8_bring 186 = .ok (.invokestatic 252, 3) := by decide +kernel
theorem dX8_bring_189 : decode cX8_bring 189 = .ok (.istore 7, 2) := by decide +kernel
theorem dX8_bring_191 : decode cX8_bring 191 = .ok (.aload_n 0, 1) := by decide +kernel
theorem dX8_bring_192 : decode cX8_bring 192 = .ok (.getfield 77, 3) := by decide +kernel
theorem dX8_bring_195 : decode cX8_bring 195 = .ok (.iload 7, 2) := by decide +kernel
theorem dX8_bring_197 : decode cX8_bring 197 = .ok (.aload_n 0, 1) := by decide +kernel
theorem dX8_bring_198 : decode cX8_bring 198 = .ok (.getfield 77, 3) := by decide +kernel
theorem dX8_bring_201 : decode cX8_bring 201 = .ok (.iload 7, 2) := by decide +kernel
theorem dX8_bring_203 : decode cX8_bring 203 = .ok (.iaload, 1) := by decide +kernel
theorem dX8_bring_204 : decode cX8_bring 204 = .ok (.iconst 1, 1) := by decide +kernel
theorem dX8_bring_205 : decode cX8_bring 205 = .ok (.iadd, 1) := by decide +kernel
theorem dX8_bring_206 : decode cX8_bring 206 = .ok (.iastore, 1) := by decide +kernel
theorem dX8_bring_207 : decode cX8_bring 207 = .ok (.aload_n 0, 1) := by decide +kernel
theorem dX8_bring_208 : decode cX8_bring 208 = .ok (.iload 4, 2) := by decide +kernel
theorem dX8_bring_210 : decode cX8_bring 210 = .ok (.invokevirtual 302, 3) := by decide +kernel
theorem dX8_bring_213 : decode cX8_bring 213 = .ok (.iload_n 2, 1) := by decide +kernel
theorem dX8_bring_214 : decode cX8_bring 214 = .ok (.ireturn, 1) := by decide +kernel
theorem dX8_deliver_0 : decode cX8_deliver 0 = .ok (.aload_n 0, 1) := by decide +kernel
theorem dX8_deliver_1 : decode cX8_deliver 1 = .ok (.aload_n 0, 1) := by decide +kernel
theorem dX8_deliver_2 : decode cX8_deliver 2 = .ok (.getfield 120, 3) := by decide +kernel
theorem dX8_deliver_5 : decode cX8_deliver 5 = .ok (.ifCond .eq 15, 3) := by decide +kernel
theorem dX8_deliver_8 : decode cX8_deliver 8 = .ok (.iload_n 1, 1) := by decide +kernel
theorem dX8_deliver_9 : decode cX8_deliver 9 = .ok (.ifCond .lt 11, 3) := by decide +kernel
theorem dX8_deliver_12 : decode cX8_deliver 12 = .ok (.iload_n 1, 1) := by decide +kernel
theorem dX8_deliver_13 : decode cX8_deliver 13 = .ok (.aload_n 0, 1) := by decide +kernel
theorem dX8_deliver_14 : decode cX8_deliver 14 = .ok (.getfield 243, 3) := by decide +kernel
theorem dX8_deliver_17 : decode cX8_deliver 17 = .ok (.if_icmp .lt 7, 3) := by decide +kernel
theorem dX8_deliver_20 : decode cX8_deliver 20 = .ok (.iconst 1, 1) := by decide +kernel
theorem dX8_deliver_21 : decode cX8_deliver 21 = .ok (.goto 4, 3) := by decide +kernel
theorem dX8_deliver_24 : decode cX8_deliver 24 = .ok (.iconst 0, 1) := by decide +kernel
theorem dX8_deliver_25 : decode cX8_deliver 25 = .ok (.putfield 113, 3) := by decide +kernel
theorem dX8_deliver_28 : decode cX8_deliver 28 = .ok (.aload_n 0, 1) := by decide +kernel
theorem dX8_deliver_29 : decode cX8_deliver 29 = .ok (.getfield 113, 3) := by decide +kernel
theorem dX8_deliver_32 : decode cX8_deliver 32 = .ok (.ifCond .le 7, 3) := by decide +kernel
theorem dX8_deliver_35 : decode cX8_deliver 35 = .ok (.iconst 0, 1) := by decide +kernel
theorem dX8_deliver_36 : decode cX8_deliver 36 = .ok (.goto 8, 3) := by decide +kernel
theorem dX8_deliver_39 : decode cX8_deliver 39 = .ok (.aload_n 0, 1) := by decide +kernel
theorem dX8_deliver_40 : decode cX8_deliver 40 = .ok (.iload_n 1, 1) := by decide +kernel
theorem dX8_deliver_41 : decode cX8_deliver 41 = .ok (.invokevirtual 305, 3) := by decide +kernel
theorem dX8_deliver_44 : decode cX8_deliver 44 = .ok (.ireturn, 1) := by decide +kernel
theorem dX8_deliverAll_0 : decode cX8_deliverAll 0 = .ok (.aload_n 0, 1) := by decide +kernel
theorem dX8_deliverAll_1 : decode cX8_deliverAll 1 = .ok (.iload_n 1, 1) := by decide +kernel
theorem dX8_deliverAll_2 : decode cX8_deliverAll 2 = .ok (.ifCond .lt 19, 3) := by decide +kernel
theorem dX8_deliverAll_5 : decode cX8_deliverAll 5 = .ok (.iload_n 1, 1) := by decide +kernel
theorem dX8_deliverAll_6 : decode cX8_deliverAll 6 = .ok (.iconst 2, 1) := by decide +kernel
theorem dX8_deliverAll_7 : decode cX8_deliverAll 7 = .ok (.if_icmp .gt 14, 3) := by decide +kernel
theorem dX8_deliverAll_10 : decode cX8_deliverAll 10 = .ok (.iload_n 3, 1) := by decide +kernel
theorem dX8_deliverAll_11 : decode cX8_deliverAll 11 = .ok (.ifCond .lt 10, 3) := by decide +kernel
theorem dX8_deliverAll_14 : decode cX8_deliverAll 14 = .ok (.iload_n 3, 1) := by decide +kernel
theorem dX8_deliverAll_15 : decode cX8_deliverAll 15 = .ok (.sipush 2000, 3) := by decide +kernel
theorem dX8_deliverAll_18 : decode cX8_deliverAll 18 = .ok (.if_icmp .le 7, 3) := by decide +kernel
theorem dX8_deliverAll_21 : decode cX8_deliverAll 21 = .ok (.iconst 1, 1) := by decide +kernel
theorem dX8_deliverAll_22 : decode cX8_deliverAll 22 = .ok (.goto 15, 3) := by decide +kernel
theorem dX8_deliverAll_25 : decode cX8_deliverAll 25 = .ok (.aload_n 0, 1) := by decide +kernel
theorem dX8_deliverAll_26 : decode cX8_deliverAll 26 = .ok (.getfield 120, 3) := by decide +kernel
theorem dX8_deliverAll_29 : decode cX8_deliverAll 29 = .ok (.ifCond .ne 7, 3) := by decide +kernel
theorem dX8_deliverAll_32 : decode cX8_deliverAll 32 = .ok (.iconst 2, 1) := by decide +kernel
theorem dX8_deliverAll_33 : decode cX8_deliverAll 33 = .ok (.goto 4, 3) := by decide +kernel
theorem dX8_deliverAll_36 : decode cX8_deliverAll 36 = .ok (.iconst 0, 1) := by decide +kernel
theorem dX8_deliverAll_37 : decode cX8_deliverAll 37 = .ok (.putfield 113, 3) := by decide +kernel
theorem dX8_deliverAll_40 : decode cX8_deliverAll 40 = .ok (.iload_n 2, 1) := by decide +kernel
theorem dX8_deliverAll_41 : decode cX8_deliverAll 41 = .ok (.istore 4, 2) := by decide +kernel
theorem dX8_deliverAll_43 : decode cX8_deliverAll 43 = .ok (.iconst 0, 1) := by decide +kernel
theorem dX8_deliverAll_44 : decode cX8_deliverAll 44 = .ok (.istore 5, 2) := by decide +kernel
theorem dX8_deliverAll_46 : decode cX8_deliverAll 46 = .ok (.aload_n 0, 1) := by decide +kernel
theorem dX8_deliverAll_47 : decode cX8_deliverAll 47 = .ok (.getfield 113, 3) := by decide +kernel
theorem dX8_deliverAll_50 : decode cX8_deliverAll 50 = .ok (.ifCond .ne 82, 3) := by decide +kernel
theorem dX8_deliverAll_53 : decode cX8_deliverAll 53 = .ok (.aload_n 0, 1) := by decide +kernel
theorem dX8_deliverAll_54 : decode cX8_deliverAll 54 = .ok (.getfield 243, 3) := by decide +kernel
theorem dX8_deliverAll_57 : decode cX8_deliverAll 57 = .ok (.ifCond .le 75, 3) := by decide +kernel
theorem dX8_deliverAll_60 : decode cX8_deliverAll 60 = .ok (.iload 5, 2) := by decide +kernel
theorem dX8_deliverAll_62 : decode cX8_deliverAll 62 = .ok (.iload_n 3, 1) := by decide +kernel
theorem dX8_deliverAll_63 : decode cX8_deliverAll 63 = .ok (.if_icmp .ge 69, 3) := by decide +kernel
theorem dX8_deliverAll_66 : decode cX8_deliverAll 66 = .ok (.iload_n 1, 1) := by decide +kernel
theorem dX8_deliverAll_67 : decode cX8_deliverAll 67 = .ok (.iconst 2, 1) := by decide +kernel
theorem dX8_deliverAll_68 : decode cX8_deliverAll 68 = .ok (.if_icmp .ne 16, 3) := by decide +kernel
theorem dX8_deliverAll_71 : decode cX8_deliverAll 71 = .ok (.iload 4, 2) := by decide +kernel
theorem dX8_deliverAll_73 : decode cX8_deliverAll 73 = .ok (.ldc_w 308, 3) := by decide +kernel
theorem dX8_deliverAll_76 : decode cX8_deliverAll 76 = .ok (.imul, 1) := by decide +kernel
theorem dX8_deliverAll_77 : decode cX8_deliverAll 77 = .ok (.sipush 12345, 3) := by decide +kernel
theorem dX8_deliverAll_80 : decode cX8_deliverAll 80 = .ok (.iadd, 1) := by decide +kernel
theorem dX8_deliverAll_81 : decode cX8_deliverAll 81 = .ok (.goto 5, 3) := by decide +kernel
theorem dX8_deliverAll_84 : decode cX8_deliverAll 84 = .ok (.iload 4, 2) := by decide +kernel
theorem dX8_deliverAll_86 : decode cX8_deliverAll 86 = .ok (.istore 4, 2) := by decide +kernel
theorem dX8_deliverAll_88 : decode cX8_deliverAll 88 = .ok (.aload_n 0, 1) := by decide +kernel
theorem dX8_deliverAll_89 : decode cX8_deliverAll 89 = .ok (.iload_n 1, 1) := by decide +kernel
theorem dX8_deliverAll_90 : decode cX8_deliverAll 90 = .ok (.ifCond .ne 7, 3) := by decide +kernel
theorem dX8_deliverAll_93 : decode cX8_deliverAll 93 = .ok (.iconst 0, 1) := by decide +kernel
theorem dX8_deliverAll_94 : decode cX8_deliverAll 94 = .ok (.goto 27, 3) := by decide +kernel
theorem dX8_deliverAll_97 : decode cX8_deliverAll 97 = .ok (.iload_n 1, 1) := by decide +kernel
theorem dX8_deliverAll_98 : decode cX8_deliverAll 98 = .ok (.iconst 1, 1) := by decide +kernel
theorem dX8_deliverAll_99 : decode cX8_deliverAll 99 = .ok (.if_icmp .ne 12, 3) := by decide +kernel
theorem dX8_deliverAll_102 : decode cX8_deliverAll 102 = .ok (.aload_n 0, 1) := by decide +kernel
theorem dX8_deliverAll_103 : decode cX8_deliverAll 103 = .ok (.getfield 243, 3) := by decide +kernel
theorem dX8_deliverAll_106 : decode cX8_deliverAll 106 = .ok (.iconst 1, 1) := by decide +kernel
theorem dX8_deliverAll_107 : decode cX8_deliverAll 107 = .ok (.isub, 1) := by decide +kernel
theorem dX8_deliverAll_108 : decode cX8_deliverAll 108 = .ok (.goto 13, 3) := by decide +kernel
theorem dX8_deliverAll_111 : decode cX8_deliverAll 111 = .ok (.iload 4, 2) := by decide +kernel
theorem dX8_deliverAll_113 : decode cX8_deliverAll 113 = .ok (.bipush 16, 2) := by decide +kernel
theorem dX8_deliverAll_115 : decode cX8_deliverAll 115 = .ok (.iushr, 1) := by decide +kernel
theorem dX8_deliverAll_116 : decode cX8_deliverAll 116 = .ok (.aload_n 0, 1) := by decide +kernel
theorem dX8_deliverAll_117 : decode cX8_deliverAll 117 = .ok (.getfield 243, 3) := by decide +kernel
theorem dX8_deliverAll_120 : decode cX8_deliverAll 120 = .ok (.irem, 1) := by decide +kernel
theorem dX8_deliverAll_121 : decode cX8_deliverAll 121 = .ok (.invokevirtual 305, 3) := by decide +kernel
theorem dX8_deliverAll_124 : decode cX8_deliverAll 124 = .ok (.istore 6, 2) := by decide +kernel
theorem dX8_deliverAll_126 : decode cX8_deliverAll 126 = .ok (.iinc 5 1, 3) := by decide +kernel
theorem dX8_deliverAll_129 : decode cX8_deliverAll 129 = .ok (.goto (-83), 3) := by decide +kernel
theorem dX8_deliverAll_132 : decode cX8_deliverAll 132 = .ok (.iload 5, 2) := by decide +kernel
theorem dX8_deliverAll_134 : decode cX8_deliverAll 134 = .ok (.ireturn, 1) := by decide +kernel
theorem dX8_switchTo_0 : decode cX8_switchTo 0 = .ok (.aload_n 0, 1) := by decide +kernel
theorem dX8_switchTo_1 : decode cX8_switchTo 1 = .ok (.iload_n 1, 1) := by decide +kernel
theorem dX8_switchTo_2 : decode cX8_switchTo 2 = .ok (.ifCond .lt 8, 3) := by decide +kernel
theorem dX8_switchTo_5 : decode cX8_switchTo 5 = .ok (.iload_n 1, 1) := by decide +kernel
theorem dX8_switchTo_6 : decode cX8_switchTo 6 = .ok (.iconst 2, 1) := by decide +kernel
theorem dX8_switchTo_7 : decode cX8_switchTo 7 = .ok (.if_icmp .le 7, 3) := by decide +kernel
theorem dX8_switchTo_10 : decode cX8_switchTo 10 = .ok (.iconst 1, 1) := by decide +kernel
theorem dX8_switchTo_11 : decode cX8_switchTo 11 = .ok (.goto 28, 3) := by decide +kernel
theorem dX8_switchTo_14 : decode cX8_switchTo 14 = .ok (.aload_n 0, 1) := by decide +kernel
theorem dX8_switchTo_15 : decode cX8_switchTo 15 = .ok (.getfield 120, 3) := by decide +kernel
theorem dX8_switchTo_18 : decode cX8_switchTo 18 = .ok (.ifCond .ne 7, 3) := by decide +kernel
theorem dX8_switchTo_21 : decode cX8_switchTo 21 = .ok (.iconst 2, 1) := by decide +kernel
theorem dX8_switchTo_22 : decode cX8_switchTo 22 = .ok (.goto 17, 3) := by decide +kernel
theorem dX8_switchTo_25 : decode cX8_switchTo 25 = .ok (.aload_n 0, 1) := by decide +kernel
theorem dX8_switchTo_26 : decode cX8_switchTo 26 = .ok (.getfield 240, 3) := by decide +kernel
theorem dX8_switchTo_29 : decode cX8_switchTo 29 = .ok (.bipush 8, 2) := by decide +kernel
theorem dX8_switchTo_31 : decode cX8_switchTo 31 = .ok (.if_icmp .ne 7, 3) := by decide +kernel
theorem dX8_switchTo_34 : decode cX8_switchTo 34 = .ok (.iconst 3, 1) := by decide +kernel
theorem dX8_switchTo_35 : decode cX8_switchTo 35 = .ok (.goto 4, 3) := by decide +kernel
theorem dX8_switchTo_38 : decode cX8_switchTo 38 = .ok (.iconst 0, 1) := by decide +kernel
theorem dX8_switchTo_39 : decode cX8_switchTo 39 = .ok (.putfield 113, 3) := by decide +kernel
theorem dX8_switchTo_42 : decode cX8_switchTo 42 = .ok (.aload_n 0, 1) := by decide +kernel
theorem dX8_switchTo_43 : decode cX8_switchTo 43 = .ok (.getfield 113, 3) := by decide +kernel
theorem dX8_switchTo_46 : decode cX8_switchTo 46 = .ok (.ifCond .le 5, 3) := by decide +kernel
theorem dX8_switchTo_49 : decode cX8_switchTo 49 = .ok (.iconst 0, 1) := by decide +kernel
theorem dX8_switchTo_50 : decode cX8_switchTo 50 = .ok (.ireturn, 1) := by decide +kernel
theorem dX8_switchTo_51 : decode cX8_switchTo 51 = .ok (.iconst 0, 1) := by decide +kernel
theorem dX8_switchTo_52 : decode cX8_switchTo 52 = .ok (.istore_n 2, 1) := by decide +kernel
theorem dX8_switchTo_53 : decode cX8_switchTo 53 = .ok (.iconst 0, 1) := by decide +kernel
theorem dX8_switchTo_54 : decode cX8_switchTo 54 = .ok (.istore_n 3, 1) := by decide +kernel
theorem dX8_switchTo_55 : decode cX8_switchTo 55 = .ok (.iload_n 3, 1) := by decide +kernel
theorem dX8_switchTo_56 : decode cX8_switchTo 56 = .ok (.aload_n 0, 1) := by decide +kernel
theorem dX8_switchTo_57 : decode cX8_switchTo 57 = .ok (.getfield 117, 3) := by decide +kernel
theorem dX8_switchTo_60 : decode cX8_switchTo 60 = .ok (.if_icmp .ge 30, 3) := by decide +kernel
theorem dX8_switchTo_63 : decode cX8_switchTo 63 = .ok (.aload_n 0, 1) := by decide +kernel
theorem dX8_switchTo_64 : decode cX8_switchTo 64 = .ok (.getfield 59, 3) := by decide +kernel
theorem dX8_switchTo_67 : decode cX8_switchTo 67 = .ok (.iload_n 3, 1) := by decide +kernel
theorem dX8_switchTo_68 : decode cX8_switchTo 68 = .ok (.iaload, 1) := by decide +kernel
theorem dX8_switchTo_69 : decode cX8_switchTo 69 = .ok (.iload_n 2, 1) := by decide +kernel
theorem dX8_switchTo_70 : decode cX8_switchTo 70 = .ok (.if_icmp .le 12, 3) := by decide +kernel
theorem dX8_switchTo_73 : decode cX8_switchTo 73 = .ok (.aload_n 0, 1) := by decide +kernel
theorem dX8_switchTo_74 : decode cX8_switchTo 74 = .ok (.getfield 59, 3) := by decide +kernel
theorem dX8_switchTo_77 : decode cX8_switchTo 77 = .ok (.iload_n 3, 1) := by decide +kernel
theorem dX8_switchTo_78 : decode cX8_switchTo 78 = .ok (.iaload, 1) := by decide +kernel
theorem dX8_switchTo_79 : decode cX8_switchTo 79 = .ok (.goto 4, 3) := by decide +kernel
theorem dX8_switchTo_82 : decode cX8_switchTo 82 = .ok (.iload_n 2, 1) := by decide +kernel
theorem dX8_switchTo_83 : decode cX8_switchTo 83 = .ok (.istore_n 2, 1) := by decide +kernel
theorem dX8_switchTo_84 : decode cX8_switchTo 84 = .ok (.iinc 3 1, 3) := by decide +kernel
theorem dX8_switchTo_87 : decode cX8_switchTo 87 = .ok (.goto (-32), 3) := by decide +kernel
theorem dX8_switchTo_90 : decode cX8_switchTo 90 = .ok (.aload_n 0, 1) := by decide +kernel
theorem dX8_switchTo_91 : decode cX8_switchTo 91 = .ok (.dup, 1) := by decide +kernel
theorem dX8_switchTo_92 : decode cX8_switchTo 92 = .ok (.getfield 240, 3) := by decide +kernel
theorem dX8_switchTo_95 : decode cX8_switchTo 95 = .ok (.iconst 1, 1) := by decide +kernel
theorem dX8_switchTo_96 : decode cX8_switchTo 96 = .ok (.iadd, 1) := by decide +kernel
theorem dX8_switchTo_97 : decode cX8_switchTo 97 = .ok (.putfield 240, 3) := by decide +kernel
theorem dX8_switchTo_100 : decode cX8_switchTo 100 = .ok (.aload_n 0, 1) := by decide +kernel
theorem dX8_switchTo_101 : decode cX8_switchTo 101 = .ok (.getfield 53, 3) := by decide +kernel
theorem dX8_switchTo_104 : decode cX8_switchTo 104 = .ok (.aload_n 0, 1) := by decide +kernel
theorem dX8_switchTo_105 : decode cX8_switchTo 105 = .ok (.getfield 240, 3) := by decide +kernel
theorem dX8_switchTo_108 : decode cX8_switchTo 108 = .ok (.iload_n 2, 1) := by decide +kernel
theorem dX8_switchTo_109 : decode cX8_switchTo 109 = .ok (.iconst 1, 1) := by decide +kernel
theorem dX8_switchTo_110 : decode cX8_switchTo 110 = .ok (.iadd, 1) := by decide +kernel
theorem dX8_switchTo_111 : decode cX8_switchTo 111 = .ok (.iastore, 1) := by decide +kernel
theorem dX8_switchTo_112 : decode cX8_switchTo 112 = .ok (.aload_n 0, 1) := by decide +kernel
theorem dX8_switchTo_113 : decode cX8_switchTo 113 = .ok (.getfield 56, 3) := by decide +kernel
theorem dX8_switchTo_116 : decode cX8_switchTo 116 = .ok (.aload_n 0, 1) := by decide +kernel
theorem dX8_switchTo_117 : decode cX8_switchTo 117 = .ok (.getfield 240, 3) := by decide +kernel
theorem dX8_switchTo_120 : decode cX8_switchTo 120 = .ok (.iload_n 1, 1) := by decide +kernel
theorem dX8_switchTo_121 : decode cX8_switchTo 121 = .ok (.iastore, 1) := by decide +kernel
theorem dX8_switchTo_122 : decode cX8_switchTo 122 = .ok (.iload_n 2, 1) := by decide +kernel
theorem dX8_switchTo_123 : decode cX8_switchTo 123 = .ok (.iconst 1, 1) := by decide +kernel
theorem dX8_switchTo_124 : decode cX8_switchTo 124 = .ok (.iadd, 1) := by decide +kernel
theorem dX8_switchTo_125 : decode cX8_switchTo 125 = .ok (.ireturn, 1) := by decide +kernel
theorem dX8_roundOf_0 : decode cX8_roundOf 0 = .ok (.aload_n 0, 1) := by decide +kernel
theorem dX8_roundOf_1 : decode cX8_roundOf 1 = .ok (.aload_n 0, 1) := by decide +kernel
theorem dX8_roundOf_2 : decode cX8_roundOf 2 = .ok (.iload_n 1, 1) := by decide +kernel
theorem dX8_roundOf_3 : decode cX8_roundOf 3 = .ok (.invokevirtual 127, 3) := by decide +kernel
theorem dX8_roundOf_6 : decode cX8_roundOf 6 = .ok (.ifCond .ne 7, 3) := by decide +kernel
theorem dX8_roundOf_9 : decode cX8_roundOf 9 = .ok (.iconst 1, 1) := by decide +kernel
theorem dX8_roundOf_10 : decode cX8_roundOf 10 = .ok (.goto 15, 3) := by decide +kernel
theorem dX8_roundOf_13 : decode cX8_roundOf 13 = .ok (.aload_n 0, 1) := by decide +kernel
theorem dX8_roundOf_14 : decode cX8_roundOf 14 = .ok (.getfield 120, 3) := by decide +kernel
theorem dX8_roundOf_17 : decode cX8_roundOf 17 = .ok (.ifCond .ne 7, 3) := by decide +kernel
theorem dX8_roundOf_20 : decode cX8_roundOf 20 = .ok (.iconst 2, 1) := by decide +kernel
theorem dX8_roundOf_21 : decode cX8_roundOf 21 = .ok (.goto 4, 3) := by decide +kernel
theorem dX8_roundOf_24 : decode cX8_roundOf 24 = .ok (.iconst 0, 1) := by decide +kernel
theorem dX8_roundOf_25 : decode cX8_roundOf 25 = .ok (.putfield 113, 3) := by decide +kernel
theorem dX8_roundOf_28 : decode cX8_roundOf 28 = .ok (.aload_n 0, 1) := by decide +kernel
theorem dX8_roundOf_29 : decode cX8_roundOf 29 = .ok (.getfield 113, 3) := by decide +kernel
theorem dX8_roundOf_32 : decode cX8_roundOf 32 = .ok (.ifCond .le 7, 3) := by decide +kernel
theorem dX8_roundOf_35 : decode cX8_roundOf 35 = .ok (.iconst 0, 1) := by decide +kernel
theorem dX8_roundOf_36 : decode cX8_roundOf 36 = .ok (.goto 9, 3) := by decide +kernel
theorem dX8_roundOf_39 : decode cX8_roundOf 39 = .ok (.aload_n 0, 1) := by decide +kernel
theorem dX8_roundOf_40 : decode cX8_roundOf 40 = .ok (.getfield 59, 3) := by decide +kernel
theorem dX8_roundOf_43 : decode cX8_roundOf 43 = .ok (.iload_n 1, 1) := by decide +kernel
theorem dX8_roundOf_44 : decode cX8_roundOf 44 = .ok (.iaload, 1) := by decide +kernel
theorem dX8_roundOf_45 : decode cX8_roundOf 45 = .ok (.ireturn, 1) := by decide +kernel
theorem dX8_value_0 : decode cX8_value 0 = .ok (.aload_n 0, 1) := by decide +kernel
theorem dX8_value_1 : decode cX8_value 1 = .ok (.aload_n 0, 1) := by decide +kernel
theorem dX8_value_2 : decode cX8_value 2 = .ok (.iload_n 1, 1) := by decide +kernel
theorem dX8_value_3 : decode cX8_value 3 = .ok (.invokevirtual 127, 3) := by decide +kernel
theorem dX8_value_6 : decode cX8_value 6 = .ok (.ifCond .ne 7, 3) := by decide +kernel
theorem dX8_value_9 : decode cX8_value 9 = .ok (.iconst 1, 1) := by decide +kernel
theorem dX8_value_10 : decode cX8_value 10 = .ok (.goto 26, 3) := by decide +kernel
theorem dX8_value_13 : decode cX8_value 13 = .ok (.iload_n 2, 1) := by decide +kernel
theorem dX8_value_14 : decode cX8_value 14 = .ok (.invokestatic 169, 3) := by decide +kernel
theorem dX8_value_17 : decode cX8_value 17 = .ok (.ifCond .ne 7, 3) := by decide +kernel
theorem dX8_value_20 : decode cX8_value 20 = .ok (.iconst 2, 1) := by decide +kernel
theorem dX8_value_21 : decode cX8_value 21 = .ok (.goto 15, 3) := by decide +kernel
theorem dX8_value_24 : decode cX8_value 24 = .ok (.aload_n 0, 1) := by decide +kernel
theorem dX8_value_25 : decode cX8_value 25 = .ok (.getfield 120, 3) := by decide +kernel
theorem dX8_value_28 : decode cX8_value 28 = .ok (.ifCond .ne 7, 3) := by decide +kernel
theorem dX8_value_31 : decode cX8_value 31 = .ok (.iconst 3, 1) := by decide +kernel
theorem dX8_value_32 : decode cX8_value 32 = .ok (.goto 4, 3) := by decide +kernel
theorem dX8_value_35 : decode cX8_value 35 = .ok (.iconst 0, 1) := by decide +kernel
theorem dX8_value_36 : decode cX8_value 36 = .ok (.putfield 113, 3) := by decide +kernel
theorem dX8_value_39 : decode cX8_value 39 = .ok (.aload_n 0, 1) := by decide +kernel
theorem dX8_value_40 : decode cX8_value 40 = .ok (.getfield 113, 3) := by decide +kernel
theorem dX8_value_43 : decode cX8_value 43 = .ok (.ifCond .le 7, 3) := by decide +kernel
theorem dX8_value_46 : decode cX8_value 46 = .ok (.iconst 0, 1) := by decide +kernel
theorem dX8_value_47 : decode cX8_value 47 = .ok (.goto 14, 3) := by decide +kernel
theorem dX8_value_50 : decode cX8_value 50 = .ok (.aload_n 0, 1) := by decide +kernel
theorem dX8_value_51 : decode cX8_value 51 = .ok (.getfield 62, 3) := by decide +kernel
theorem dX8_value_54 : decode cX8_value 54 = .ok (.bipush 8, 2) := by decide +kernel
theorem dX8_value_56 : decode cX8_value 56 = .ok (.iload_n 1, 1) := by decide +kernel
theorem dX8_value_57 : decode cX8_value 57 = .ok (.imul, 1) := by decide +kernel
theorem dX8_value_58 : decode cX8_value 58 = .ok (.iload_n 2, 1) := by decide +kernel
theorem dX8_value_59 : decode cX8_value 59 = .ok (.iadd, 1) := by decide +kernel
theorem dX8_value_60 : decode cX8_value 60 = .ok (.iaload, 1) := by decide +kernel
theorem dX8_value_61 : decode cX8_value 61 = .ok (.ireturn, 1) := by decide +kernel
theorem dX8_place_0 : decode cX8_place 0 = .ok (.aload_n 0, 1) := by decide +kernel
theorem dX8_place_1 : decode cX8_place 1 = .ok (.aload_n 0, 1) := by decide +kernel
theorem dX8_place_2 : decode cX8_place 2 = .ok (.iload_n 1, 1) := by decide +kernel
theorem dX8_place_3 : decode cX8_place 3 = .ok (.invokevirtual 127, 3) := by decide +kernel
theorem dX8_place_6 : decode cX8_place 6 = .ok (.ifCond .ne 7, 3) := by decide +kernel
theorem dX8_place_9 : decode cX8_place 9 = .ok (.iconst 1, 1) := by decide +kernel
theorem dX8_place_10 : decode cX8_place 10 = .ok (.goto 28, 3) := by decide +kernel
theorem dX8_place_13 : decode cX8_place 13 = .ok (.iload_n 2, 1) := by decide +kernel
theorem dX8_place_14 : decode cX8_place 14 = .ok (.ifCond .lt 8, 3) := by decide +kernel
theorem dX8_place_17 : decode cX8_place 17 = .ok (.iload_n 2, 1) := by decide +kernel
theorem dX8_place_18 : decode cX8_place 18 = .ok (.iconst 5, 1) := by decide +kernel
theorem dX8_place_19 : decode cX8_place 19 = .ok (.if_icmp .le 7, 3) := by decide +kernel
theorem dX8_place_22 : decode cX8_place 22 = .ok (.iconst 2, 1) := by decide +kernel
theorem dX8_place_23 : decode cX8_place 23 = .ok (.goto 15, 3) := by decide +kernel
theorem dX8_place_26 : decode cX8_place 26 = .ok (.aload_n 0, 1) := by decide +kernel
theorem dX8_place_27 : decode cX8_place 27 = .ok (.getfield 120, 3) := by decide +kernel
theorem dX8_place_30 : decode cX8_place 30 = .ok (.ifCond .ne 7, 3) := by decide +kernel
theorem dX8_place_33 : decode cX8_place 33 = .ok (.iconst 3, 1) := by decide +kernel
theorem dX8_place_34 : decode cX8_place 34 = .ok (.goto 4, 3) := by decide +kernel
theorem dX8_place_37 : decode cX8_place 37 = .ok (.iconst 0, 1) := by decide +kernel
theorem dX8_place_38 : decode cX8_place 38 = .ok (.putfield 113, 3) := by decide +kernel
theorem dX8_place_41 : decode cX8_place 41 = .ok (.aload_n 0, 1) := by decide +kernel
theorem dX8_place_42 : decode cX8_place 42 = .ok (.getfield 113, 3) := by decide +kernel
theorem dX8_place_45 : decode cX8_place 45 = .ok (.ifCond .le 5, 3) := by decide +kernel
theorem dX8_place_48 : decode cX8_place 48 = .ok (.iconst 0, 1) := by decide +kernel
theorem dX8_place_49 : decode cX8_place 49 = .ok (.ireturn, 1) := by decide +kernel
theorem dX8_place_50 : decode cX8_place 50 = .ok (.iload_n 2, 1) := by decide +kernel
theorem dX8_place_51 : decode cX8_place 51 = .ok (.iconst 2, 1) := by decide +kernel
theorem dX8_place_52 : decode cX8_place 52 = .ok (.if_icmp .ge 23, 3) := by decide +kernel
theorem dX8_place_55 : decode cX8_place 55 = .ok (.iload_n 2, 1) := by decide +kernel
theorem dX8_place_56 : decode cX8_place 56 = .ok (.ifCond .ne 12, 3) := by decide +kernel
theorem dX8_place_59 : decode cX8_place 59 = .ok (.aload_n 0, 1) := by decide +kernel
theorem dX8_place_60 : decode cX8_place 60 = .ok (.getfield 80, 3) := by decide +kernel
theorem dX8_place_63 : decode cX8_place 63 = .ok (.iload_n 1, 1) := by decide +kernel
theorem dX8_place_64 : decode cX8_place 64 = .ok (.iaload, 1) := by decide +kernel
theorem dX8_place_65 : decode cX8_place 65 = .ok (.goto 9, 3) := by decide +kernel
theorem dX8_place_68 : decode cX8_place 68 = .ok (.aload_n 0, 1) := by decide +kernel
theorem dX8_place_69 : decode cX8_place 69 = .ok (.getfield 83, 3) := by decide +kernel
theorem dX8_place_72 : decode cX8_place 72 = .ok (.iload_n 1, 1) := by decide +kernel
theorem dX8_place_73 : decode cX8_place 73 = .ok (.iaload, 1) := by decide +kernel
theorem dX8_place_74 : decode cX8_place 74 = .ok (.ireturn, 1) := by decide +kernel
theorem dX8_place_75 : decode cX8_place 75 = .ok (.iload_n 2, 1) := by decide +kernel
theorem dX8_place_76 : decode cX8_place 76 = .ok (.iconst 2, 1) := by decide +kernel
theorem dX8_place_77 : decode cX8_place 77 = .ok (.if_icmp .ne 12, 3) := by decide +kernel
theorem dX8_place_80 : decode cX8_place 80 = .ok (.aload_n 0, 1) := by decide +kernel
theorem dX8_place_81 : decode cX8_place 81 = .ok (.getfield 86, 3) := by decide +kernel
theorem dX8_place_84 : decode cX8_place 84 = .ok (.iload_n 1, 1) := by decide +kernel
theorem dX8_place_85 : decode cX8_place 85 = .ok (.iaload, 1) := by decide +kernel
theorem dX8_place_86 : decode cX8_place 86 = .ok (.goto 36, 3) := by decide +kernel
theorem dX8_place_89 : decode cX8_place 89 = .ok (.iload_n 2, 1) := by decide +kernel
theorem dX8_place_90 : decode cX8_place 90 = .ok (.iconst 3, 1) := by decide +kernel
theorem dX8_place_91 : decode cX8_place 91 = .ok (.if_icmp .ne 12, 3) := by decide +kernel
theorem dX8_place_94 : decode cX8_place 94 = .ok (.aload_n 0, 1) := by decide +kernel
theorem dX8_place_95 : decode cX8_place 95 = .ok (.getfield 89, 3) := by decide +kernel
theorem dX8_place_98 : decode cX8_place 98 = .ok (.iload_n 1, 1) := by decide +kernel
theorem dX8_place_99 : decode cX8_place 99 = .ok (.iaload, 1) := by decide +kernel
theorem dX8_place_100 : decode cX8_place 100 = .ok (.goto 22, 3) := by decide +kernel
theorem dX8_place_103 : decode cX8_place 103 = .ok (.iload_n 2, 1) := by decide +kernel
theorem dX8_place_104 : decode cX8_place 104 = .ok (.iconst 4, 1) := by decide +kernel
theorem dX8_place_105 : decode cX8_place 105 = .ok (.if_icmp .ne 12, 3) := by decide +kernel
theorem dX8_place_108 : decode cX8_place 108 = .ok (.aload_n 0, 1) := by decide +kernel
theorem dX8_place_109 : decode cX8_place 109 = .ok (.getfield 92, 3) := by decide +kernel
theorem dX8_place_112 : decode cX8_place 112 = .ok (.iload_n 1, 1) := by decide +kernel
theorem dX8_place_113 : decode cX8_place 113 = .ok (.iaload, 1) := by decide +kernel
theorem dX8_place_114 : decode cX8_place 114 = .ok (.goto 8, 3) := by decide +kernel
theorem dX8_place_117 : decode cX8_place 117 = .ok (.aload_n 0, 1) := by decide +kernel
theorem dX8_place_118 : decode cX8_place 118 = .ok (.iload_n 1, 1) := by decide +kernel
theorem dX8_place_119 : decode cX8_place 119 = .ok (.invokevirtual 287, 3) := by decide +kernel
theorem dX8_place_122 : decode cX8_place 122 = .ok (.ireturn, 1) := by decide +kernel
theorem dX8_chosen_0 : decode cX8_chosen 0 = .ok (.aload_n 0, 1) := by decide +kernel
theorem dX8_chosen_1 : decode cX8_chosen 1 = .ok (.aload_n 0, 1) := by decide +kernel
theorem dX8_chosen_2 : decode cX8_chosen 2 = .ok (.getfield 120, 3) := by decide +kernel
theorem dX8_chosen_5 : decode cX8_chosen 5 = .ok (.ifCond .eq 27, 3) := by decide +kernel
theorem dX8_chosen_8 : decode cX8_chosen 8 = .ok (.iload_n 1, 1) := by decide +kernel
theorem dX8_chosen_9 : decode cX8_chosen 9 = .ok (.ifCond .lt 23, 3) := by decide +kernel
theorem dX8_chosen_12 : decode cX8_chosen 12 = .ok (.iload_n 1, 1) := by decide +kernel
theorem dX8_chosen_13 : decode cX8_chosen 13 = .ok (.aload_n 0, 1) := by decide +kernel
theorem dX8_chosen_14 : decode cX8_chosen 14 = .ok (.getfield 215, 3) := by decide +kernel
theorem dX8_chosen_17 : decode cX8_chosen 17 = .ok (.if_icmp .ge 15, 3) := by decide +kernel
theorem dX8_chosen_20 : decode cX8_chosen 20 = .ok (.iload_n 2, 1) := by decide +kernel
theorem dX8_chosen_21 : decode cX8_chosen 21 = .ok (.ifCond .lt 11, 3) := by decide +kernel
theorem dX8_chosen_24 : decode cX8_chosen 24 = .ok (.iload_n 2, 1) := by decide +kernel
theorem dX8_chosen_25 : decode cX8_chosen 25 = .ok (.aload_n 0, 1) := by decide +kernel
theorem dX8_chosen_26 : decode cX8_chosen 26 = .ok (.getfield 215, 3) := by decide +kernel
theorem dX8_chosen_29 : decode cX8_chosen 29 = .ok (.if_icmp .lt 7, 3) := by decide +kernel
theorem dX8_chosen_32 : decode cX8_chosen 32 = .ok (.iconst 1, 1) := by decide +kernel
theorem dX8_chosen_33 : decode cX8_chosen 33 = .ok (.goto 4, 3) := by decide +kernel
theorem dX8_chosen_36 : decode cX8_chosen 36 = .ok (.iconst 0, 1) := by decide +kernel
theorem dX8_chosen_37 : decode cX8_chosen 37 = .ok (.putfield 113, 3) := by decide +kernel
theorem dX8_chosen_40 : decode cX8_chosen 40 = .ok (.aload_n 0, 1) := by decide +kernel
theorem dX8_chosen_41 : decode cX8_chosen 41 = .ok (.getfield 113, 3) := by decide +kernel
theorem dX8_chosen_44 : decode cX8_chosen 44 = .ok (.ifCond .le 7, 3) := by decide +kernel
theorem dX8_chosen_47 : decode cX8_chosen 47 = .ok (.iconst 0, 1) := by decide +kernel
theorem dX8_chosen_48 : decode cX8_chosen 48 = .ok (.goto 9, 3) := by decide +kernel
theorem dX8_chosen_51 : decode cX8_chosen 51 = .ok (.aload_n 0, 1) := by decide +kernel
theorem dX8_chosen_52 : decode cX8_chosen 52 = .ok (.iload_n 1, 1) := by decide +kernel
theorem dX8_chosen_53 : decode cX8_chosen 53 = .ok (.iload_n 2, 1) := by decide +kernel
theorem dX8_chosen_54 : decode cX8_chosen 54 = .ok (.invokevirtual 227, 3) := by decide +kernel
theorem dX8_chosen_57 : decode cX8_chosen 57 = .ok (.ireturn, 1) := by decide +kernel
theorem dX8_count_0 : decode cX8_count 0 = .ok (.aload_n 0, 1) := by decide +kernel
theorem dX8_count_1 : decode cX8_count 1 = .ok (.aload_n 0, 1) := by decide +kernel
theorem dX8_count_2 : decode cX8_count 2 = .ok (.getfield 120, 3) := by decide +kernel
theorem dX8_count_5 : decode cX8_count 5 = .ok (.ifCond .eq 13, 3) := by decide +kernel
theorem dX8_count_8 : decode cX8_count 8 = .ok (.iload_n 1, 1) := by decide +kernel
theorem dX8_count_9 : decode cX8_count 9 = .ok (.ifCond .lt 9, 3) := by decide +kernel
theorem dX8_count_12 : decode cX8_count 12 = .ok (.iload_n 1, 1) := by decide +kernel
theorem dX8_count_13 : decode cX8_count 13 = .ok (.bipush 6, 2) := by decide +kernel
theorem dX8_count_15 : decode cX8_count 15 = .ok (.if_icmp .le 7, 3) := by decide +kernel
theorem dX8_count_18 : decode cX8_count 18 = .ok (.iconst 1, 1) := by decide +kernel
theorem dX8_count_19 : decode cX8_count 19 = .ok (.goto 4, 3) := by decide +kernel
theorem dX8_count_22 : decode cX8_count 22 = .ok (.iconst 0, 1) := by decide +kernel
theorem dX8_count_23 : decode cX8_count 23 = .ok (.putfield 113, 3) := by decide +kernel
theorem dX8_count_26 : decode cX8_count 26 = .ok (.aload_n 0, 1) := by decide +kernel
theorem dX8_count_27 : decode cX8_count 27 = .ok (.getfield 113, 3) := by decide +kernel
theorem dX8_count_30 : decode cX8_count 30 = .ok (.ifCond .le 5, 3) := by decide +kernel
theorem dX8_count_33 : decode cX8_count 33 = .ok (.iconst 0, 1) := by decide +kernel
theorem dX8_count_34 : decode cX8_count 34 = .ok (.ireturn, 1) := by decide +kernel
theorem dX8_count_35 : decode cX8_count 35 = .ok (.iload_n 1, 1) := by decide +kernel
theorem dX8_count_36 : decode cX8_count 36 = .ok (.iconst 4, 1) := by decide +kernel
theorem dX8_count_37 : decode cX8_count 37 = .ok (.if_icmp .ge 22, 3) := by decide +kernel
theorem dX8_count_40 : decode cX8_count 40 = .ok (.iload_n 1, 1) := by decide +kernel
theorem dX8_count_41 : decode cX8_count 41 = .ok (.iconst 3, 1) := by decide +kernel
theorem dX8_count_42 : decode cX8_count 42 = .ok (.if_icmp .ge 12, 3) := by decide +kernel
theorem dX8_count_45 : decode cX8_count 45 = .ok (.aload_n 0, 1) := by decide +kernel
theorem dX8_count_46 : decode cX8_count 46 = .ok (.getfield 104, 3) := by decide +kernel
theorem dX8_count_49 : decode cX8_count 49 = .ok (.iload_n 1, 1) := by decide +kernel
theorem dX8_count_50 : decode cX8_count 50 = .ok (.iaload, 1) := by decide +kernel
theorem dX8_count_51 : decode cX8_count 51 = .ok (.goto 7, 3) := by decide +kernel
theorem dX8_count_54 : decode cX8_count 54 = .ok (.aload_n 0, 1) := by decide +kernel
theorem dX8_count_55 : decode cX8_count 55 = .ok (.getfield 246, 3) := by decide +kernel
theorem dX8_count_58 : decode cX8_count 58 = .ok (.ireturn, 1) := by decide +kernel
theorem dX8_count_59 : decode cX8_count 59 = .ok (.iconst 0, 1) := by decide +kernel
theorem dX8_count_60 : decode cX8_count 60 = .ok (.istore_n 2, 1) := by decide +kernel
theorem dX8_count_61 : decode cX8_count 61 = .ok (.iconst 0, 1) := by decide +kernel
theorem dX8_count_62 : decode cX8_count 62 = .ok (.istore_n 3, 1) := by decide +kernel
theorem dX8_count_63 : decode cX8_count 63 = .ok (.iload_n 3, 1) := by decide +kernel
theorem dX8_count_64 : decode cX8_count 64 = .ok (.aload_n 0, 1) := by decide +kernel
theorem dX8_count_65 : decode cX8_count 65 = .ok (.getfield 124, 3) := by decide +kernel
theorem dX8_count_68 : decode cX8_count 68 = .ok (.if_icmp .ge 26, 3) := by decide +kernel
theorem dX8_count_71 : decode cX8_count 71 = .ok (.iload_n 2, 1) := by decide +kernel
theorem dX8_count_72 : decode cX8_count 72 = .ok (.aload_n 0, 1) := by decide +kernel
theorem dX8_count_73 : decode cX8_count 73 = .ok (.getfield 95, 3) := by decide +kernel
theorem dX8_count_76 : decode cX8_count 76 = .ok (.iload_n 3, 1) := by decide +kernel
theorem dX8_count_77 : decode cX8_count 77 = .ok (.baload, 1) := by decide +kernel
theorem dX8_count_78 : decode cX8_count 78 = .ok (.ifCond .eq 7, 3) := by decide +kernel
theorem dX8_count_81 : decode cX8_count 81 = .ok (.iconst 1, 1) := by decide +kernel
theorem dX8_count_82 : decode cX8_count 82 = .ok (.goto 4, 3) := by decide +kernel
theorem dX8_count_85 : decode cX8_count 85 = .ok (.iconst 0, 1) := by decide +kernel
theorem dX8_count_86 : decode cX8_count 86 = .ok (.iadd, 1) := by decide +kernel
theorem dX8_count_87 : decode cX8_count 87 = .ok (.istore_n 2, 1) := by decide +kernel
theorem dX8_count_88 : decode cX8_count 88 = .ok (.iinc 3 1, 3) := by decide +kernel
theorem dX8_count_91 : decode cX8_count 91 = .ok (.goto (-28), 3) := by decide +kernel
theorem dX8_count_94 : decode cX8_count 94 = .ok (.iload_n 1, 1) := by decide +kernel
theorem dX8_count_95 : decode cX8_count 95 = .ok (.iconst 4, 1) := by decide +kernel
theorem dX8_count_96 : decode cX8_count 96 = .ok (.if_icmp .ne 12, 3) := by decide +kernel
theorem dX8_count_99 : decode cX8_count 99 = .ok (.iconst 2, 1) := by decide +kernel
theorem dX8_count_100 : decode cX8_count 100 = .ok (.aload_n 0, 1) := by decide +kernel
theorem dX8_count_101 : decode cX8_count 101 = .ok (.getfield 124, 3) := by decide +kernel
theorem dX8_count_104 : decode cX8_count 104 = .ok (.imul, 1) := by decide +kernel
theorem dX8_count_105 : decode cX8_count 105 = .ok (.goto 34, 3) := by decide +kernel
theorem dX8_count_108 : decode cX8_count 108 = .ok (.iload_n 1, 1) := by decide +kernel
theorem dX8_count_109 : decode cX8_count 109 = .ok (.iconst 5, 1) := by decide +kernel
theorem dX8_count_110 : decode cX8_count 110 = .ok (.if_icmp .ne 14, 3) := by decide +kernel
theorem dX8_count_113 : decode cX8_count 113 = .ok (.iconst 2, 1) := by decide +kernel
theorem dX8_count_114 : decode cX8_count 114 = .ok (.aload_n 0, 1) := by decide +kernel
theorem dX8_count_115 : decode cX8_count 115 = .ok (.getfield 117, 3) := by decide +kernel
theorem dX8_count_118 : decode cX8_count 118 = .ok (.iconst 1, 1) := by decide +kernel
theorem dX8_count_119 : decode cX8_count 119 = .ok (.isub, 1) := by decide +kernel
theorem dX8_count_120 : decode cX8_count 120 = .ok (.imul, 1) := by decide +kernel
theorem dX8_count_121 : decode cX8_count 121 = .ok (.goto 18, 3) := by decide +kernel
theorem dX8_count_124 : decode cX8_count 124 = .ok (.iconst 4, 1) := by decide +kernel
theorem dX8_count_125 : decode cX8_count 125 = .ok (.aload_n 0, 1) := by decide +kernel
theorem dX8_count_126 : decode cX8_count 126 = .ok (.getfield 117, 3) := by decide +kernel
theorem dX8_count_129 : decode cX8_count 129 = .ok (.aload_n 0, 1) := by decide +kernel
theorem dX8_count_130 : decode cX8_count 130 = .ok (.getfield 215, 3) := by decide +kernel
theorem dX8_count_133 : decode cX8_count 133 = .ok (.isub, 1) := by decide +kernel
theorem dX8_count_134 : decode cX8_count 134 = .ok (.imul, 1) := by decide +kernel
theorem dX8_count_135 : decode cX8_count 135 = .ok (.iconst 2, 1) := by decide +kernel
theorem dX8_count_136 : decode cX8_count 136 = .ok (.iload_n 2, 1) := by decide +kernel
theorem dX8_count_137 : decode cX8_count 137 = .ok (.imul, 1) := by decide +kernel
theorem dX8_count_138 : decode cX8_count 138 = .ok (.iadd, 1) := by decide +kernel
theorem dX8_count_139 : decode cX8_count 139 = .ok (.ireturn, 1) := by decide +kernel
