theorem dX8_init_0 : decode cX8_init 0 = .ok (.aload_n 0, 1) := by decide +kernel
theorem dX8_init_1 : decode cX8_init 1 = .ok (.invokespecial 1, 3) := by decide +kernel
theorem dX8_init_4 : decode cX8_init 4 = .ok (.aload_n 0, 1) := by decide +kernel
theorem dX8_init_5 : decode cX8_init 5 = .ok (.bipush 60, 2) := by decide +kernel
theorem dX8_init_7 : decode cX8_init 7 = .ok (.newarray .int, 2) := by decide +kernel
theorem dX8_init_9 : decode cX8_init 9 = .ok (.putfield 7, 3) := by decide +kernel
theorem dX8_init_12 : decode cX8_init 12 = .ok (.aload_n 0, 1) := by decide +kernel
theorem dX8_init_13 : decode cX8_init 13 = .ok (.bipush 60, 2) := by decide +kernel
theorem dX8_init_15 : decode cX8_init 15 = .ok (.newarray .int, 2) := by decide +kernel
theorem dX8_init_17 : decode cX8_init 17 = .ok (.putfield 13, 3) := by decide +kernel
theorem dX8_init_20 : decode cX8_init 20 = .ok (.aload_n 0, 1) := by decide +kernel
theorem dX8_init_21 : decode cX8_init 21 = .ok (.bipush 24, 2) := by decide +kernel
theorem dX8_init_23 : decode cX8_init 23 = .ok (.newarray .int, 2) := by decide +kernel
theorem dX8_init_25 : decode cX8_init 25 = .ok (.putfield 16, 3) := by decide +kernel
theorem dX8_init_28 : decode cX8_init 28 = .ok (.aload_n 0, 1) := by decide +kernel
theorem dX8_init_29 : decode cX8_init 29 = .ok (.sipush 576, 3) := by decide +kernel
theorem dX8_init_32 : decode cX8_init 32 = .ok (.newarray .int, 2) := by decide +kernel
theorem dX8_init_34 : decode cX8_init 34 = .ok (.putfield 19, 3) := by decide +kernel
theorem dX8_init_37 : decode cX8_init 37 = .ok (.aload_n 0, 1) := by decide +kernel
theorem dX8_init_38 : decode cX8_init 38 = .ok (.sipush 192, 3) := by decide +kernel
theorem dX8_init_41 : decode cX8_init 41 = .ok (.newarray .int, 2) := by decide +kernel
theorem dX8_init_43 : decode cX8_init 43 = .ok (.putfield 22, 3) := by decide +kernel
theorem dX8_init_46 : decode cX8_init 46 = .ok (.aload_n 0, 1) := by decide +kernel
theorem dX8_init_47 : decode cX8_init 47 = .ok (.sipush 192, 3) := by decide +kernel
theorem dX8_init_50 : decode cX8_init 50 = .ok (.newarray .int, 2) := by decide +kernel
theorem dX8_init_52 : decode cX8_init 52 = .ok (.putfield 25, 3) := by decide +kernel
theorem dX8_init_55 : decode cX8_init 55 = .ok (.aload_n 0, 1) := by decide +kernel
theorem dX8_init_56 : decode cX8_init 56 = .ok (.sipush 256, 3) := by decide +kernel
theorem dX8_init_59 : decode cX8_init 59 = .ok (.newarray .int, 2) := by decide +kernel
theorem dX8_init_61 : decode cX8_init 61 = .ok (.putfield 28, 3) := by decide +kernel
theorem dX8_init_64 : decode cX8_init 64 = .ok (.aload_n 0, 1) := by decide +kernel
theorem dX8_init_65 : decode cX8_init 65 = .ok (.bipush 8, 2) := by decide +kernel
theorem dX8_init_67 : decode cX8_init 67 = .ok (.newarray .int, 2) := by decide +kernel
theorem dX8_init_69 : decode cX8_init 69 = .ok (.putfield 31, 3) := by decide +kernel
theorem dX8_init_72 : decode cX8_init 72 = .ok (.aload_n 0, 1) := by decide +kernel
theorem dX8_init_73 : decode cX8_init 73 = .ok (.bipush 24, 2) := by decide +kernel
theorem dX8_init_75 : decode cX8_init 75 = .ok (.newarray .boolean, 2) := by decide +kernel
theorem dX8_init_77 : decode cX8_init 77 = .ok (.putfield 34, 3) := by decide +kernel
theorem dX8_init_80 : decode cX8_init 80 = .ok (.aload_n 0, 1) := by decide +kernel
theorem dX8_init_81 : decode cX8_init 81 = .ok (.bipush 24, 2) := by decide +kernel
theorem dX8_init_83 : decode cX8_init 83 = .ok (.newarray .int, 2) := by decide +kernel
theorem dX8_init_85 : decode cX8_init 85 = .ok (.putfield 38, 3) := by decide +kernel
theorem dX8_init_88 : decode cX8_init 88 = .ok (.aload_n 0, 1) := by decide +kernel
theorem dX8_init_89 : decode cX8_init 89 = .ok (.bipush 24, 2) := by decide +kernel
theorem dX8_init_91 : decode cX8_init 91 = .ok (.newarray .boolean, 2) := by decide +kernel
theorem dX8_init_93 : decode cX8_init 93 = .ok (.putfield 41, 3) := by decide +kernel
theorem dX8_init_96 : decode cX8_init 96 = .ok (.aload_n 0, 1) := by decide +kernel
theorem dX8_init_97 : decode cX8_init 97 = .ok (.bipush 24, 2) := by decide +kernel
theorem dX8_init_99 : decode cX8_init 99 = .ok (.newarray .int, 2) := by decide +kernel
theorem dX8_init_101 : decode cX8_init 101 = .ok (.putfield 44, 3) := by decide +kernel
theorem dX8_init_104 : decode cX8_init 104 = .ok (.aload_n 0, 1) := by decide +kernel
theorem dX8_init_105 : decode cX8_init 105 = .ok (.sipush 240, 3) := by decide +kernel
theorem dX8_init_108 : decode cX8_init 108 = .ok (.newarray .boolean, 2) := by decide +kernel
theorem dX8_init_110 : decode cX8_init 110 = .ok (.putfield 47, 3) := by decide +kernel
theorem dX8_init_113 : decode cX8_init 113 = .ok (.aload_n 0, 1) := by decide +kernel
theorem dX8_init_114 : decode cX8_init 114 = .ok (.sipush 240, 3) := by decide +kernel
theorem dX8_init_117 : decode cX8_init 117 = .ok (.newarray .int, 2) := by decide +kernel
theorem dX8_init_119 : decode cX8_init 119 = .ok (.putfield 50, 3) := by decide +kernel
theorem dX8_init_122 : decode cX8_init 122 = .ok (.aload_n 0, 1) := by decide +kernel
theorem dX8_init_123 : decode cX8_init 123 = .ok (.bipush 9, 2) := by decide +kernel
theorem dX8_init_125 : decode cX8_init 125 = .ok (.newarray .int, 2) := by decide +kernel
theorem dX8_init_127 : decode cX8_init 127 = .ok (.putfield 53, 3) := by decide +kernel
theorem dX8_init_130 : decode cX8_init 130 = .ok (.aload_n 0, 1) := by decide +kernel
theorem dX8_init_131 : decode cX8_init 131 = .ok (.bipush 9, 2) := by decide +kernel
theorem dX8_init_133 : decode cX8_init 133 = .ok (.newarray .int, 2) := by decide +kernel
theorem dX8_init_135 : decode cX8_init 135 = .ok (.putfield 56, 3) := by decide +kernel
theorem dX8_init_138 : decode cX8_init 138 = .ok (.aload_n 0, 1) := by decide +kernel
theorem dX8_init_139 : decode cX8_init 139 = .ok (.bipush 24, 2) := by decide +kernel
theorem dX8_init_141 : decode cX8_init 141 = .ok (.newarray .int, 2) := by decide +kernel
theorem dX8_init_143 : decode cX8_init 143 = .ok (.putfield 59, 3) := by decide +kernel
theorem dX8_init_146 : decode cX8_init 146 = .ok (.aload_n 0, 1) := by decide +kernel
theorem dX8_init_147 : decode cX8_init 147 = .ok (.sipush 192, 3) := by decide +kernel
theorem dX8_init_150 : decode cX8_init 150 = .ok (.newarray .int, 2) := by decide +kernel
theorem dX8_init_152 : decode cX8_init 152 = .ok (.putfield 62, 3) := by decide +kernel
theorem dX8_init_155 : decode cX8_init 155 = .ok (.aload_n 0, 1) := by decide +kernel
theorem dX8_init_156 : decode cX8_init 156 = .ok (.bipush 24, 2) := by decide +kernel
theorem dX8_init_158 : decode cX8_init 158 = .ok (.newarray .int, 2) := by decide +kernel
theorem dX8_init_160 : decode cX8_init 160 = .ok (.putfield 65, 3) := by decide +kernel
theorem dX8_init_163 : decode cX8_init 163 = .ok (.aload_n 0, 1) := by decide +kernel
theorem dX8_init_164 : decode cX8_init 164 = .ok (.bipush 24, 2) := by decide +kernel
theorem dX8_init_166 : decode cX8_init 166 = .ok (.newarray .boolean, 2) := by decide +kernel
theorem dX8_init_168 : decode cX8_init 168 = .ok (.putfield 68, 3) := by decide +kernel
theorem dX8_init_171 : decode cX8_init 171 = .ok (.aload_n 0, 1) := by decide +kernel
theorem dX8_init_172 : decode cX8_init 172 = .ok (.bipush 24, 2) := by decide +kernel
theorem dX8_init_174 : decode cX8_init 174 = .ok (.newarray .boolean, 2) := by decide +kernel
theorem dX8_init_176 : decode cX8_init 176 = .ok (.putfield 71, 3) := by decide +kernel
theorem dX8_init_179 : decode cX8_init 179 = .ok (.aload_n 0, 1) := by decide +kernel
theorem dX8_init_180 : decode cX8_init 180 = .ok (.bipush 24, 2) := by decide +kernel
theorem dX8_init_182 : decode cX8_init 182 = .ok (.newarray .boolean, 2) := by decide +kernel
theorem dX8_init_184 : decode cX8_init 184 = .ok (.putfield 74, 3) := by decide +kernel
theorem dX8_init_187 : decode cX8_init 187 = .ok (.aload_n 0, 1) := by decide +kernel
theorem dX8_init_188 : decode cX8_init 188 = .ok (.sipush 384, 3) := by decide +kernel
theorem dX8_init_191 : decode cX8_init 191 = .ok (.newarray .int, 2) := by decide +kernel
theorem dX8_init_193 : decode cX8_init 193 = .ok (.putfield 77, 3) := by decide +kernel
theorem dX8_init_196 : decode cX8_init 196 = .ok (.aload_n 0, 1) := by decide +kernel
theorem dX8_init_197 : decode cX8_init 197 = .ok (.bipush 24, 2) := by decide +kernel
theorem dX8_init_199 : decode cX8_init 199 = .ok (.newarray .int, 2) := by decide +kernel
theorem dX8_init_201 : decode cX8_init 201 = .ok (.putfield 80, 3) := by decide +kernel
theorem dX8_init_204 : decode cX8_init 204 = .ok (.aload_n 0, 1) := by decide +kernel
theorem dX8_init_205 : decode cX8_init 205 = .ok (.bipush 24, 2) := by decide +kernel
theorem dX8_init_207 : decode cX8_init 207 = .ok (.newarray .int, 2) := by decide +kernel
theorem dX8_init_209 : decode cX8_init 209 = .ok (.putfield 83, 3) := by decide +kernel
theorem dX8_init_212 : decode cX8_init 212 = .ok (.aload_n 0, 1) := by decide +kernel
theorem dX8_init_213 : decode cX8_init 213 = .ok (.bipush 24, 2) := by decide +kernel
theorem dX8_init_215 : decode cX8_init 215 = .ok (.newarray .int, 2) := by decide +kernel
theorem dX8_init_217 : decode cX8_init 217 = .ok (.putfield 86, 3) := by decide +kernel
theorem dX8_init_220 : decode cX8_init 220 = .ok (.aload_n 0, 1) := by decide +kernel
theorem dX8_init_221 : decode cX8_init 221 = .ok (.bipush 24, 2) := by decide +kernel
theorem dX8_init_223 : decode cX8_init 223 = .ok (.newarray .int, 2) := by decide +kernel
theorem dX8_init_225 : decode cX8_init 225 = .ok (.putfield 89, 3) := by decide +kernel
theorem dX8_init_228 : decode cX8_init 228 = .ok (.aload_n 0, 1) := by decide +kernel
theorem dX8_init_229 : decode cX8_init 229 = .ok (.bipush 24, 2) := by decide +kernel
theorem dX8_init_231 : decode cX8_init 231 = .ok (.newarray .int, 2) := by decide +kernel
theorem dX8_init_233 : decode cX8_init 233 = .ok (.putfield 92, 3) := by decide +kernel
theorem dX8_init_236 : decode cX8_init 236 = .ok (.aload_n 0, 1) := by decide +kernel
theorem dX8_init_237 : decode cX8_init 237 = .ok (.bipush 60, 2) := by decide +kernel
theorem dX8_init_239 : decode cX8_init 239 = .ok (.newarray .boolean, 2) := by decide +kernel
theorem dX8_init_241 : decode cX8_init 241 = .ok (.putfield 95, 3) := by decide +kernel
theorem dX8_init_244 : decode cX8_init 244 = .ok (.aload_n 0, 1) := by decide +kernel
theorem dX8_init_245 : decode cX8_init 245 = .ok (.bipush 24, 2) := by decide +kernel
theorem dX8_init_247 : decode cX8_init 247 = .ok (.newarray .int, 2) := by decide +kernel
theorem dX8_init_249 : decode cX8_init 249 = .ok (.putfield 98, 3) := by decide +kernel
theorem dX8_init_252 : decode cX8_init 252 = .ok (.aload_n 0, 1) := by decide +kernel
theorem dX8_init_253 : decode cX8_init 253 = .ok (.sipush 20480, 3) := by decide +kernel
theorem dX8_init_256 : decode cX8_init 256 = .ok (.newarray .int, 2) := by decide +kernel
theorem dX8_init_258 : decode cX8_init 258 = .ok (.putfield 101, 3) := by decide +kernel
theorem dX8_init_261 : decode cX8_init 261 = .ok (.aload_n 0, 1) := by decide +kernel
theorem dX8_init_262 : decode cX8_init 262 = .ok (.iconst 3, 1) := by decide +kernel
theorem dX8_init_263 : decode cX8_init 263 = .ok (.newarray .int, 2) := by decide +kernel
theorem dX8_init_265 : decode cX8_init 265 = .ok (.putfield 104, 3) := by decide +kernel
theorem dX8_init_268 : decode cX8_init 268 = .ok (.aload_n 0, 1) := by decide +kernel
theorem dX8_init_269 : decode cX8_init 269 = .ok (.sipush 240, 3) := by decide +kernel
theorem dX8_init_272 : decode cX8_init 272 = .ok (.newarray .boolean, 2) := by decide +kernel
theorem dX8_init_274 : decode cX8_init 274 = .ok (.putfield 107, 3) := by decide +kernel
theorem dX8_init_277 : decode cX8_init 277 = .ok (.aload_n 0, 1) := by decide +kernel
theorem dX8_init_278 : decode cX8_init 278 = .ok (.sipush 240, 3) := by decide +kernel
theorem dX8_init_281 : decode cX8_init 281 = .ok (.newarray .int, 2) := by decide +kernel
theorem dX8_init_283 : decode cX8_init 283 = .ok (.putfield 110, 3) := by decide +kernel
theorem dX8_init_286 : decode cX8_init 286 = .ok (.return_, 1) := by decide +kernel
theorem dX8_thrown_0 : decode cX8_thrown 0 = .ok (.aload_n 0, 1) := by decide +kernel
theorem dX8_thrown_1 : decode cX8_thrown 1 = .ok (.getfield 113, 3) := by decide +kernel
theorem dX8_thrown_4 : decode cX8_thrown 4 = .ok (.ireturn, 1) := by decide +kernel
theorem dX8_isNode_0 : decode cX8_isNode 0 = .ok (.iload_n 1, 1) := by decide +kernel
theorem dX8_isNode_1 : decode cX8_isNode 1 = .ok (.ifCond .lt 15, 3) := by decide +kernel
theorem dX8_isNode_4 : decode cX8_isNode 4 = .ok (.iload_n 1, 1) := by decide +kernel
theorem dX8_isNode_5 : decode cX8_isNode 5 = .ok (.aload_n 0, 1) := by decide +kernel
theorem dX8_isNode_6 : decode cX8_isNode 6 = .ok (.getfield 117, 3) := by decide +kernel
theorem dX8_isNode_9 : decode cX8_isNode 9 = .ok (.if_icmp .ge 7, 3) := by decide +kernel
theorem dX8_isNode_12 : decode cX8_isNode 12 = .ok (.iconst 1, 1) := by decide +kernel
theorem dX8_isNode_13 : decode cX8_isNode 13 = .ok (.goto 4, 3) := by decide +kernel
theorem dX8_isNode_16 : decode cX8_isNode 16 = .ok (.iconst 0, 1) := by decide +kernel
theorem dX8_isNode_17 : decode cX8_isNode 17 = .ok (.ireturn, 1) := by decide +kernel
theorem dX8_net_0 : decode cX8_net 0 = .ok (.aload_n 0, 1) := by decide +kernel
theorem dX8_net_1 : decode cX8_net 1 = .ok (.iload_n 1, 1) := by decide +kernel
theorem dX8_net_2 : decode cX8_net 2 = .ok (.iconst 1, 1) := by decide +kernel
theorem dX8_net_3 : decode cX8_net 3 = .ok (.if_icmp .lt 9, 3) := by decide +kernel
theorem dX8_net_6 : decode cX8_net 6 = .ok (.iload_n 1, 1) := by decide +kernel
theorem dX8_net_7 : decode cX8_net 7 = .ok (.bipush 24, 2) := by decide +kernel
theorem dX8_net_9 : decode cX8_net 9 = .ok (.if_icmp .le 7, 3) := by decide +kernel
theorem dX8_net_12 : decode cX8_net 12 = .ok (.iconst 1, 1) := by decide +kernel
theorem dX8_net_13 : decode cX8_net 13 = .ok (.goto 15, 3) := by decide +kernel
theorem dX8_net_16 : decode cX8_net 16 = .ok (.aload_n 0, 1) := by decide +kernel
theorem dX8_net_17 : decode cX8_net 17 = .ok (.getfield 120, 3) := by decide +kernel
theorem dX8_net_20 : decode cX8_net 20 = .ok (.ifCond .eq 7, 3) := by decide +kernel
theorem dX8_net_23 : decode cX8_net 23 = .ok (.iconst 2, 1) := by decide +kernel
theorem dX8_net_24 : decode cX8_net 24 = .ok (.goto 4, 3) := by decide +kernel
theorem dX8_net_27 : decode cX8_net 27 = .ok (.iconst 0, 1) := by decide +kernel
theorem dX8_net_28 : decode cX8_net 28 = .ok (.putfield 113, 3) := by decide +kernel
theorem dX8_net_31 : decode cX8_net 31 = .ok (.aload_n 0, 1) := by decide +kernel
theorem dX8_net_32 : decode cX8_net 32 = .ok (.getfield 113, 3) := by decide +kernel
theorem dX8_net_35 : decode cX8_net 35 = .ok (.ifCond .le 4, 3) := by decide +kernel
theorem dX8_net_38 : decode cX8_net 38 = .ok (.return_, 1) := by decide +kernel
theorem dX8_net_39 : decode cX8_net 39 = .ok (.aload_n 0, 1) := by decide +kernel
theorem dX8_net_40 : decode cX8_net 40 = .ok (.iload_n 1, 1) := by decide +kernel
theorem dX8_net_41 : decode cX8_net 41 = .ok (.putfield 117, 3) := by decide +kernel
theorem dX8_net_44 : decode cX8_net 44 = .ok (.aload_n 0, 1) := by decide +kernel
theorem dX8_net_45 : decode cX8_net 45 = .ok (.iconst 0, 1) := by decide +kernel
theorem dX8_net_46 : decode cX8_net 46 = .ok (.putfield 124, 3) := by decide +kernel
theorem dX8_net_49 : decode cX8_net 49 = .ok (.iconst 0, 1) := by decide +kernel
theorem dX8_net_50 : decode cX8_net 50 = .ok (.istore_n 2, 1) := by decide +kernel
theorem dX8_net_51 : decode cX8_net 51 = .ok (.iload_n 2, 1) := by decide +kernel
theorem dX8_net_52 : decode cX8_net 52 = .ok (.bipush 24, 2) := by decide +kernel
theorem dX8_net_54 : decode cX8_net 54 = .ok (.if_icmp .ge 16, 3) := by decide +kernel
theorem dX8_net_57 : decode cX8_net 57 = .ok (.aload_n 0, 1) := by decide +kernel
theorem dX8_net_58 : decode cX8_net 58 = .ok (.getfield 16, 3) := by decide +kernel
theorem dX8_net_61 : decode cX8_net 61 = .ok (.iload_n 2, 1) := by decide +kernel
theorem dX8_net_62 : decode cX8_net 62 = .ok (.iconst 0, 1) := by decide +kernel
theorem dX8_net_63 : decode cX8_net 63 = .ok (.iastore, 1) := by decide +kernel
theorem dX8_net_64 : decode cX8_net 64 = .ok (.iinc 2 1, 3) := by decide +kernel
theorem dX8_net_67 : decode cX8_net 67 = .ok (.goto (-16), 3) := by decide +kernel
theorem dX8_net_70 : decode cX8_net 70 = .ok (.iconst 0, 1) := by decide +kernel
theorem dX8_net_71 : decode cX8_net 71 = .ok (.istore_n 2, 1) := by decide +kernel
theorem dX8_net_72 : decode cX8_net 72 = .ok (.iload_n 2, 1) := by decide +kernel
theorem dX8_net_73 : decode cX8_net 73 = .ok (.sipush 192, 3) := by decide +kernel
theorem dX8_net_76 : decode cX8_net 76 = .ok (.if_icmp .ge 23, 3) := by decide +kernel
theorem dX8_net_79 : decode cX8_net 79 = .ok (.aload_n 0, 1) := by decide +kernel
theorem dX8_net_80 : decode cX8_net 80 = .ok (.getfield 22, 3) := by decide +kernel
theorem dX8_net_83 : decode cX8_net 83 = .ok (.iload_n 2, 1) := by decide +kernel
theorem dX8_net_84 : decode cX8_net 84 = .ok (.iconst 0, 1) := by decide +kernel
theorem dX8_net_85 : decode cX8_net 85 = .ok (.iastore, 1) := by decide +kernel
theorem dX8_net_86 : decode cX8_net 86 = .ok (.aload_n 0, 1) := by decide +kernel
theorem dX8_net_87 : decode cX8_net 87 = .ok (.getfield 25, 3) := by decide +kernel
theorem dX8_net_90 : decode cX8_net 90 = .ok (.iload_n 2, 1) := by decide +kernel
theorem dX8_net_91 : decode cX8_net 91 = .ok (.iconst 0, 1) := by decide +kernel
theorem dX8_net_92 : decode cX8_net 92 = .ok (.iastore, 1) := by decide +kernel
theorem dX8_net_93 : decode cX8_net 93 = .ok (.iinc 2 1, 3) := by decide +kernel
theorem dX8_net_96 : decode cX8_net 96 = .ok (.goto (-24), 3) := by decide +kernel
theorem dX8_net_99 : decode cX8_net 99 = .ok (.return_, 1) := by decide +kernel
theorem dX8_linkOf_0 : decode cX8_linkOf 0 = .ok (.iconst (-1), 1) := by decide +kernel
theorem dX8_linkOf_1 : decode cX8_linkOf 1 = .ok (.istore_n 3, 1) := by decide +kernel
theorem dX8_linkOf_2 : decode cX8_linkOf 2 = .ok (.iconst 0, 1) := by decide +kernel
theorem dX8_linkOf_3 : decode cX8_linkOf 3 = .ok (.istore 4, 2) := by decide +kernel
theorem dX8_linkOf_5 : decode cX8_linkOf 5 = .ok (.iload 4, 2) := by decide +kernel
theorem dX8_linkOf_7 : decode cX8_linkOf 7 = .ok (.aload_n 0, 1) := by decide +kernel
theorem dX8_linkOf_8 : decode cX8_linkOf 8 = .ok (.getfield 124, 3) := by decide +kernel
theorem dX8_linkOf_11 : decode cX8_linkOf 11 = .ok (.if_icmp .ge 60, 3) := by decide +kernel
theorem dX8_linkOf_14 : decode cX8_linkOf 14 = .ok (.aload_n 0, 1) := by decide +kernel
theorem dX8_linkOf_15 : decode cX8_linkOf 15 = .ok (.getfield 7, 3) := by decide +kernel
theorem dX8_linkOf_18 : decode cX8_linkOf 18 = .ok (.iload 4, 2) := by decide +kernel
theorem dX8_linkOf_20 : decode cX8_linkOf 20 = .ok (.iaload, 1) := by decide +kernel
theorem dX8_linkOf_21 : decode cX8_linkOf 21 = .ok (.iload_n 1, 1) := by decide +kernel
theorem dX8_linkOf_22 : decode cX8_linkOf 22 = .ok (.if_icmp .ne 14, 3) := by decide +kernel
theorem dX8_linkOf_25 : decode cX8_linkOf 25 = .ok (.aload_n 0, 1) := by decide +kernel
theorem dX8_linkOf_26 : decode cX8_linkOf 26 = .ok (.getfield 13, 3) := by decide +kernel
theorem dX8_linkOf_29 : decode cX8_linkOf 29 = .ok (.iload 4, 2) := by decide +kernel
theorem dX8_linkOf_31 : decode cX8_linkOf 31 = .ok (.iaload, 1) := by decide +kernel
theorem dX8_linkOf_32 : decode cX8_linkOf 32 = .ok (.iload_n 2, 1) := by decide +kernel
theorem dX8_linkOf_33 : decode cX8_linkOf 33 = .ok (.if_icmp .eq 25, 3) := by decide +kernel
theorem dX8_linkOf_36 : decode cX8_linkOf 36 = .ok (.aload_n 0, 1) := by decide +kernel
theorem dX8_linkOf_37 : decode cX8_linkOf 37 = .ok (.getfield 7, 3) := by decide +kernel
theorem dX8_linkOf_40 : decode cX8_linkOf 40 = .ok (.iload 4, 2) := by decide +kernel
theorem dX8_linkOf_42 : decode cX8_linkOf 42 = .ok (.iaload, 1) := by decide +kernel
theorem dX8_linkOf_43 : decode cX8_linkOf 43 = .ok (.iload_n 2, 1) := by decide +kernel
theorem dX8_linkOf_44 : decode cX8_linkOf 44 = .ok (.if_icmp .ne 19, 3) := by decide +kernel
theorem dX8_linkOf_47 : decode cX8_linkOf 47 = .ok (.aload_n 0, 1) := by decide +kernel
theorem dX8_linkOf_48 : decode cX8_linkOf 48 = .ok (.getfield 13, 3) := by decide +kernel
theorem dX8_linkOf_51 : decode cX8_linkOf 51 = .ok (.iload 4, 2) := by decide +kernel
theorem dX8_linkOf_53 : decode cX8_linkOf 53 = .ok (.iaload, 1) := by decide +kernel
theorem dX8_linkOf_54 : decode cX8_linkOf 54 = .ok (.iload_n 1, 1) := by decide +kernel
theorem dX8_linkOf_55 : decode cX8_linkOf 55 = .ok (.if_icmp .ne 8, 3) := by decide +kernel
theorem dX8_linkOf_58 : decode cX8_linkOf 58 = .ok (.iload 4, 2) := by decide +kernel
theorem dX8_linkOf_60 : decode cX8_linkOf 60 = .ok (.goto 4, 3) := by decide +kernel
theorem dX8_linkOf_63 : decode cX8_linkOf 63 = .ok (.iload_n 3, 1) := by decide +kernel
theorem dX8_linkOf_64 : decode cX8_linkOf 64 = .ok (.istore_n 3, 1) := by decide +kernel
theorem dX8_linkOf_65 : decode cX8_linkOf 65 = .ok (.iinc 4 1, 3) := by decide +kernel
theorem dX8_linkOf_68 : decode cX8_linkOf 68 = .ok (.goto (-63), 3) := by decide +kernel
theorem dX8_linkOf_71 : decode cX8_linkOf 71 = .ok (.iload_n 3, 1) := by decide +kernel
theorem dX8_linkOf_72 : decode cX8_linkOf 72 = .ok (.ireturn, 1) := by decide +kernel
theorem dX8_addPort_0 : decode cX8_addPort 0 = .ok (.aload_n 0, 1) := by decide +kernel
theorem dX8_addPort_1 : decode cX8_addPort 1 = .ok (.getfield 19, 3) := by decide +kernel
theorem dX8_addPort_4 : decode cX8_addPort 4 = .ok (.bipush 24, 2) := by decide +kernel
theorem dX8_addPort_6 : decode cX8_addPort 6 = .ok (.iload_n 1, 1) := by decide +kernel
theorem dX8_addPort_7 : decode cX8_addPort 7 = .ok (.imul, 1) := by decide +kernel
theorem dX8_addPort_8 : decode cX8_addPort 8 = .ok (.aload_n 0, 1) := by decide +kernel
theorem dX8_addPort_9 : decode cX8_addPort 9 = .ok (.getfield 16, 3) := by decide +kernel
theorem dX8_addPort_12 : decode cX8_addPort 12 = .ok (.iload_n 1, 1) := by decide +kernel
theorem dX8_addPort_13 : decode cX8_addPort 13 = .ok (.iaload, 1) := by decide +kernel
theorem dX8_addPort_14 : decode cX8_addPort 14 = .ok (.iadd, 1) := by decide +kernel
theorem dX8_addPort_15 : decode cX8_addPort 15 = .ok (.iload_n 2, 1) := by decide +kernel
theorem dX8_addPort_16 : decode cX8_addPort 16 = .ok (.iastore, 1) := by decide +kernel
theorem dX8_addPort_17 : decode cX8_addPort 17 = .ok (.aload_n 0, 1) := by decide +kernel
theorem dX8_addPort_18 : decode cX8_addPort 18 = .ok (.getfield 16, 3) := by decide +kernel
theorem dX8_addPort_21 : decode cX8_addPort 21 = .ok (.iload_n 1, 1) := by decide +kernel
theorem dX8_addPort_22 : decode cX8_addPort 22 = .ok (.dup2, 1) := by decide +kernel
theorem dX8_addPort_23 : decode cX8_addPort 23 = .ok (.iaload, 1) := by decide +kernel
theorem dX8_addPort_24 : decode cX8_addPort 24 = .ok (.iconst 1, 1) := by decide +kernel
theorem dX8_addPort_25 : decode cX8_addPort 25 = .ok (.iadd, 1) := by decide +kernel
theorem dX8_addPort_26 : decode cX8_addPort 26 = .ok (.iastore, 1) := by decide +kernel
theorem dX8_addPort_27 : decode cX8_addPort 27 = .ok (.return_, 1) := by decide +kernel
theorem dX8_link_0 : decode cX8_link 0 = .ok (.aload_n 0, 1) := by decide +kernel
theorem dX8_link_1 : decode cX8_link 1 = .ok (.aload_n 0, 1) := by decide +kernel
theorem dX8_link_2 : decode cX8_link 2 = .ok (.iload_n 1, 1) := by decide +kernel
theorem dX8_link_3 : decode cX8_link 3 = .ok (.invokevirtual 127, 3) := by decide +kernel
theorem dX8_link_6 : decode cX8_link 6 = .ok (.ifCond .eq 11, 3) := by decide +kernel
theorem dX8_link_9 : decode cX8_link 9 = .ok (.aload_n 0, 1) := by decide +kernel
theorem dX8_link_10 : decode cX8_link 10 = .ok (.iload_n 2, 1) := by decide +kernel
theorem dX8_link_11 : decode cX8_link 11 = .ok (.invokevirtual 127, 3) := by decide +kernel
theorem dX8_link_14 : decode cX8_link 14 = .ok (.ifCond .ne 7, 3) := by decide +kernel
theorem dX8_link_17 : decode cX8_link 17 = .ok (.iconst 1, 1) := by decide +kernel
theorem dX8_link_18 : decode cX8_link 18 = .ok (.goto 47, 3) := by decide +kernel
theorem dX8_link_21 : decode cX8_link 21 = .ok (.iload_n 1, 1) := by decide +kernel
theorem dX8_link_22 : decode cX8_link 22 = .ok (.iload_n 2, 1) := by decide +kernel
theorem dX8_link_23 : decode cX8_link 23 = .ok (.if_icmp .ne 7, 3) := by decide +kernel
theorem dX8_link_26 : decode cX8_link 26 = .ok (.iconst 2, 1) := by decide +kernel
theorem dX8_link_27 : decode cX8_link 27 = .ok (.goto 38, 3) := by decide +kernel
theorem dX8_link_30 : decode cX8_link 30 = .ok (.aload_n 0, 1) := by decide +kernel
theorem dX8_link_31 : decode cX8_link 31 = .ok (.getfield 120, 3) := by decide +kernel
theorem dX8_link_34 : decode cX8_link 34 = .ok (.ifCond .ne 13, 3) := by decide +kernel
theorem dX8_link_37 : decode cX8_link 37 = .ok (.aload_n 0, 1) := by decide +kernel
theorem dX8_link_38 : decode cX8_link 38 = .ok (.iload_n 1, 1) := by decide +kernel
theorem dX8_link_39 : decode cX8_link 39 = .ok (.iload_n 2, 1) := by decide +kernel
theorem dX8_link_40 : decode cX8_link 40 = .ok (.invokevirtual 131, 3) := by decide +kernel
theorem dX8_link_43 : decode cX8_link 43 = .ok (.iconst (-1), 1) := by decide +kernel
theorem dX8_link_44 : decode cX8_link 44 = .ok (.if_icmp .eq 7, 3) := by decide +kernel
theorem dX8_link_47 : decode cX8_link 47 = .ok (.iconst 3, 1) := by decide +kernel
theorem dX8_link_48 : decode cX8_link 48 = .ok (.goto 17, 3) := by decide +kernel
theorem dX8_link_51 : decode cX8_link 51 = .ok (.aload_n 0, 1) := by decide +kernel
theorem dX8_link_52 : decode cX8_link 52 = .ok (.getfield 124, 3) := by decide +kernel
theorem dX8_link_55 : decode cX8_link 55 = .ok (.bipush 60, 2) := by decide +kernel
theorem dX8_link_57 : decode cX8_link 57 = .ok (.if_icmp .ne 7, 3) := by decide +kernel
theorem dX8_link_60 : decode cX8_link 60 = .ok (.iconst 4, 1) := by decide +kernel
theorem dX8_link_61 : decode cX8_link 61 = .ok (.goto 4, 3) := by decide +kernel
theorem dX8_link_64 : decode cX8_link 64 = .ok (.iconst 0, 1) := by decide +kernel
theorem dX8_link_65 : decode cX8_link 65 = .ok (.putfield 113, 3) := by decide +kernel
theorem dX8_link_68 : decode cX8_link 68 = .ok (.aload_n 0, 1) := by decide +kernel
theorem dX8_link_69 : decode cX8_link 69 = .ok (.getfield 113, 3) := by decide +kernel
theorem dX8_link_72 : decode cX8_link 72 = .ok (.ifCond .le 5, 3) := by decide +kernel
theorem dX8_link_75 : decode cX8_link 75 = .ok (.iconst 0, 1) := by decide +kernel
theorem dX8_link_76 : decode cX8_link 76 = .ok (.ireturn, 1) := by decide +kernel
theorem dX8_link_77 : decode cX8_link 77 = .ok (.aload_n 0, 1) := by decide +kernel
theorem dX8_link_78 : decode cX8_link 78 = .ok (.getfield 7, 3) := by decide +kernel
theorem dX8_link_81 : decode cX8_link 81 = .ok (.aload_n 0, 1) := by decide +kernel
theorem dX8_link_82 : decode cX8_link 82 = .ok (.getfield 124, 3) := by decide +kernel
theorem dX8_link_85 : decode cX8_link 85 = .ok (.iload_n 1, 1) := by decide +kernel
theorem dX8_link_86 : decode cX8_link 86 = .ok (.iastore, 1) := by decide +kernel
theorem dX8_link_87 : decode cX8_link 87 = .ok (.aload_n 0, 1) := by decide +kernel
theorem dX8_link_88 : decode cX8_link 88 = .ok (.getfield 13, 3) := by decide +kernel
theorem dX8_link_91 : decode cX8_link 91 = .ok (.aload_n 0, 1) := by decide +kernel
theorem dX8_link_92 : decode cX8_link 92 = .ok (.getfield 124, 3) := by decide +kernel
theorem dX8_link_95 : decode cX8_link 95 = .ok (.iload_n 2, 1) := by decide +kernel
theorem dX8_link_96 : decode cX8_link 96 = .ok (.iastore, 1) := by decide +kernel
theorem dX8_link_97 : decode cX8_link 97 = .ok (.aload_n 0, 1) := by decide +kernel
theorem dX8_link_98 : decode cX8_link 98 = .ok (.iload_n 1, 1) := by decide +kernel
theorem dX8_link_99 : decode cX8_link 99 = .ok (.aload_n 0, 1) := by decide +kernel
theorem dX8_link_100 : decode cX8_link 100 = .ok (.getfield 124, 3) := by decide +kernel
theorem dX8_link_103 : decode cX8_link 103 = .ok (.invokevirtual 135, 3) := by decide +kernel
theorem dX8_link_106 : decode cX8_link 106 = .ok (.aload_n 0, 1) := by decide +kernel
theorem dX8_link_107 : decode cX8_link 107 = .ok (.iload_n 2, 1) := by decide +kernel
theorem dX8_link_108 : decode cX8_link 108 = .ok (.aload_n 0, 1) := by decide +kernel
theorem dX8_link_109 : decode cX8_link 109 = .ok (.getfield 124, 3) := by decide +kernel
theorem dX8_link_112 : decode cX8_link 112 = .ok (.invokevirtual 135, 3) := by decide +kernel
theorem dX8_link_115 : decode cX8_link 115 = .ok (.aload_n 0, 1) := by decide +kernel
theorem dX8_link_116 : decode cX8_link 116 = .ok (.dup, 1) := by decide +kernel
theorem dX8_link_117 : decode cX8_link 117 = .ok (.getfield 124, 3) := by decide +kernel
theorem dX8_link_120 : decode cX8_link 120 = .ok (.iconst 1, 1) := by decide +kernel
theorem dX8_link_121 : decode cX8_link 121 = .ok (.iadd, 1) := by decide +kernel
theorem dX8_link_122 : decode cX8_link 122 = .ok (.putfield 124, 3) := by decide +kernel
theorem dX8_link_125 : decode cX8_link 125 = .ok (.aload_n 0, 1) := by decide +kernel
theorem dX8_link_126 : decode cX8_link 126 = .ok (.getfield 124, 3) := by decide +kernel
theorem dX8_link_129 : decode cX8_link 129 = .ok (.iconst 1, 1) := by decide +kernel
theorem dX8_link_130 : decode cX8_link 130 = .ok (.isub, 1) := by decide +kernel
theorem dX8_link_131 : decode cX8_link 131 = .ok (.ireturn, 1) := by decide +kernel
theorem dX8_otherEnd_0 : decode cX8_otherEnd 0 = .ok (.aload_n 0, 1) := by decide +kernel
theorem dX8_otherEnd_1 : decode cX8_otherEnd 1 = .ok (.getfield 7, 3) := by decide +kernel
theorem dX8_otherEnd_4 : decode cX8_otherEnd 4 = .ok (.iload_n 1, 1) := by decide +kernel
theorem dX8_otherEnd_5 : decode cX8_otherEnd 5 = .ok (.iaload, 1) := by decide +kernel
theorem dX8_otherEnd_6 : decode cX8_otherEnd 6 = .ok (.iload_n 2, 1) := by decide +kernel
theorem dX8_otherEnd_7 : decode cX8_otherEnd 7 = .ok (.if_icmp .ne 12, 3) := by decide +kernel
theorem dX8_otherEnd_10 : decode cX8_otherEnd 10 = .ok (.aload_n 0, 1) := by decide +kernel
theorem dX8_otherEnd_11 : decode cX8_otherEnd 11 = .ok (.getfield 13, 3) := by decide +kernel
theorem dX8_otherEnd_14 : decode cX8_otherEnd 14 = .ok (.iload_n 1, 1) := by decide +kernel
theorem dX8_otherEnd_15 : decode cX8_otherEnd 15 = .ok (.iaload, 1) := by decide +kernel
theorem dX8_otherEnd_16 : decode cX8_otherEnd 16 = .ok (.goto 9, 3) := by decide +kernel
theorem dX8_otherEnd_19 : decode cX8_otherEnd 19 = .ok (.aload_n 0, 1) := by decide +kernel
theorem dX8_otherEnd_20 : decode cX8_otherEnd 20 = .ok (.getfield 7, 3) := by decide +kernel
theorem dX8_otherEnd_23 : decode cX8_otherEnd 23 = .ok (.iload_n 1, 1) := by decide +kernel
theorem dX8_otherEnd_24 : decode cX8_otherEnd 24 = .ok (.iaload, 1) := by decide +kernel
theorem dX8_otherEnd_25 : decode cX8_otherEnd 25 = .ok (.ireturn, 1) := by decide +kernel
theorem dX8_towards_0 : decode cX8_towards 0 = .ok (.iconst 2, 1) := by decide +kernel
theorem dX8_towards_1 : decode cX8_towards 1 = .ok (.iload_n 1, 1) := by decide +kernel
theorem dX8_towards_2 : decode cX8_towards 2 = .ok (.imul, 1) := by decide +kernel
theorem dX8_towards_3 : decode cX8_towards 3 = .ok (.aload_n 0, 1) := by decide +kernel
theorem dX8_towards_4 : decode cX8_towards 4 = .ok (.getfield 13, 3) := by decide +kernel
theorem dX8_towards_7 : decode cX8_towards 7 = .ok (.iload_n 1, 1) := by decide +kernel
theorem dX8_towards_8 : decode cX8_towards 8 = .ok (.iaload, 1) := by decide +kernel
theorem dX8_towards_9 : decode cX8_towards 9 = .ok (.iload_n 2, 1) := by decide +kernel
theorem dX8_towards_10 : decode cX8_towards 10 = .ok (.if_icmp .ne 7, 3) := by decide +kernel
theorem dX8_towards_13 : decode cX8_towards 13 = .ok (.iconst 0, 1) := by decide +kernel
theorem dX8_towards_14 : decode cX8_towards 14 = .ok (.goto 4, 3) := by decide +kernel
theorem dX8_towards_17 : decode cX8_towards 17 = .ok (.iconst 1, 1) := by decide +kernel
theorem dX8_towards_18 : decode cX8_towards 18 = .ok (.iadd, 1) := by decide +kernel
theorem dX8_towards_19 : decode cX8_towards 19 = .ok (.ireturn, 1) := by decide +kernel
theorem dX8_word_0 : decode cX8_word 0 = .ok (.aload_n 0, 1) := by decide +kernel
theorem dX8_word_1 : decode cX8_word 1 = .ok (.iload_n 1, 1) := by decide +kernel
theorem dX8_word_2 : decode cX8_word 2 = .ok (.ifCond .lt 11, 3) := by decide +kernel
theorem dX8_word_5 : decode cX8_word 5 = .ok (.iload_n 1, 1) := by decide +kernel
theorem dX8_word_6 : decode cX8_word 6 = .ok (.aload_n 0, 1) := by decide +kernel
theorem dX8_word_7 : decode cX8_word 7 = .ok (.getfield 139, 3) := by decide +kernel
theorem dX8_word_10 : decode cX8_word 10 = .ok (.if_icmp .le 7, 3) := by decide +kernel
theorem dX8_word_13 : decode cX8_word 13 = .ok (.iconst 1, 1) := by decide +kernel
theorem dX8_word_14 : decode cX8_word 14 = .ok (.goto 25, 3) := by decide +kernel
theorem dX8_word_17 : decode cX8_word 17 = .ok (.aload_n 0, 1) := by decide +kernel
theorem dX8_word_18 : decode cX8_word 18 = .ok (.getfield 120, 3) := by decide +kernel
theorem dX8_word_21 : decode cX8_word 21 = .ok (.ifCond .eq 7, 3) := by decide +kernel
theorem dX8_word_24 : decode cX8_word 24 = .ok (.iconst 2, 1) := by decide +kernel
theorem dX8_word_25 : decode cX8_word 25 = .ok (.goto 14, 3) := by decide +kernel
theorem dX8_word_28 : decode cX8_word 28 = .ok (.iload_n 1, 1) := by decide +kernel
theorem dX8_word_29 : decode cX8_word 29 = .ok (.bipush 64, 2) := by decide +kernel
theorem dX8_word_31 : decode cX8_word 31 = .ok (.if_icmp .ne 7, 3) := by decide +kernel
theorem dX8_word_34 : decode cX8_word 34 = .ok (.iconst 3, 1) := by decide +kernel
theorem dX8_word_35 : decode cX8_word 35 = .ok (.goto 4, 3) := by decide +kernel
theorem dX8_word_38 : decode cX8_word 38 = .ok (.iconst 0, 1) := by decide +kernel
theorem dX8_word_39 : decode cX8_word 39 = .ok (.putfield 113, 3) := by decide +kernel
theorem dX8_word_42 : decode cX8_word 42 = .ok (.aload_n 0, 1) := by decide +kernel
theorem dX8_word_43 : decode cX8_word 43 = .ok (.getfield 113, 3) := by decide +kernel
theorem dX8_word_46 : decode cX8_word 46 = .ok (.ifCond .le 5, 3) := by decide +kernel
theorem dX8_word_49 : decode cX8_word 49 = .ok (.iconst 0, 1) := by decide +kernel
theorem dX8_word_50 : decode cX8_word 50 = .ok (.ireturn, 1) := by decide +kernel
theorem dX8_word_51 : decode cX8_word 51 = .ok (.aload_n 0, 1) := by decide +kernel
theorem dX8_word_52 : decode cX8_word 52 = .ok (.iload_n 1, 1) := by decide +kernel
theorem dX8_word_53 : decode cX8_word 53 = .ok (.iload_n 2, 1) := by decide +kernel
theorem dX8_word_54 : decode cX8_word 54 = .ok (.iload_n 3, 1) := by decide +kernel
theorem dX8_word_55 : decode cX8_word 55 = .ok (.iload 4, 2) := by decide +kernel
theorem dX8_word_57 : decode cX8_word 57 = .ok (.iload 5, 2) := by decide +kernel
theorem dX8_word_59 : decode cX8_word 59 = .ok (.invokevirtual 142, 3) := by decide +kernel
theorem dX8_word_62 : decode cX8_word 62 = .ok (.aload_n 0, 1) := by decide +kernel
theorem dX8_word_63 : decode cX8_word 63 = .ok (.iload_n 1, 1) := by decide +kernel
theorem dX8_word_64 : decode cX8_word 64 = .ok (.aload_n 0, 1) := by decide +kernel
theorem dX8_word_65 : decode cX8_word 65 = .ok (.getfield 139, 3) := by decide +kernel
theorem dX8_word_68 : decode cX8_word 68 = .ok (.if_icmp .ne 12, 3) := by decide +kernel
theorem dX8_word_71 : decode cX8_word 71 = .ok (.aload_n 0, 1) := by decide +kernel
theorem dX8_word_72 : decode cX8_word 72 = .ok (.getfield 139, 3) := by decide +kernel
theorem dX8_word_75 : decode cX8_word 75 = .ok (.iconst 1, 1) := by decide +kernel
theorem dX8_word_76 : decode cX8_word 76 = .ok (.iadd, 1) := by decide +kernel
theorem dX8_word_77 : decode cX8_word 77 = .ok (.goto 7, 3) := by decide +kernel
theorem dX8_word_80 : decode cX8_word 80 = .ok (.aload_n 0, 1) := by decide +kernel
theorem dX8_word_81 : decode cX8_word 81 = .ok (.getfield 139, 3) := by decide +kernel
theorem dX8_word_84 : decode cX8_word 84 = .ok (.putfield 139, 3) := by decide +kernel
theorem dX8_word_87 : decode cX8_word 87 = .ok (.aload_n 0, 1) := by decide +kernel
theorem dX8_word_88 : decode cX8_word 88 = .ok (.getfield 139, 3) := by decide +kernel
theorem dX8_word_91 : decode cX8_word 91 = .ok (.ireturn, 1) := by decide +kernel
theorem dX8_put_0 : decode cX8_put 0 = .ok (.aload_n 0, 1) := by decide +kernel
theorem dX8_put_1 : decode cX8_put 1 = .ok (.getfield 28, 3) := by decide +kernel
theorem dX8_put_4 : decode cX8_put 4 = .ok (.iconst 4, 1) := by decide +kernel
theorem dX8_put_5 : decode cX8_put 5 = .ok (.iload_n 1, 1) := by decide +kernel
theorem dX8_put_6 : decode cX8_put 6 = .ok (.imul, 1) := by decide +kernel
theorem dX8_put_7 : decode cX8_put 7 = .ok (.iload_n 2, 1) := by decide +kernel
theorem dX8_put_8 : decode cX8_put 8 = .ok (.iastore, 1) := by decide +kernel
theorem dX8_put_9 : decode cX8_put 9 = .ok (.aload_n 0, 1) := by decide +kernel
theorem dX8_put_10 : decode cX8_put 10 = .ok (.getfield 28, 3) := by decide +kernel
theorem dX8_put_13 : decode cX8_put 13 = .ok (.iconst 4, 1) := by decide +kernel
theorem dX8_put_14 : decode cX8_put 14 = .ok (.iload_n 1, 1) := by decide +kernel
theorem dX8_put_15 : decode cX8_put 15 = .ok (.imul, 1) := by decide +kernel
theorem dX8_put_16 : decode cX8_put 16 = .ok (.iconst 1, 1) := by decide +kernel
theorem dX8_put_17 : decode cX8_put 17 = .ok (.iadd, 1) := by decide +kernel
theorem dX8_put_18 : decode cX8_put 18 = .ok (.iload_n 3, 1) := by decide +kernel
theorem dX8_put_19 : decode cX8_put 19 = .ok (.iastore, 1) := by decide +kernel
theorem dX8_put_20 : decode cX8_put 20 = .ok (.aload_n 0, 1) := by decide +kernel
theorem dX8_put_21 : decode cX8_put 21 = .ok (.getfield 28, 3) := by decide +kernel
theorem dX8_put_24 : decode cX8_put 24 = .ok (.iconst 4, 1) := by decide +kernel
theorem dX8_put_25 : decode cX8_put 25 = .ok (.iload_n 1, 1) := by decide +kernel
theorem dX8_put_26 : decode cX8_put 26 = .ok (.imul, 1) := by decide +kernel
theorem dX8_put_27 : decode cX8_put 27 = .ok (.iconst 2, 1) := by decide +kernel
theorem dX8_put_28 : decode cX8_put 28 = .ok (.iadd, 1) := by decide +kernel
theorem dX8_put_29 : decode cX8_put 29 = .ok (.iload 4, 2) := by decide +kernel
theorem dX8_put_31 : decode cX8_put 31 = .ok (.iastore, 1) := by decide +kernel
theorem dX8_put_32 : decode cX8_put 32 = .ok (.aload_n 0, 1) := by decide +kernel
theorem dX8_put_33 : decode cX8_put 33 = .ok (.getfield 28, 3) := by decide +kernel
theorem dX8_put_36 : decode cX8_put 36 = .ok (.iconst 4, 1) := by decide +kernel
theorem dX8_put_37 : decode cX8_put 37 = .ok (.iload_n 1, 1) := by decide +kernel
theorem dX8_put_38 : decode cX8_put 38 = .ok (.imul, 1) := by decide +kernel
theorem dX8_put_39 : decode cX8_put 39 = .ok (.iconst 3, 1) := by decide +kernel
theorem dX8_put_40 : decode cX8_put 40 = .ok (.iadd, 1) := by decide +kernel
theorem dX8_put_41 : decode cX8_put 41 = .ok (.iload 5, 2) := by decide +kernel
theorem dX8_put_43 : decode cX8_put 43 = .ok (.iastore, 1) := by decide +kernel
theorem dX8_put_44 : decode cX8_put 44 = .ok (.return_, 1) := by decide +kernel
theorem dX8_add_0 : decode cX8_add 0 = .ok (.aload_n 0, 1) := by decide +kernel
theorem dX8_add_1 : decode cX8_add 1 = .ok (.aload_n 0, 1) := by decide +kernel
theorem dX8_add_2 : decode cX8_add 2 = .ok (.getfield 139, 3) := by decide +kernel
theorem dX8_add_5 : decode cX8_add 5 = .ok (.iload_n 1, 1) := by decide +kernel
theorem dX8_add_6 : decode cX8_add 6 = .ok (.iload_n 2, 1) := by decide +kernel
theorem dX8_add_7 : decode cX8_add 7 = .ok (.iload_n 3, 1) := by decide +kernel
theorem dX8_add_8 : decode cX8_add 8 = .ok (.iload 4, 2) := by decide +kernel
theorem dX8_add_10 : decode cX8_add 10 = .ok (.invokevirtual 142, 3) := by decide +kernel
theorem dX8_add_13 : decode cX8_add 13 = .ok (.aload_n 0, 1) := by decide +kernel
theorem dX8_add_14 : decode cX8_add 14 = .ok (.dup, 1) := by decide +kernel
theorem dX8_add_15 : decode cX8_add 15 = .ok (.getfield 139, 3) := by decide +kernel
theorem dX8_add_18 : decode cX8_add 18 = .ok (.iconst 1, 1) := by decide +kernel
theorem dX8_add_19 : decode cX8_add 19 = .ok (.iadd, 1) := by decide +kernel
theorem dX8_add_20 : decode cX8_add 20 = .ok (.putfield 139, 3) := by decide +kernel
theorem dX8_add_23 : decode cX8_add 23 = .ok (.return_, 1) := by decide +kernel
theorem dX8_layers_0 : decode cX8_layers 0 = .ok (.aload_n 0, 1) := by decide +kernel
theorem dX8_layers_1 : decode cX8_layers 1 = .ok (.iconst 0, 1) := by decide +kernel
theorem dX8_layers_2 : decode cX8_layers 2 = .ok (.iconst 3, 1) := by decide +kernel
theorem dX8_layers_3 : decode cX8_layers 3 = .ok (.iconst 1, 1) := by decide +kernel
theorem dX8_layers_4 : decode cX8_layers 4 = .ok (.iconst 0, 1) := by decide +kernel
theorem dX8_layers_5 : decode cX8_layers 5 = .ok (.invokevirtual 146, 3) := by decide +kernel
theorem dX8_layers_8 : decode cX8_layers 8 = .ok (.aload_n 0, 1) := by decide +kernel
theorem dX8_layers_9 : decode cX8_layers 9 = .ok (.bipush 8, 2) := by decide +kernel
theorem dX8_layers_11 : decode cX8_layers 11 = .ok (.iconst 2, 1) := by decide +kernel
theorem dX8_layers_12 : decode cX8_layers 12 = .ok (.iconst 0, 1) := by decide +kernel
theorem dX8_layers_13 : decode cX8_layers 13 = .ok (.iconst 3, 1) := by decide +kernel
theorem dX8_layers_14 : decode cX8_layers 14 = .ok (.invokevirtual 146, 3) := by decide +kernel
theorem dX8_layers_17 : decode cX8_layers 17 = .ok (.aload_n 0, 1) := by decide +kernel
theorem dX8_layers_18 : decode cX8_layers 18 = .ok (.bipush 14, 2) := by decide +kernel
theorem dX8_layers_20 : decode cX8_layers 20 = .ok (.iconst 2, 1) := by decide +kernel
theorem dX8_layers_21 : decode cX8_layers 21 = .ok (.iconst 4, 1) := by decide +kernel
theorem dX8_layers_22 : decode cX8_layers 22 = .ok (.iconst 0, 1) := by decide +kernel
theorem dX8_layers_23 : decode cX8_layers 23 = .ok (.invokevirtual 146, 3) := by decide +kernel
theorem dX8_layers_26 : decode cX8_layers 26 = .ok (.aload_n 0, 1) := by decide +kernel
theorem dX8_layers_27 : decode cX8_layers 27 = .ok (.bipush 15, 2) := by decide +kernel
theorem dX8_layers_29 : decode cX8_layers 29 = .ok (.iconst 4, 1) := by decide +kernel
theorem dX8_layers_30 : decode cX8_layers 30 = .ok (.iconst 1, 1) := by decide +kernel
theorem dX8_layers_31 : decode cX8_layers 31 = .ok (.iconst 0, 1) := by decide +kernel
theorem dX8_layers_32 : decode cX8_layers 32 = .ok (.invokevirtual 146, 3) := by decide +kernel
theorem dX8_layers_35 : decode cX8_layers 35 = .ok (.aload_n 0, 1) := by decide +kernel
theorem dX8_layers_36 : decode cX8_layers 36 = .ok (.bipush 18, 2) := by decide +kernel
theorem dX8_layers_38 : decode cX8_layers 38 = .ok (.iconst 3, 1) := by decide +kernel
theorem dX8_layers_39 : decode cX8_layers 39 = .ok (.iconst 0, 1) := by decide +kernel
theorem dX8_layers_40 : decode cX8_layers 40 = .ok (.iconst 0, 1) := by decide +kernel
theorem dX8_layers_41 : decode cX8_layers 41 = .ok (.invokevirtual 146, 3) := by decide +kernel
theorem dX8_layers_44 : decode cX8_layers 44 = .ok (.aload_n 0, 1) := by decide +kernel
theorem dX8_layers_45 : decode cX8_layers 45 = .ok (.iconst 0, 1) := by decide +kernel
theorem dX8_layers_46 : decode cX8_layers 46 = .ok (.iconst 0, 1) := by decide +kernel
theorem dX8_layers_47 : decode cX8_layers 47 = .ok (.iconst 2, 1) := by decide +kernel
theorem dX8_layers_48 : decode cX8_layers 48 = .ok (.iconst 0, 1) := by decide +kernel
theorem dX8_layers_49 : decode cX8_layers 49 = .ok (.invokevirtual 146, 3) := by decide +kernel
theorem dX8_layers_52 : decode cX8_layers 52 = .ok (.aload_n 0, 1) := by decide +kernel
theorem dX8_layers_53 : decode cX8_layers 53 = .ok (.iconst 0, 1) := by decide +kernel
theorem dX8_layers_54 : decode cX8_layers 54 = .ok (.iconst 2, 1) := by decide +kernel
theorem dX8_layers_55 : decode cX8_layers 55 = .ok (.iconst 0, 1) := by decide +kernel
theorem dX8_layers_56 : decode cX8_layers 56 = .ok (.iconst 0, 1) := by decide +kernel
theorem dX8_layers_57 : decode cX8_layers 57 = .ok (.invokevirtual 146, 3) := by decide +kernel
theorem dX8_layers_60 : decode cX8_layers 60 = .ok (.aload_n 0, 1) := by decide +kernel
theorem dX8_layers_61 : decode cX8_layers 61 = .ok (.bipush 8, 2) := by decide +kernel
theorem dX8_layers_63 : decode cX8_layers 63 = .ok (.iconst 2, 1) := by decide +kernel
theorem dX8_layers_64 : decode cX8_layers 64 = .ok (.iconst 0, 1) := by decide +kernel
theorem dX8_layers_65 : decode cX8_layers 65 = .ok (.iconst 2, 1) := by decide +kernel
theorem dX8_layers_66 : decode cX8_layers 66 = .ok (.invokevirtual 146, 3) := by decide +kernel
theorem dX8_layers_69 : decode cX8_layers 69 = .ok (.aload_n 0, 1) := by decide +kernel
theorem dX8_layers_70 : decode cX8_layers 70 = .ok (.bipush 14, 2) := by decide +kernel
theorem dX8_layers_72 : decode cX8_layers 72 = .ok (.iconst 2, 1) := by decide +kernel
theorem dX8_layers_73 : decode cX8_layers 73 = .ok (.bipush 6, 2) := by decide +kernel
theorem dX8_layers_75 : decode cX8_layers 75 = .ok (.iconst 0, 1) := by decide +kernel
theorem dX8_layers_76 : decode cX8_layers 76 = .ok (.invokevirtual 146, 3) := by decide +kernel
theorem dX8_layers_79 : decode cX8_layers 79 = .ok (.aload_n 0, 1) := by decide +kernel
theorem dX8_layers_80 : decode cX8_layers 80 = .ok (.bipush 15, 2) := by decide +kernel
theorem dX8_layers_82 : decode cX8_layers 82 = .ok (.iconst 4, 1) := by decide +kernel
theorem dX8_layers_83 : decode cX8_layers 83 = .ok (.iconst 5, 1) := by decide +kernel
theorem dX8_layers_84 : decode cX8_layers 84 = .ok (.iconst 0, 1) := by decide +kernel
theorem dX8_layers_85 : decode cX8_layers 85 = .ok (.invokevirtual 146, 3) := by decide +kernel
theorem dX8_layers_88 : decode cX8_layers 88 = .ok (.aload_n 0, 1) := by decide +kernel
theorem dX8_layers_89 : decode cX8_layers 89 = .ok (.bipush 16, 2) := by decide +kernel
theorem dX8_layers_91 : decode cX8_layers 91 = .ok (.iconst 5, 1) := by decide +kernel
theorem dX8_layers_92 : decode cX8_layers 92 = .ok (.iconst 0, 1) := by decide +kernel
theorem dX8_layers_93 : decode cX8_layers 93 = .ok (.iconst 0, 1) := by decide +kernel
theorem dX8_layers_94 : decode cX8_layers 94 = .ok (.invokevirtual 146, 3) := by decide +kernel
theorem dX8_layers_97 : decode cX8_layers 97 = .ok (.aload_n 0, 1) := by decide +kernel
theorem dX8_layers_98 : decode cX8_layers 98 = .ok (.bipush 14, 2) := by decide +kernel
theorem dX8_layers_100 : decode cX8_layers 100 = .ok (.iconst 5, 1) := by decide +kernel
theorem dX8_layers_101 : decode cX8_layers 101 = .ok (.iconst 3, 1) := by decide +kernel
theorem dX8_layers_102 : decode cX8_layers 102 = .ok (.iconst 0, 1) := by decide +kernel
theorem dX8_layers_103 : decode cX8_layers 103 = .ok (.invokevirtual 146, 3) := by decide +kernel
theorem dX8_layers_106 : decode cX8_layers 106 = .ok (.aload_n 0, 1) := by decide +kernel
theorem dX8_layers_107 : decode cX8_layers 107 = .ok (.iconst 0, 1) := by decide +kernel
theorem dX8_layers_108 : decode cX8_layers 108 = .ok (.iconst 0, 1) := by decide +kernel
theorem dX8_layers_109 : decode cX8_layers 109 = .ok (.iconst 1, 1) := by decide +kernel
theorem dX8_layers_110 : decode cX8_layers 110 = .ok (.iconst 0, 1) := by decide +kernel
theorem dX8_layers_111 : decode cX8_layers 111 = .ok (.invokevirtual 146, 3) := by decide +kernel
theorem dX8_layers_114 : decode cX8_layers 114 = .ok (.aload_n 0, 1) := by decide +kernel
theorem dX8_layers_115 : decode cX8_layers 115 = .ok (.bipush 19, 2) := by decide +kernel
theorem dX8_layers_117 : decode cX8_layers 117 = .ok (.iconst 1, 1) := by decide +kernel
theorem dX8_layers_118 : decode cX8_layers 118 = .ok (.iconst 0, 1) := by decide +kernel
theorem dX8_layers_119 : decode cX8_layers 119 = .ok (.iconst 0, 1) := by decide +kernel
theorem dX8_layers_120 : decode cX8_layers 120 = .ok (.invokevirtual 146, 3) := by decide +kernel
theorem dX8_layers_123 : decode cX8_layers 123 = .ok (.aload_n 0, 1) := by decide +kernel
theorem dX8_layers_124 : decode cX8_layers 124 = .ok (.iconst 0, 1) := by decide +kernel
theorem dX8_layers_125 : decode cX8_layers 125 = .ok (.iconst 2, 1) := by decide +kernel
theorem dX8_layers_126 : decode cX8_layers 126 = .ok (.iconst 0, 1) := by decide +kernel
theorem dX8_layers_127 : decode cX8_layers 127 = .ok (.iconst 0, 1) := by decide +kernel
theorem dX8_layers_128 : decode cX8_layers 128 = .ok (.invokevirtual 146, 3) := by decide +kernel
theorem dX8_layers_131 : decode cX8_layers 131 = .ok (.return_, 1) := by decide +kernel
theorem dX8_leasts_0 : decode cX8_leasts 0 = .ok (.aload_n 0, 1) := by decide +kernel
theorem dX8_leasts_1 : decode cX8_leasts 1 = .ok (.bipush 15, 2) := by decide +kernel
theorem dX8_leasts_3 : decode cX8_leasts 3 = .ok (.iconst 4, 1) := by decide +kernel
theorem dX8_leasts_4 : decode cX8_leasts 4 = .ok (.iconst 4, 1) := by decide +kernel
theorem dX8_leasts_5 : decode cX8_leasts 5 = .ok (.iconst 0, 1) := by decide +kernel
theorem dX8_leasts_6 : decode cX8_leasts 6 = .ok (.invokevirtual 146, 3) := by decide +kernel
theorem dX8_leasts_9 : decode cX8_leasts 9 = .ok (.aload_n 0, 1) := by decide +kernel
theorem dX8_leasts_10 : decode cX8_leasts 10 = .ok (.bipush 16, 2) := by decide +kernel
theorem dX8_leasts_12 : decode cX8_leasts 12 = .ok (.iconst 2, 1) := by decide +kernel
theorem dX8_leasts_13 : decode cX8_leasts 13 = .ok (.iconst 0, 1) := by decide +kernel
theorem dX8_leasts_14 : decode cX8_leasts 14 = .ok (.iconst 0, 1) := by decide +kernel
theorem dX8_leasts_15 : decode cX8_leasts 15 = .ok (.invokevirtual 146, 3) := by decide +kernel
theorem dX8_leasts_18 : decode cX8_leasts 18 = .ok (.aload_n 0, 1) := by decide +kernel
theorem dX8_leasts_19 : decode cX8_leasts 19 = .ok (.bipush 14, 2) := by decide +kernel
theorem dX8_leasts_21 : decode cX8_leasts 21 = .ok (.iconst 2, 1) := by decide +kernel
theorem dX8_leasts_22 : decode cX8_leasts 22 = .ok (.iconst 2, 1) := by decide +kernel
theorem dX8_leasts_23 : decode cX8_leasts 23 = .ok (.iconst 0, 1) := by decide +kernel
theorem dX8_leasts_24 : decode cX8_leasts 24 = .ok (.invokevirtual 146, 3) := by decide +kernel
theorem dX8_leasts_27 : decode cX8_leasts 27 = .ok (.aload_n 0, 1) := by decide +kernel
theorem dX8_leasts_28 : decode cX8_leasts 28 = .ok (.bipush 17, 2) := by decide +kernel
theorem dX8_leasts_30 : decode cX8_leasts 30 = .ok (.iconst 2, 1) := by decide +kernel
theorem dX8_leasts_31 : decode cX8_leasts 31 = .ok (.iconst 0, 1) := by decide +kernel
theorem dX8_leasts_32 : decode cX8_leasts 32 = .ok (.iconst 0, 1) := by decide +kernel
theorem dX8_leasts_33 : decode cX8_leasts 33 = .ok (.invokevirtual 146, 3) := by decide +kernel
theorem dX8_leasts_36 : decode cX8_leasts 36 = .ok (.aload_n 0, 1) := by decide +kernel
theorem dX8_leasts_37 : decode cX8_leasts 37 = .ok (.iconst 5, 1) := by decide +kernel
theorem dX8_leasts_38 : decode cX8_leasts 38 = .ok (.iconst 0, 1) := by decide +kernel
theorem dX8_leasts_39 : decode cX8_leasts 39 = .ok (.iconst 0, 1) := by decide +kernel
theorem dX8_leasts_40 : decode cX8_leasts 40 = .ok (.iconst 2, 1) := by decide +kernel
theorem dX8_leasts_41 : decode cX8_leasts 41 = .ok (.invokevirtual 146, 3) := by decide +kernel
theorem dX8_leasts_44 : decode cX8_leasts 44 = .ok (.aload_n 0, 1) := by decide +kernel
theorem dX8_leasts_45 : decode cX8_leasts 45 = .ok (.bipush 15, 2) := by decide +kernel
theorem dX8_leasts_47 : decode cX8_leasts 47 = .ok (.iconst 4, 1) := by decide +kernel
theorem dX8_leasts_48 : decode cX8_leasts 48 = .ok (.iconst 1, 1) := by decide +kernel
theorem dX8_leasts_49 : decode cX8_leasts 49 = .ok (.iconst 0, 1) := by decide +kernel
theorem dX8_leasts_50 : decode cX8_leasts 50 = .ok (.invokevirtual 146, 3) := by decide +kernel
theorem dX8_leasts_53 : decode cX8_leasts 53 = .ok (.aload_n 0, 1) := by decide +kernel
theorem dX8_leasts_54 : decode cX8_leasts 54 = .ok (.bipush 18, 2) := by decide +kernel
theorem dX8_leasts_56 : decode cX8_leasts 56 = .ok (.iconst 0, 1) := by decide +kernel
theorem dX8_leasts_57 : decode cX8_leasts 57 = .ok (.iconst 0, 1) := by decide +kernel
theorem dX8_leasts_58 : decode cX8_leasts 58 = .ok (.iconst 0, 1) := by decide +kernel
theorem dX8_leasts_59 : decode cX8_leasts 59 = .ok (.invokevirtual 146, 3) := by decide +kernel
theorem dX8_leasts_62 : decode cX8_leasts 62 = .ok (.return_, 1) := by decide +kernel
theorem dX8_cells_0 : decode cX8_cells 0 = .ok (.aload_n 0, 1) := by decide +kernel
theorem dX8_cells_1 : decode cX8_cells 1 = .ok (.bipush 15, 2) := by decide +kernel
theorem dX8_cells_3 : decode cX8_cells 3 = .ok (.iconst 4, 1) := by decide +kernel
theorem dX8_cells_4 : decode cX8_cells 4 = .ok (.iconst 2, 1) := by decide +kernel
theorem dX8_cells_5 : decode cX8_cells 5 = .ok (.iconst 0, 1) := by decide +kernel
theorem dX8_cells_6 : decode cX8_cells 6 = .ok (.invokevirtual 146, 3) := by decide +kernel
theorem dX8_cells_9 : decode cX8_cells 9 = .ok (.aload_n 0, 1) := by decide +kernel
theorem dX8_cells_10 : decode cX8_cells 10 = .ok (.bipush 17, 2) := by decide +kernel
theorem dX8_cells_12 : decode cX8_cells 12 = .ok (.iconst 2, 1) := by decide +kernel
theorem dX8_cells_13 : decode cX8_cells 13 = .ok (.iconst 0, 1) := by decide +kernel
theorem dX8_cells_14 : decode cX8_cells 14 = .ok (.iconst 0, 1) := by decide +kernel
theorem dX8_cells_15 : decode cX8_cells 15 = .ok (.invokevirtual 146, 3) := by decide +kernel
theorem dX8_cells_18 : decode cX8_cells 18 = .ok (.aload_n 0, 1) := by decide +kernel
theorem dX8_cells_19 : decode cX8_cells 19 = .ok (.iconst 2, 1) := by decide +kernel
theorem dX8_cells_20 : decode cX8_cells 20 = .ok (.iconst 1, 1) := by decide +kernel
theorem dX8_cells_21 : decode cX8_cells 21 = .ok (.iconst 1, 1) := by decide +kernel
theorem dX8_cells_22 : decode cX8_cells 22 = .ok (.iconst 2, 1) := by decide +kernel
theorem dX8_cells_23 : decode cX8_cells 23 = .ok (.invokevirtual 146, 3) := by decide +kernel
theorem dX8_cells_26 : decode cX8_cells 26 = .ok (.aload_n 0, 1) := by decide +kernel
theorem dX8_cells_27 : decode cX8_cells 27 = .ok (.bipush 19, 2) := by decide +kernel
theorem dX8_cells_29 : decode cX8_cells 29 = .ok (.iconst 5, 1) := by decide +kernel
theorem dX8_cells_30 : decode cX8_cells 30 = .ok (.iconst 0, 1) := by decide +kernel
theorem dX8_cells_31 : decode cX8_cells 31 = .ok (.iconst 0, 1) := by decide +kernel
theorem dX8_cells_32 : decode cX8_cells 32 = .ok (.invokevirtual 146, 3) := by decide +kernel
theorem dX8_cells_35 : decode cX8_cells 35 = .ok (.aload_n 0, 1) := by decide +kernel
theorem dX8_cells_36 : decode cX8_cells 36 = .ok (.iconst 0, 1) := by decide +kernel
theorem dX8_cells_37 : decode cX8_cells 37 = .ok (.bipush 6, 2) := by decide +kernel
theorem dX8_cells_39 : decode cX8_cells 39 = .ok (.iconst 1, 1) := by decide +kernel
theorem dX8_cells_40 : decode cX8_cells 40 = .ok (.iconst 0, 1) := by decide +kernel
theorem dX8_cells_41 : decode cX8_cells 41 = .ok (.invokevirtual 146, 3) := by decide +kernel
theorem dX8_cells_44 : decode cX8_cells 44 = .ok (.aload_n 0, 1) := by decide +kernel
theorem dX8_cells_45 : decode cX8_cells 45 = .ok (.bipush 7, 2) := by decide +kernel
theorem dX8_cells_47 : decode cX8_cells 47 = .ok (.iconst 5, 1) := by decide +kernel
theorem dX8_cells_48 : decode cX8_cells 48 = .ok (.bipush 6, 2) := by decide +kernel
theorem dX8_cells_50 : decode cX8_cells 50 = .ok (.iconst 5, 1) := by decide +kernel
theorem dX8_cells_51 : decode cX8_cells 51 = .ok (.invokevirtual 146, 3) := by decide +kernel
theorem dX8_cells_54 : decode cX8_cells 54 = .ok (.aload_n 0, 1) := by decide +kernel
theorem dX8_cells_55 : decode cX8_cells 55 = .ok (.bipush 14, 2) := by decide +kernel
theorem dX8_cells_57 : decode cX8_cells 57 = .ok (.iconst 5, 1) := by decide +kernel
theorem dX8_cells_58 : decode cX8_cells 58 = .ok (.bipush 8, 2) := by decide +kernel
theorem dX8_cells_60 : decode cX8_cells 60 = .ok (.iconst 0, 1) := by decide +kernel
theorem dX8_cells_61 : decode cX8_cells 61 = .ok (.invokevirtual 146, 3) := by decide +kernel
theorem dX8_cells_64 : decode cX8_cells 64 = .ok (.aload_n 0, 1) := by decide +kernel
theorem dX8_cells_65 : decode cX8_cells 65 = .ok (.iconst 0, 1) := by decide +kernel
theorem dX8_cells_66 : decode cX8_cells 66 = .ok (.iconst 2, 1) := by decide +kernel
theorem dX8_cells_67 : decode cX8_cells 67 = .ok (.iconst 3, 1) := by decide +kernel
theorem dX8_cells_68 : decode cX8_cells 68 = .ok (.iconst 0, 1) := by decide +kernel
theorem dX8_cells_69 : decode cX8_cells 69 = .ok (.invokevirtual 146, 3) := by decide +kernel
theorem dX8_cells_72 : decode cX8_cells 72 = .ok (.aload_n 0, 1) := by decide +kernel
theorem dX8_cells_73 : decode cX8_cells 73 = .ok (.bipush 8, 2) := by decide +kernel
theorem dX8_cells_75 : decode cX8_cells 75 = .ok (.iconst 3, 1) := by decide +kernel
theorem dX8_cells_76 : decode cX8_cells 76 = .ok (.iconst 1, 1) := by decide +kernel
theorem dX8_cells_77 : decode cX8_cells 77 = .ok (.iconst 2, 1) := by decide +kernel
theorem dX8_cells_78 : decode cX8_cells 78 = .ok (.invokevirtual 146, 3) := by decide +kernel
theorem dX8_cells_81 : decode cX8_cells 81 = .ok (.aload_n 0, 1) := by decide +kernel
theorem dX8_cells_82 : decode cX8_cells 82 = .ok (.iconst 0, 1) := by decide +kernel
theorem dX8_cells_83 : decode cX8_cells 83 = .ok (.iconst 2, 1) := by decide +kernel
theorem dX8_cells_84 : decode cX8_cells 84 = .ok (.iconst 2, 1) := by decide +kernel
theorem dX8_cells_85 : decode cX8_cells 85 = .ok (.iconst 0, 1) := by decide +kernel
theorem dX8_cells_86 : decode cX8_cells 86 = .ok (.invokevirtual 146, 3) := by decide +kernel
theorem dX8_cells_89 : decode cX8_cells 89 = .ok (.aload_n 0, 1) := by decide +kernel
theorem dX8_cells_90 : decode cX8_cells 90 = .ok (.bipush 8, 2) := by decide +kernel
theorem dX8_cells_92 : decode cX8_cells 92 = .ok (.iconst 2, 1) := by decide +kernel
theorem dX8_cells_93 : decode cX8_cells 93 = .ok (.iconst 1, 1) := by decide +kernel
theorem dX8_cells_94 : decode cX8_cells 94 = .ok (.iconst 2, 1) := by decide +kernel
theorem dX8_cells_95 : decode cX8_cells 95 = .ok (.invokevirtual 146, 3) := by decide +kernel
theorem dX8_cells_98 : decode cX8_cells 98 = .ok (.aload_n 0, 1) := by decide +kernel
theorem dX8_cells_99 : decode cX8_cells 99 = .ok (.bipush 9, 2) := by decide +kernel
theorem dX8_cells_101 : decode cX8_cells 101 = .ok (.iconst 2, 1) := by decide +kernel
theorem dX8_cells_102 : decode cX8_cells 102 = .ok (.iconst 2, 1) := by decide +kernel
theorem dX8_cells_103 : decode cX8_cells 103 = .ok (.iconst 0, 1) := by decide +kernel
theorem dX8_cells_104 : decode cX8_cells 104 = .ok (.invokevirtual 146, 3) := by decide +kernel
theorem dX8_cells_107 : decode cX8_cells 107 = .ok (.aload_n 0, 1) := by decide +kernel
theorem dX8_cells_108 : decode cX8_cells 108 = .ok (.bipush 10, 2) := by decide +kernel
theorem dX8_cells_110 : decode cX8_cells 110 = .ok (.iconst 0, 1) := by decide +kernel
theorem dX8_cells_111 : decode cX8_cells 111 = .ok (.iconst 3, 1) := by decide +kernel
theorem dX8_cells_112 : decode cX8_cells 112 = .ok (.iconst 2, 1) := by decide +kernel
theorem dX8_cells_113 : decode cX8_cells 113 = .ok (.invokevirtual 146, 3) := by decide +kernel
theorem dX8_cells_116 : decode cX8_cells 116 = .ok (.aload_n 0, 1) := by decide +kernel
theorem dX8_cells_117 : decode cX8_cells 117 = .ok (.iconst 0, 1) := by decide +kernel
theorem dX8_cells_118 : decode cX8_cells 118 = .ok (.iconst 1, 1) := by decide +kernel
theorem dX8_cells_119 : decode cX8_cells 119 = .ok (.iconst 0, 1) := by decide +kernel
theorem dX8_cells_120 : decode cX8_cells 120 = .ok (.iconst 0, 1) := by decide +kernel
theorem dX8_cells_121 : decode cX8_cells 121 = .ok (.invokevirtual 146, 3) := by decide +kernel
theorem dX8_cells_124 : decode cX8_cells 124 = .ok (.aload_n 0, 1) := by decide +kernel
theorem dX8_cells_125 : decode cX8_cells 125 = .ok (.iconst 0, 1) := by decide +kernel
theorem dX8_cells_126 : decode cX8_cells 126 = .ok (.bipush 6, 2) := by decide +kernel
theorem dX8_cells_128 : decode cX8_cells 128 = .ok (.iconst 0, 1) := by decide +kernel
theorem dX8_cells_129 : decode cX8_cells 129 = .ok (.iconst 0, 1) := by decide +kernel
theorem dX8_cells_130 : decode cX8_cells 130 = .ok (.invokevirtual 146, 3) := by decide +kernel
theorem dX8_cells_133 : decode cX8_cells 133 = .ok (.aload_n 0, 1) := by decide +kernel
theorem dX8_cells_134 : decode cX8_cells 134 = .ok (.bipush 15, 2) := by decide +kernel
theorem dX8_cells_136 : decode cX8_cells 136 = .ok (.iconst 4, 1) := by decide +kernel
theorem dX8_cells_137 : decode cX8_cells 137 = .ok (.iconst 1, 1) := by decide +kernel
theorem dX8_cells_138 : decode cX8_cells 138 = .ok (.iconst 0, 1) := by decide +kernel
theorem dX8_cells_139 : decode cX8_cells 139 = .ok (.invokevirtual 146, 3) := by decide +kernel
theorem dX8_cells_142 : decode cX8_cells 142 = .ok (.aload_n 0, 1) := by decide +kernel
theorem dX8_cells_143 : decode cX8_cells 143 = .ok (.bipush 18, 2) := by decide +kernel
theorem dX8_cells_145 : decode cX8_cells 145 = .ok (.iconst 0, 1) := by decide +kernel
theorem dX8_cells_146 : decode cX8_cells 146 = .ok (.iconst 0, 1) := by decide +kernel
theorem dX8_cells_147 : decode cX8_cells 147 = .ok (.iconst 0, 1) := by decide +kernel
theorem dX8_cells_148 : decode cX8_cells 148 = .ok (.invokevirtual 146, 3) := by decide +kernel
theorem dX8_cells_151 : decode cX8_cells 151 = .ok (.return_, 1) := by decide +kernel
theorem dX8_walks_0 : decode cX8_walks 0 = .ok (.aload_n 0, 1) := by decide +kernel
theorem dX8_walks_1 : decode cX8_walks 1 = .ok (.bipush 19, 2) := by decide +kernel
theorem dX8_walks_3 : decode cX8_walks 3 = .ok (.iconst 5, 1) := by decide +kernel
theorem dX8_walks_4 : decode cX8_walks 4 = .ok (.iconst 0, 1) := by decide +kernel
theorem dX8_walks_5 : decode cX8_walks 5 = .ok (.iconst 0, 1) := by decide +kernel
theorem dX8_walks_6 : decode cX8_walks 6 = .ok (.invokevirtual 146, 3) := by decide +kernel
theorem dX8_walks_9 : decode cX8_walks 9 = .ok (.aload_n 0, 1) := by decide +kernel
theorem dX8_walks_10 : decode cX8_walks 10 = .ok (.iconst 0, 1) := by decide +kernel
theorem dX8_walks_11 : decode cX8_walks 11 = .ok (.bipush 6, 2) := by decide +kernel
theorem dX8_walks_13 : decode cX8_walks 13 = .ok (.iconst 1, 1) := by decide +kernel
theorem dX8_walks_14 : decode cX8_walks 14 = .ok (.iconst 0, 1) := by decide +kernel
theorem dX8_walks_15 : decode cX8_walks 15 = .ok (.invokevirtual 146, 3) := by decide +kernel
theorem dX8_walks_18 : decode cX8_walks 18 = .ok (.aload_n 0, 1) := by decide +kernel
theorem dX8_walks_19 : decode cX8_walks 19 = .ok (.bipush 7, 2) := by decide +kernel
theorem dX8_walks_21 : decode cX8_walks 21 = .ok (.iconst 5, 1) := by decide +kernel
theorem dX8_walks_22 : decode cX8_walks 22 = .ok (.bipush 6, 2) := by decide +kernel
theorem dX8_walks_24 : decode cX8_walks 24 = .ok (.iconst 5, 1) := by decide +kernel
theorem dX8_walks_25 : decode cX8_walks 25 = .ok (.invokevirtual 146, 3) := by decide +kernel
theorem dX8_walks_28 : decode cX8_walks 28 = .ok (.aload_n 0, 1) := by decide +kernel
theorem dX8_walks_29 : decode cX8_walks 29 = .ok (.bipush 14, 2) := by decide +kernel
theorem dX8_walks_31 : decode cX8_walks 31 = .ok (.iconst 5, 1) := by decide +kernel
theorem dX8_walks_32 : decode cX8_walks 32 = .ok (.iconst 5, 1) := by decide +kernel
theorem dX8_walks_33 : decode cX8_walks 33 = .ok (.iconst 0, 1) := by decide +kernel
theorem dX8_walks_34 : decode cX8_walks 34 = .ok (.invokevirtual 146, 3) := by decide +kernel
theorem dX8_walks_37 : decode cX8_walks 37 = .ok (.aload_n 0, 1) := by decide +kernel
theorem dX8_walks_38 : decode cX8_walks 38 = .ok (.iconst 0, 1) := by decide +kernel
theorem dX8_walks_39 : decode cX8_walks 39 = .ok (.iconst 1, 1) := by decide +kernel
theorem dX8_walks_40 : decode cX8_walks 40 = .ok (.iconst 0, 1) := by decide +kernel
theorem dX8_walks_41 : decode cX8_walks 41 = .ok (.iconst 0, 1) := by decide +kernel
theorem dX8_walks_42 : decode cX8_walks 42 = .ok (.invokevirtual 146, 3) := by decide +kernel
theorem dX8_walks_45 : decode cX8_walks 45 = .ok (.aload_n 0, 1) := by decide +kernel
theorem dX8_walks_46 : decode cX8_walks 46 = .ok (.bipush 15, 2) := by decide +kernel
theorem dX8_walks_48 : decode cX8_walks 48 = .ok (.iconst 4, 1) := by decide +kernel
theorem dX8_walks_49 : decode cX8_walks 49 = .ok (.iconst 2, 1) := by decide +kernel
theorem dX8_walks_50 : decode cX8_walks 50 = .ok (.iconst 0, 1) := by decide +kernel
theorem dX8_walks_51 : decode cX8_walks 51 = .ok (.invokevirtual 146, 3) := by decide +kernel
theorem dX8_walks_54 : decode cX8_walks 54 = .ok (.aload_n 0, 1) := by decide +kernel
theorem dX8_walks_55 : decode cX8_walks 55 = .ok (.bipush 17, 2) := by decide +kernel
theorem dX8_walks_57 : decode cX8_walks 57 = .ok (.iconst 2, 1) := by decide +kernel
theorem dX8_walks_58 : decode cX8_walks 58 = .ok (.iconst 0, 1) := by decide +kernel
theorem dX8_walks_59 : decode cX8_walks 59 = .ok (.iconst 0, 1) := by decide +kernel
theorem dX8_walks_60 : decode cX8_walks 60 = .ok (.invokevirtual 146, 3) := by decide +kernel
theorem dX8_walks_63 : decode cX8_walks 63 = .ok (.aload_n 0, 1) := by decide +kernel
theorem dX8_walks_64 : decode cX8_walks 64 = .ok (.iconst 2, 1) := by decide +kernel
theorem dX8_walks_65 : decode cX8_walks 65 = .ok (.iconst 1, 1) := by decide +kernel
theorem dX8_walks_66 : decode cX8_walks 66 = .ok (.iconst 1, 1) := by decide +kernel
theorem dX8_walks_67 : decode cX8_walks 67 = .ok (.iconst 2, 1) := by decide +kernel
theorem dX8_walks_68 : decode cX8_walks 68 = .ok (.invokevirtual 146, 3) := by decide +kernel
theorem dX8_walks_71 : decode cX8_walks 71 = .ok (.aload_n 0, 1) := by decide +kernel
theorem dX8_walks_72 : decode cX8_walks 72 = .ok (.iconst 1, 1) := by decide +kernel
theorem dX8_walks_73 : decode cX8_walks 73 = .ok (.iconst 0, 1) := by decide +kernel
theorem dX8_walks_74 : decode cX8_walks 74 = .ok (.iconst 1, 1) := by decide +kernel
theorem dX8_walks_75 : decode cX8_walks 75 = .ok (.iconst 0, 1) := by decide +kernel
theorem dX8_walks_76 : decode cX8_walks 76 = .ok (.invokevirtual 146, 3) := by decide +kernel
theorem dX8_walks_79 : decode cX8_walks 79 = .ok (.aload_n 0, 1) := by decide +kernel
theorem dX8_walks_80 : decode cX8_walks 80 = .ok (.bipush 15, 2) := by decide +kernel
theorem dX8_walks_82 : decode cX8_walks 82 = .ok (.iconst 4, 1) := by decide +kernel
theorem dX8_walks_83 : decode cX8_walks 83 = .ok (.iconst 1, 1) := by decide +kernel
theorem dX8_walks_84 : decode cX8_walks 84 = .ok (.iconst 0, 1) := by decide +kernel
theorem dX8_walks_85 : decode cX8_walks 85 = .ok (.invokevirtual 146, 3) := by decide +kernel
theorem dX8_walks_88 : decode cX8_walks 88 = .ok (.aload_n 0, 1) := by decide +kernel
theorem dX8_walks_89 : decode cX8_walks 89 = .ok (.bipush 18, 2) := by decide +kernel
theorem dX8_walks_91 : decode cX8_walks 91 = .ok (.iconst 0, 1) := by decide +kernel
theorem dX8_walks_92 : decode cX8_walks 92 = .ok (.iconst 0, 1) := by decide +kernel
theorem dX8_walks_93 : decode cX8_walks 93 = .ok (.iconst 0, 1) := by decide +kernel
theorem dX8_walks_94 : decode cX8_walks 94 = .ok (.invokevirtual 146, 3) := by decide +kernel
theorem dX8_walks_97 : decode cX8_walks 97 = .ok (.return_, 1) := by decide +kernel
theorem dX8_colours_0 : decode cX8_colours 0 = .ok (.aload_n 0, 1) := by decide +kernel
theorem dX8_colours_1 : decode cX8_colours 1 = .ok (.iconst 0, 1) := by decide +kernel
theorem dX8_colours_2 : decode cX8_colours 2 = .ok (.iconst 3, 1) := by decide +kernel
theorem dX8_colours_3 : decode cX8_colours 3 = .ok (.iconst 0, 1) := by decide +kernel
theorem dX8_colours_4 : decode cX8_colours 4 = .ok (.iconst 0, 1) := by decide +kernel
theorem dX8_colours_5 : decode cX8_colours 5 = .ok (.invokevirtual 146, 3) := by decide +kernel
theorem dX8_colours_8 : decode cX8_colours 8 = .ok (.aload_n 0, 1) := by decide +kernel
theorem dX8_colours_9 : decode cX8_colours 9 = .ok (.iconst 0, 1) := by decide +kernel
theorem dX8_colours_10 : decode cX8_colours 10 = .ok (.iconst 5, 1) := by decide +kernel
theorem dX8_colours_11 : decode cX8_colours 11 = .ok (.iconst 0, 1) := by decide +kernel
theorem dX8_colours_12 : decode cX8_colours 12 = .ok (.iconst 0, 1) := by decide +kernel
theorem dX8_colours_13 : decode cX8_colours 13 = .ok (.invokevirtual 146, 3) := by decide +kernel
theorem dX8_colours_16 : decode cX8_colours 16 = .ok (.aload_n 0, 1) := by decide +kernel
theorem dX8_colours_17 : decode cX8_colours 17 = .ok (.bipush 15, 2) := by decide +kernel
theorem dX8_colours_19 : decode cX8_colours 19 = .ok (.iconst 4, 1) := by decide +kernel
theorem dX8_colours_20 : decode cX8_colours 20 = .ok (.bipush 9, 2) := by decide +kernel
theorem dX8_colours_22 : decode cX8_colours 22 = .ok (.iconst 0, 1) := by decide +kernel
theorem dX8_colours_23 : decode cX8_colours 23 = .ok (.invokevirtual 146, 3) := by decide +kernel
theorem dX8_colours_26 : decode cX8_colours 26 = .ok (.aload_n 0, 1) := by decide +kernel
theorem dX8_colours_27 : decode cX8_colours 27 = .ok (.bipush 17, 2) := by decide +kernel
theorem dX8_colours_29 : decode cX8_colours 29 = .ok (.iconst 2, 1) := by decide +kernel
theorem dX8_colours_30 : decode cX8_colours 30 = .ok (.iconst 0, 1) := by decide +kernel
theorem dX8_colours_31 : decode cX8_colours 31 = .ok (.iconst 0, 1) := by decide +kernel
theorem dX8_colours_32 : decode cX8_colours 32 = .ok (.invokevirtual 146, 3) := by decide +kernel
theorem dX8_colours_35 : decode cX8_colours 35 = .ok (.aload_n 0, 1) := by decide +kernel
theorem dX8_colours_36 : decode cX8_colours 36 = .ok (.bipush 7, 2) := by decide +kernel
theorem dX8_colours_38 : decode cX8_colours 38 = .ok (.bipush 6, 2) := by decide +kernel
theorem dX8_colours_40 : decode cX8_colours 40 = .ok (.iconst 3, 1) := by decide +kernel
theorem dX8_colours_41 : decode cX8_colours 41 = .ok (.iconst 2, 1) := by decide +kernel
theorem dX8_colours_42 : decode cX8_colours 42 = .ok (.invokevirtual 146, 3) := by decide +kernel
theorem dX8_colours_45 : decode cX8_colours 45 = .ok (.aload_n 0, 1) := by decide +kernel
theorem dX8_colours_46 : decode cX8_colours 46 = .ok (.bipush 14, 2) := by decide +kernel
theorem dX8_colours_48 : decode cX8_colours 48 = .ok (.bipush 6, 2) := by decide +kernel
theorem dX8_colours_50 : decode cX8_colours 50 = .ok (.iconst 1, 1) := by decide +kernel
theorem dX8_colours_51 : decode cX8_colours 51 = .ok (.iconst 0, 1) := by decide +kernel
theorem dX8_colours_52 : decode cX8_colours 52 = .ok (.invokevirtual 146, 3) := by decide +kernel
theorem dX8_colours_55 : decode cX8_colours 55 = .ok (.aload_n 0, 1) := by decide +kernel
theorem dX8_colours_56 : decode cX8_colours 56 = .ok (.bipush 6, 2) := by decide +kernel
theorem dX8_colours_58 : decode cX8_colours 58 = .ok (.iconst 5, 1) := by decide +kernel
theorem dX8_colours_59 : decode cX8_colours 59 = .ok (.iconst 5, 1) := by decide +kernel
theorem dX8_colours_60 : decode cX8_colours 60 = .ok (.iconst 2, 1) := by decide +kernel
theorem dX8_colours_61 : decode cX8_colours 61 = .ok (.invokevirtual 146, 3) := by decide +kernel
theorem dX8_colours_64 : decode cX8_colours 64 = .ok (.aload_n 0, 1) := by decide +kernel
theorem dX8_colours_65 : decode cX8_colours 65 = .ok (.bipush 7, 2) := by decide +kernel
theorem dX8_colours_67 : decode cX8_colours 67 = .ok (.bipush 6, 2) := by decide +kernel
theorem dX8_colours_69 : decode cX8_colours 69 = .ok (.iconst 2, 1) := by decide +kernel
theorem dX8_colours_70 : decode cX8_colours 70 = .ok (.iconst 3, 1) := by decide +kernel
theorem dX8_colours_71 : decode cX8_colours 71 = .ok (.invokevirtual 146, 3) := by decide +kernel
theorem dX8_colours_74 : decode cX8_colours 74 = .ok (.aload_n 0, 1) := by decide +kernel
theorem dX8_colours_75 : decode cX8_colours 75 = .ok (.bipush 14, 2) := by decide +kernel
theorem dX8_colours_77 : decode cX8_colours 77 = .ok (.bipush 6, 2) := by decide +kernel
theorem dX8_colours_79 : decode cX8_colours 79 = .ok (.iconst 3, 1) := by decide +kernel
theorem dX8_colours_80 : decode cX8_colours 80 = .ok (.iconst 0, 1) := by decide +kernel
theorem dX8_colours_81 : decode cX8_colours 81 = .ok (.invokevirtual 146, 3) := by decide +kernel
theorem dX8_colours_84 : decode cX8_colours 84 = .ok (.aload_n 0, 1) := by decide +kernel
theorem dX8_colours_85 : decode cX8_colours 85 = .ok (.iconst 3, 1) := by decide +kernel
theorem dX8_colours_86 : decode cX8_colours 86 = .ok (.iconst 2, 1) := by decide +kernel
theorem dX8_colours_87 : decode cX8_colours 87 = .ok (.iconst 3, 1) := by decide +kernel
theorem dX8_colours_88 : decode cX8_colours 88 = .ok (.iconst 2, 1) := by decide +kernel
theorem dX8_colours_89 : decode cX8_colours 89 = .ok (.invokevirtual 146, 3) := by decide +kernel
theorem dX8_colours_92 : decode cX8_colours 92 = .ok (.aload_n 0, 1) := by decide +kernel
theorem dX8_colours_93 : decode cX8_colours 93 = .ok (.bipush 12, 2) := by decide +kernel
theorem dX8_colours_95 : decode cX8_colours 95 = .ok (.iconst 2, 1) := by decide +kernel
theorem dX8_colours_96 : decode cX8_colours 96 = .ok (.iconst 2, 1) := by decide +kernel
theorem dX8_colours_97 : decode cX8_colours 97 = .ok (.iconst 0, 1) := by decide +kernel
theorem dX8_colours_98 : decode cX8_colours 98 = .ok (.invokevirtual 146, 3) := by decide +kernel
theorem dX8_colours_101 : decode cX8_colours 101 = .ok (.aload_n 0, 1) := by decide +kernel
theorem dX8_colours_102 : decode cX8_colours 102 = .ok (.bipush 10, 2) := by decide +kernel
theorem dX8_colours_104 : decode cX8_colours 104 = .ok (.bipush 7, 2) := by decide +kernel
theorem dX8_colours_106 : decode cX8_colours 106 = .ok (.bipush 7, 2) := by decide +kernel
theorem dX8_colours_108 : decode cX8_colours 108 = .ok (.iconst 2, 1) := by decide +kernel
theorem dX8_colours_109 : decode cX8_colours 109 = .ok (.invokevirtual 146, 3) := by decide +kernel
theorem dX8_colours_112 : decode cX8_colours 112 = .ok (.aload_n 0, 1) := by decide +kernel
theorem dX8_colours_113 : decode cX8_colours 113 = .ok (.bipush 19, 2) := by decide +kernel
theorem dX8_colours_115 : decode cX8_colours 115 = .ok (.iconst 2, 1) := by decide +kernel
theorem dX8_colours_116 : decode cX8_colours 116 = .ok (.iconst 0, 1) := by decide +kernel
theorem dX8_colours_117 : decode cX8_colours 117 = .ok (.iconst 0, 1) := by decide +kernel
theorem dX8_colours_118 : decode cX8_colours 118 = .ok (.invokevirtual 146, 3) := by decide +kernel
theorem dX8_colours_121 : decode cX8_colours 121 = .ok (.aload_n 0, 1) := by decide +kernel
theorem dX8_colours_122 : decode cX8_colours 122 = .ok (.iconst 0, 1) := by decide +kernel
theorem dX8_colours_123 : decode cX8_colours 123 = .ok (.bipush 6, 2) := by decide +kernel
theorem dX8_colours_125 : decode cX8_colours 125 = .ok (.iconst 1, 1) := by decide +kernel
theorem dX8_colours_126 : decode cX8_colours 126 = .ok (.iconst 0, 1) := by decide +kernel
theorem dX8_colours_127 : decode cX8_colours 127 = .ok (.invokevirtual 146, 3) := by decide +kernel
theorem dX8_colours_130 : decode cX8_colours 130 = .ok (.aload_n 0, 1) := by decide +kernel
theorem dX8_colours_131 : decode cX8_colours 131 = .ok (.bipush 7, 2) := by decide +kernel
theorem dX8_colours_133 : decode cX8_colours 133 = .ok (.iconst 2, 1) := by decide +kernel
theorem dX8_colours_134 : decode cX8_colours 134 = .ok (.bipush 6, 2) := by decide +kernel
theorem dX8_colours_136 : decode cX8_colours 136 = .ok (.iconst 2, 1) := by decide +kernel
theorem dX8_colours_137 : decode cX8_colours 137 = .ok (.invokevirtual 146, 3) := by decide +kernel
theorem dX8_colours_140 : decode cX8_colours 140 = .ok (.aload_n 0, 1) := by decide +kernel
theorem dX8_colours_141 : decode cX8_colours 141 = .ok (.bipush 8, 2) := by decide +kernel
theorem dX8_colours_143 : decode cX8_colours 143 = .ok (.bipush 6, 2) := by decide +kernel
theorem dX8_colours_145 : decode cX8_colours 145 = .ok (.iconst 1, 1) := by decide +kernel
theorem dX8_colours_146 : decode cX8_colours 146 = .ok (.iconst 3, 1) := by decide +kernel
theorem dX8_colours_147 : decode cX8_colours 147 = .ok (.invokevirtual 146, 3) := by decide +kernel
theorem dX8_colours_150 : decode cX8_colours 150 = .ok (.aload_n 0, 1) := by decide +kernel
theorem dX8_colours_151 : decode cX8_colours 151 = .ok (.bipush 9, 2) := by decide +kernel
theorem dX8_colours_153 : decode cX8_colours 153 = .ok (.iconst 2, 1) := by decide +kernel
theorem dX8_colours_154 : decode cX8_colours 154 = .ok (.iconst 2, 1) := by decide +kernel
theorem dX8_colours_155 : decode cX8_colours 155 = .ok (.bipush 6, 2) := by decide +kernel
theorem dX8_colours_157 : decode cX8_colours 157 = .ok (.invokevirtual 146, 3) := by decide +kernel
theorem dX8_colours_160 : decode cX8_colours 160 = .ok (.aload_n 0, 1) := by decide +kernel
theorem dX8_colours_161 : decode cX8_colours 161 = .ok (.bipush 20, 2) := by decide +kernel
theorem dX8_colours_163 : decode cX8_colours 163 = .ok (.bipush 6, 2) := by decide +kernel
theorem dX8_colours_165 : decode cX8_colours 165 = .ok (.iconst 0, 1) := by decide +kernel
theorem dX8_colours_166 : decode cX8_colours 166 = .ok (.iconst 0, 1) := by decide +kernel
theorem dX8_colours_167 : decode cX8_colours 167 = .ok (.invokevirtual 146, 3) := by decide +kernel
theorem dX8_colours_170 : decode cX8_colours 170 = .ok (.aload_n 0, 1) := by decide +kernel
theorem dX8_colours_171 : decode cX8_colours 171 = .ok (.iconst 0, 1) := by decide +kernel
theorem dX8_colours_172 : decode cX8_colours 172 = .ok (.iconst 4, 1) := by decide +kernel
theorem dX8_colours_173 : decode cX8_colours 173 = .ok (.iconst 1, 1) := by decide +kernel
theorem dX8_colours_174 : decode cX8_colours 174 = .ok (.iconst 0, 1) := by decide +kernel
theorem dX8_colours_175 : decode cX8_colours 175 = .ok (.invokevirtual 146, 3) := by decide +kernel
theorem dX8_colours_178 : decode cX8_colours 178 = .ok (.aload_n 0, 1) := by decide +kernel
theorem dX8_colours_179 : decode cX8_colours 179 = .ok (.iconst 2, 1) := by decide +kernel
theorem dX8_colours_180 : decode cX8_colours 180 = .ok (.bipush 6, 2) := by decide +kernel
theorem dX8_colours_182 : decode cX8_colours 182 = .ok (.bipush 6, 2) := by decide +kernel
theorem dX8_colours_184 : decode cX8_colours 184 = .ok (.iconst 4, 1) := by decide +kernel
theorem dX8_colours_185 : decode cX8_colours 185 = .ok (.invokevirtual 146, 3) := by decide +kernel
theorem dX8_colours_188 : decode cX8_colours 188 = .ok (.aload_n 0, 1) := by decide +kernel
theorem dX8_colours_189 : decode cX8_colours 189 = .ok (.bipush 7, 2) := by decide +kernel
theorem dX8_colours_191 : decode cX8_colours 191 = .ok (.iconst 4, 1) := by decide +kernel
theorem dX8_colours_192 : decode cX8_colours 192 = .ok (.iconst 5, 1) := by decide +kernel
theorem dX8_colours_193 : decode cX8_colours 193 = .ok (.bipush 6, 2) := by decide +kernel
theorem dX8_colours_195 : decode cX8_colours 195 = .ok (.invokevirtual 146, 3) := by decide +kernel
theorem dX8_colours_198 : decode cX8_colours 198 = .ok (.aload_n 0, 1) := by decide +kernel
theorem dX8_colours_199 : decode cX8_colours 199 = .ok (.bipush 9, 2) := by decide +kernel
theorem dX8_colours_201 : decode cX8_colours 201 = .ok (.iconst 2, 1) := by decide +kernel
theorem dX8_colours_202 : decode cX8_colours 202 = .ok (.iconst 2, 1) := by decide +kernel
theorem dX8_colours_203 : decode cX8_colours 203 = .ok (.iconst 4, 1) := by decide +kernel
theorem dX8_colours_204 : decode cX8_colours 204 = .ok (.invokevirtual 146, 3) := by decide +kernel
theorem dX8_colours_207 : decode cX8_colours 207 = .ok (.aload_n 0, 1) := by decide +kernel
theorem dX8_colours_208 : decode cX8_colours 208 = .ok (.bipush 14, 2) := by decide +kernel
theorem dX8_colours_210 : decode cX8_colours 210 = .ok (.iconst 2, 1) := by decide +kernel
theorem dX8_colours_211 : decode cX8_colours 211 = .ok (.iconst 3, 1) := by decide +kernel
theorem dX8_colours_212 : decode cX8_colours 212 = .ok (.iconst 0, 1) := by decide +kernel
theorem dX8_colours_213 : decode cX8_colours 213 = .ok (.invokevirtual 146, 3) := by decide +kernel
theorem dX8_colours_216 : decode cX8_colours 216 = .ok (.aload_n 0, 1) := by decide +kernel
theorem dX8_colours_217 : decode cX8_colours 217 = .ok (.iconst 0, 1) := by decide +kernel
theorem dX8_colours_218 : decode cX8_colours 218 = .ok (.iconst 4, 1) := by decide +kernel
theorem dX8_colours_219 : decode cX8_colours 219 = .ok (.iconst 1, 1) := by decide +kernel
theorem dX8_colours_220 : decode cX8_colours 220 = .ok (.iconst 0, 1) := by decide +kernel
theorem dX8_colours_221 : decode cX8_colours 221 = .ok (.invokevirtual 146, 3) := by decide +kernel
theorem dX8_colours_224 : decode cX8_colours 224 = .ok (.aload_n 0, 1) := by decide +kernel
theorem dX8_colours_225 : decode cX8_colours 225 = .ok (.bipush 10, 2) := by decide +kernel
theorem dX8_colours_227 : decode cX8_colours 227 = .ok (.bipush 7, 2) := by decide +kernel
theorem dX8_colours_229 : decode cX8_colours 229 = .ok (.bipush 7, 2) := by decide +kernel
theorem dX8_colours_231 : decode cX8_colours 231 = .ok (.iconst 4, 1) := by decide +kernel
theorem dX8_colours_232 : decode cX8_colours 232 = .ok (.invokevirtual 146, 3) := by decide +kernel
theorem dX8_colours_235 : decode cX8_colours 235 = .ok (.aload_n 0, 1) := by decide +kernel
theorem dX8_colours_236 : decode cX8_colours 236 = .ok (.bipush 13, 2) := by decide +kernel
theorem dX8_colours_238 : decode cX8_colours 238 = .ok (.iconst 1, 1) := by decide +kernel
theorem dX8_colours_239 : decode cX8_colours 239 = .ok (.bipush 7, 2) := by decide +kernel
theorem dX8_colours_241 : decode cX8_colours 241 = .ok (.iconst 0, 1) := by decide +kernel
theorem dX8_colours_242 : decode cX8_colours 242 = .ok (.invokevirtual 146, 3) := by decide +kernel
theorem dX8_colours_245 : decode cX8_colours 245 = .ok (.aload_n 0, 1) := by decide +kernel
theorem dX8_colours_246 : decode cX8_colours 246 = .ok (.bipush 8, 2) := by decide +kernel
theorem dX8_colours_248 : decode cX8_colours 248 = .ok (.iconst 4, 1) := by decide +kernel
theorem dX8_colours_249 : decode cX8_colours 249 = .ok (.iconst 1, 1) := by decide +kernel
theorem dX8_colours_250 : decode cX8_colours 250 = .ok (.iconst 3, 1) := by decide +kernel
theorem dX8_colours_251 : decode cX8_colours 251 = .ok (.invokevirtual 146, 3) := by decide +kernel
theorem dX8_colours_254 : decode cX8_colours 254 = .ok (.aload_n 0, 1) := by decide +kernel
theorem dX8_colours_255 : decode cX8_colours 255 = .ok (.iconst 3, 1) := by decide +kernel
theorem dX8_colours_256 : decode cX8_colours 256 = .ok (.iconst 5, 1) := by decide +kernel
theorem dX8_colours_257 : decode cX8_colours 257 = .ok (.iconst 3, 1) := by decide +kernel
theorem dX8_colours_258 : decode cX8_colours 258 = .ok (.iconst 1, 1) := by decide +kernel
theorem dX8_colours_259 : decode cX8_colours 259 = .ok (.invokevirtual 146, 3) := by decide +kernel
theorem dX8_colours_262 : decode cX8_colours 262 = .ok (.aload_n 0, 1) := by decide +kernel
theorem dX8_colours_263 : decode cX8_colours 263 = .ok (.bipush 14, 2) := by decide +kernel
theorem dX8_colours_265 : decode cX8_colours 265 = .ok (.iconst 4, 1) := by decide +kernel
theorem dX8_colours_266 : decode cX8_colours 266 = .ok (.iconst 1, 1) := by decide +kernel
theorem dX8_colours_267 : decode cX8_colours 267 = .ok (.iconst 0, 1) := by decide +kernel
theorem dX8_colours_268 : decode cX8_colours 268 = .ok (.invokevirtual 146, 3) := by decide +kernel
theorem dX8_colours_271 : decode cX8_colours 271 = .ok (.aload_n 0, 1) := by decide +kernel
theorem dX8_colours_272 : decode cX8_colours 272 = .ok (.iconst 1, 1) := by decide +kernel
theorem dX8_colours_273 : decode cX8_colours 273 = .ok (.iconst 5, 1) := by decide +kernel
theorem dX8_colours_274 : decode cX8_colours 274 = .ok (.bipush 6, 2) := by decide +kernel
theorem dX8_colours_276 : decode cX8_colours 276 = .ok (.iconst 0, 1) := by decide +kernel
theorem dX8_colours_277 : decode cX8_colours 277 = .ok (.invokevirtual 146, 3) := by decide +kernel
theorem dX8_colours_280 : decode cX8_colours 280 = .ok (.aload_n 0, 1) := by decide +kernel
theorem dX8_colours_281 : decode cX8_colours 281 = .ok (.bipush 15, 2) := by decide +kernel
theorem dX8_colours_283 : decode cX8_colours 283 = .ok (.iconst 4, 1) := by decide +kernel
theorem dX8_colours_284 : decode cX8_colours 284 = .ok (.iconst 1, 1) := by decide +kernel
theorem dX8_colours_285 : decode cX8_colours 285 = .ok (.iconst 0, 1) := by decide +kernel
theorem dX8_colours_286 : decode cX8_colours 286 = .ok (.invokevirtual 146, 3) := by decide +kernel
theorem dX8_colours_289 : decode cX8_colours 289 = .ok (.aload_n 0, 1) := by decide +kernel
theorem dX8_colours_290 : decode cX8_colours 290 = .ok (.bipush 18, 2) := by decide +kernel
theorem dX8_colours_292 : decode cX8_colours 292 = .ok (.iconst 5, 1) := by decide +kernel
theorem dX8_colours_293 : decode cX8_colours 293 = .ok (.iconst 0, 1) := by decide +kernel
theorem dX8_colours_294 : decode cX8_colours 294 = .ok (.iconst 0, 1) := by decide +kernel
theorem dX8_colours_295 : decode cX8_colours 295 = .ok (.invokevirtual 146, 3) := by decide +kernel
theorem dX8_colours_298 : decode cX8_colours 298 = .ok (.return_, 1) := by decide +kernel
theorem dX8_builtin_0 : decode cX8_builtin 0 = .ok (.aload_n 0, 1) := by decide +kernel
theorem dX8_builtin_1 : decode cX8_builtin 1 = .ok (.iload_n 1, 1) := by decide +kernel
theorem dX8_builtin_2 : decode cX8_builtin 2 = .ok (.ifCond .lt 8, 3) := by decide +kernel
theorem dX8_builtin_5 : decode cX8_builtin 5 = .ok (.iload_n 1, 1) := by decide +kernel
theorem dX8_builtin_6 : decode cX8_builtin 6 = .ok (.iconst 4, 1) := by decide +kernel
theorem dX8_builtin_7 : decode cX8_builtin 7 = .ok (.if_icmp .le 7, 3) := by decide +kernel
theorem dX8_builtin_10 : decode cX8_builtin 10 = .ok (.iconst 1, 1) := by decide +kernel
theorem dX8_builtin_11 : decode cX8_builtin 11 = .ok (.goto 15, 3) := by decide +kernel
theorem dX8_builtin_14 : decode cX8_builtin 14 = .ok (.aload_n 0, 1) := by decide +kernel
theorem dX8_builtin_15 : decode cX8_builtin 15 = .ok (.getfield 120, 3) := by decide +kernel
theorem dX8_builtin_18 : decode cX8_builtin 18 = .ok (.ifCond .eq 7, 3) := by decide +kernel
theorem dX8_builtin_21 : decode cX8_builtin 21 = .ok (.iconst 2, 1) := by decide +kernel
theorem dX8_builtin_22 : decode cX8_builtin 22 = .ok (.goto 4, 3) := by decide +kernel
theorem dX8_builtin_25 : decode cX8_builtin 25 = .ok (.iconst 0, 1) := by decide +kernel
theorem dX8_builtin_26 : decode cX8_builtin 26 = .ok (.putfield 113, 3) := by decide +kernel
theorem dX8_builtin_29 : decode cX8_builtin 29 = .ok (.aload_n 0, 1) := by decide +kernel
theorem dX8_builtin_30 : decode cX8_builtin 30 = .ok (.getfield 113, 3) := by decide +kernel
theorem dX8_builtin_33 : decode cX8_builtin 33 = .ok (.ifCond .le 5, 3) := by decide +kernel
theorem dX8_builtin_36 : decode cX8_builtin 36 = .ok (.iconst 0, 1) := by decide +kernel
theorem dX8_builtin_37 : decode cX8_builtin 37 = .ok (.ireturn, 1) := by decide +kernel
theorem dX8_builtin_38 : decode cX8_builtin 38 = .ok (.aload_n 0, 1) := by decide +kernel
theorem dX8_builtin_39 : decode cX8_builtin 39 = .ok (.iconst 0, 1) := by decide +kernel
theorem dX8_builtin_40 : decode cX8_builtin 40 = .ok (.putfield 139, 3) := by decide +kernel
theorem dX8_builtin_43 : decode cX8_builtin 43 = .ok (.iload_n 1, 1) := by decide +kernel
theorem dX8_builtin_44 : decode cX8_builtin 44 = .ok (.ifCond .ne 10, 3) := by decide +kernel
theorem dX8_builtin_47 : decode cX8_builtin 47 = .ok (.aload_n 0, 1) := by decide +kernel
theorem dX8_builtin_48 : decode cX8_builtin 48 = .ok (.invokevirtual 150, 3) := by decide +kernel
theorem dX8_builtin_51 : decode cX8_builtin 51 = .ok (.goto 43, 3) := by decide +kernel
theorem dX8_builtin_54 : decode cX8_builtin 54 = .ok (.iload_n 1, 1) := by decide +kernel
theorem dX8_builtin_55 : decode cX8_builtin 55 = .ok (.iconst 1, 1) := by decide +kernel
theorem dX8_builtin_56 : decode cX8_builtin 56 = .ok (.if_icmp .ne 10, 3) := by decide +kernel
theorem dX8_builtin_59 : decode cX8_builtin 59 = .ok (.aload_n 0, 1) := by decide +kernel
theorem dX8_builtin_60 : decode cX8_builtin 60 = .ok (.invokevirtual 153, 3) := by decide +kernel
theorem dX8_builtin_63 : decode cX8_builtin 63 = .ok (.goto 31, 3) := by decide +kernel
theorem dX8_builtin_66 : decode cX8_builtin 66 = .ok (.iload_n 1, 1) := by decide +kernel
theorem dX8_builtin_67 : decode cX8_builtin 67 = .ok (.iconst 2, 1) := by decide +kernel
theorem dX8_builtin_68 : decode cX8_builtin 68 = .ok (.if_icmp .ne 10, 3) := by decide +kernel
theorem dX8_builtin_71 : decode cX8_builtin 71 = .ok (.aload_n 0, 1) := by decide +kernel
theorem dX8_builtin_72 : decode cX8_builtin 72 = .ok (.invokevirtual 156, 3) := by decide +kernel
theorem dX8_builtin_75 : decode cX8_builtin 75 = .ok (.goto 19, 3) := by decide +kernel
theorem dX8_builtin_78 : decode cX8_builtin 78 = .ok (.iload_n 1, 1) := by decide +kernel
theorem dX8_builtin_79 : decode cX8_builtin 79 = .ok (.iconst 3, 1) := by decide +kernel
theorem dX8_builtin_80 : decode cX8_builtin 80 = .ok (.if_icmp .ne 10, 3) := by decide +kernel
theorem dX8_builtin_83 : decode cX8_builtin 83 = .ok (.aload_n 0, 1) := by decide +kernel
theorem dX8_builtin_84 : decode cX8_builtin 84 = .ok (.invokevirtual 159, 3) := by decide +kernel
theorem dX8_builtin_87 : decode cX8_builtin 87 = .ok (.goto 7, 3) := by decide +kernel
theorem dX8_builtin_90 : decode cX8_builtin 90 = .ok (.aload_n 0, 1) := by decide +kernel
theorem dX8_builtin_91 : decode cX8_builtin 91 = .ok (.invokevirtual 162, 3) := by decide +kernel
theorem dX8_builtin_94 : decode cX8_builtin 94 = .ok (.aload_n 0, 1) := by decide +kernel
theorem dX8_builtin_95 : decode cX8_builtin 95 = .ok (.getfield 139, 3) := by decide +kernel
theorem dX8_builtin_98 : decode cX8_builtin 98 = .ok (.ireturn, 1) := by decide +kernel
theorem dX8_cutAt_0 : decode cX8_cutAt 0 = .ok (.aload_n 0, 1) := by decide +kernel
theorem dX8_cutAt_1 : decode cX8_cutAt 1 = .ok (.iload_n 1, 1) := by decide +kernel
theorem dX8_cutAt_2 : decode cX8_cutAt 2 = .ok (.ifCond .lt 11, 3) := by decide +kernel
theorem dX8_cutAt_5 : decode cX8_cutAt 5 = .ok (.iload_n 1, 1) := by decide +kernel
theorem dX8_cutAt_6 : decode cX8_cutAt 6 = .ok (.aload_n 0, 1) := by decide +kernel
theorem dX8_cutAt_7 : decode cX8_cutAt 7 = .ok (.getfield 139, 3) := by decide +kernel
theorem dX8_cutAt_10 : decode cX8_cutAt 10 = .ok (.if_icmp .le 7, 3) := by decide +kernel
theorem dX8_cutAt_13 : decode cX8_cutAt 13 = .ok (.iconst 1, 1) := by decide +kernel
theorem dX8_cutAt_14 : decode cX8_cutAt 14 = .ok (.goto 15, 3) := by decide +kernel
theorem dX8_cutAt_17 : decode cX8_cutAt 17 = .ok (.aload_n 0, 1) := by decide +kernel
theorem dX8_cutAt_18 : decode cX8_cutAt 18 = .ok (.getfield 120, 3) := by decide +kernel
theorem dX8_cutAt_21 : decode cX8_cutAt 21 = .ok (.ifCond .eq 7, 3) := by decide +kernel
theorem dX8_cutAt_24 : decode cX8_cutAt 24 = .ok (.iconst 2, 1) := by decide +kernel
theorem dX8_cutAt_25 : decode cX8_cutAt 25 = .ok (.goto 4, 3) := by decide +kernel
theorem dX8_cutAt_28 : decode cX8_cutAt 28 = .ok (.iconst 0, 1) := by decide +kernel
theorem dX8_cutAt_29 : decode cX8_cutAt 29 = .ok (.putfield 113, 3) := by decide +kernel
theorem dX8_cutAt_32 : decode cX8_cutAt 32 = .ok (.aload_n 0, 1) := by decide +kernel
theorem dX8_cutAt_33 : decode cX8_cutAt 33 = .ok (.aload_n 0, 1) := by decide +kernel
theorem dX8_cutAt_34 : decode cX8_cutAt 34 = .ok (.getfield 113, 3) := by decide +kernel
theorem dX8_cutAt_37 : decode cX8_cutAt 37 = .ok (.ifCond .le 10, 3) := by decide +kernel
theorem dX8_cutAt_40 : decode cX8_cutAt 40 = .ok (.aload_n 0, 1) := by decide +kernel
theorem dX8_cutAt_41 : decode cX8_cutAt 41 = .ok (.getfield 139, 3) := by decide +kernel
theorem dX8_cutAt_44 : decode cX8_cutAt 44 = .ok (.goto 4, 3) := by decide +kernel
theorem dX8_cutAt_47 : decode cX8_cutAt 47 = .ok (.iload_n 1, 1) := by decide +kernel
theorem dX8_cutAt_48 : decode cX8_cutAt 48 = .ok (.putfield 139, 3) := by decide +kernel
theorem dX8_cutAt_51 : decode cX8_cutAt 51 = .ok (.return_, 1) := by decide +kernel
theorem dX8_isRegister_0 : decode cX8_isRegister 0 = .ok (.iload_n 0, 1) := by decide +kernel
theorem dX8_isRegister_1 : decode cX8_isRegister 1 = .ok (.ifCond .lt 13, 3) := by decide +kernel
theorem dX8_isRegister_4 : decode cX8_isRegister 4 = .ok (.iload_n 0, 1) := by decide +kernel
theorem dX8_isRegister_5 : decode cX8_isRegister 5 = .ok (.bipush 8, 2) := by decide +kernel
theorem dX8_isRegister_7 : decode cX8_isRegister 7 = .ok (.if_icmp .ge 7, 3) := by decide +kernel
theorem dX8_isRegister_10 : decode cX8_isRegister 10 = .ok (.iconst 1, 1) := by decide +kernel
theorem dX8_isRegister_11 : decode cX8_isRegister 11 = .ok (.goto 4, 3) := by decide +kernel
theorem dX8_isRegister_14 : decode cX8_isRegister 14 = .ok (.iconst 0, 1) := by decide +kernel
theorem dX8_isRegister_15 : decode cX8_isRegister 15 = .ok (.ireturn, 1) := by decide +kernel
theorem dX8_usesA_0 : decode cX8_usesA 0 = .ok (.iload_n 0, 1) := by decide +kernel
theorem dX8_usesA_1 : decode cX8_usesA 1 = .ok (.iconst 1, 1) := by decide +kernel
theorem dX8_usesA_2 : decode cX8_usesA 2 = .ok (.if_icmp .lt 13, 3) := by decide +kernel
theorem dX8_usesA_5 : decode cX8_usesA 5 = .ok (.iload_n 0, 1) := by decide +kernel
theorem dX8_usesA_6 : decode cX8_usesA 6 = .ok (.bipush 13, 2) := by decide +kernel
theorem dX8_usesA_8 : decode cX8_usesA 8 = .ok (.if_icmp .gt 7, 3) := by decide +kernel
theorem dX8_usesA_11 : decode cX8_usesA 11 = .ok (.iconst 1, 1) := by decide +kernel
theorem dX8_usesA_12 : decode cX8_usesA 12 = .ok (.goto 4, 3) := by decide +kernel
theorem dX8_usesA_15 : decode cX8_usesA 15 = .ok (.iconst 0, 1) := by decide +kernel
theorem dX8_usesA_16 : decode cX8_usesA 16 = .ok (.ireturn, 1) := by decide +kernel
theorem dX8_usesB_0 : decode cX8_usesB 0 = .ok (.iload_n 0, 1) := by decide +kernel
theorem dX8_usesB_1 : decode cX8_usesB 1 = .ok (.iconst 2, 1) := by decide +kernel
theorem dX8_usesB_2 : decode cX8_usesB 2 = .ok (.if_icmp .lt 13, 3) := by decide +kernel
theorem dX8_usesB_5 : decode cX8_usesB 5 = .ok (.iload_n 0, 1) := by decide +kernel
theorem dX8_usesB_6 : decode cX8_usesB 6 = .ok (.bipush 11, 2) := by decide +kernel
theorem dX8_usesB_8 : decode cX8_usesB 8 = .ok (.if_icmp .gt 7, 3) := by decide +kernel
theorem dX8_usesB_11 : decode cX8_usesB 11 = .ok (.iconst 1, 1) := by decide +kernel
theorem dX8_usesB_12 : decode cX8_usesB 12 = .ok (.goto 4, 3) := by decide +kernel
theorem dX8_usesB_15 : decode cX8_usesB 15 = .ok (.iconst 0, 1) := by decide +kernel
theorem dX8_usesB_16 : decode cX8_usesB 16 = .ok (.ireturn, 1) := by decide +kernel
theorem dX8_lastOfEach_0 : decode cX8_lastOfEach 0 = .ok (.iconst (-1), 1) := by decide +kernel
theorem dX8_lastOfEach_1 : decode cX8_lastOfEach 1 = .ok (.istore_n 2, 1) := by decide +kernel
theorem dX8_lastOfEach_2 : decode cX8_lastOfEach 2 = .ok (.iconst 0, 1) := by decide +kernel
theorem dX8_lastOfEach_3 : decode cX8_lastOfEach 3 = .ok (.istore_n 3, 1) := by decide +kernel
theorem dX8_lastOfEach_4 : decode cX8_lastOfEach 4 = .ok (.iload_n 3, 1) := by decide +kernel
theorem dX8_lastOfEach_5 : decode cX8_lastOfEach 5 = .ok (.iload_n 1, 1) := by decide +kernel
theorem dX8_lastOfEach_6 : decode cX8_lastOfEach 6 = .ok (.if_icmp .ge 76, 3) := by decide +kernel
theorem dX8_lastOfEach_9 : decode cX8_lastOfEach 9 = .ok (.aload_n 0, 1) := by decide +kernel
theorem dX8_lastOfEach_10 : decode cX8_lastOfEach 10 = .ok (.getfield 28, 3) := by decide +kernel
theorem dX8_lastOfEach_13 : decode cX8_lastOfEach 13 = .ok (.iconst 4, 1) := by decide +kernel
theorem dX8_lastOfEach_14 : decode cX8_lastOfEach 14 = .ok (.iload_n 3, 1) := by decide +kernel
theorem dX8_lastOfEach_15 : decode cX8_lastOfEach 15 = .ok (.imul, 1) := by decide +kernel
theorem dX8_lastOfEach_16 : decode cX8_lastOfEach 16 = .ok (.iaload, 1) := by decide +kernel
theorem dX8_lastOfEach_17 : decode cX8_lastOfEach 17 = .ok (.bipush 15, 2) := by decide +kernel
theorem dX8_lastOfEach_19 : decode cX8_lastOfEach 19 = .ok (.if_icmp .ne 32, 3) := by decide +kernel
theorem dX8_lastOfEach_22 : decode cX8_lastOfEach 22 = .ok (.iload_n 2, 1) := by decide +kernel
theorem dX8_lastOfEach_23 : decode cX8_lastOfEach 23 = .ok (.iload_n 3, 1) := by decide +kernel
theorem dX8_lastOfEach_24 : decode cX8_lastOfEach 24 = .ok (.if_icmp .ge 27, 3) := by decide +kernel
theorem dX8_lastOfEach_27 : decode cX8_lastOfEach 27 = .ok (.iload_n 3, 1) := by decide +kernel
theorem dX8_lastOfEach_28 : decode cX8_lastOfEach 28 = .ok (.i2l, 1) := by decide +kernel
theorem dX8_lastOfEach_29 : decode cX8_lastOfEach 29 = .ok (.aload_n 0, 1) := by decide +kernel
theorem dX8_lastOfEach_30 : decode cX8_lastOfEach 30 = .ok (.getfield 28, 3) := by decide +kernel
theorem dX8_lastOfEach_33 : decode cX8_lastOfEach 33 = .ok (.iconst 4, 1) := by decide +kernel
theorem dX8_lastOfEach_34 : decode cX8_lastOfEach 34 = .ok (.iload_n 3, 1) := by decide +kernel
theorem dX8_lastOfEach_35 : decode cX8_lastOfEach 35 = .ok (.imul, 1) := by decide +kernel
theorem dX8_lastOfEach_36 : decode cX8_lastOfEach 36 = .ok (.iconst 2, 1) := by decide +kernel
theorem dX8_lastOfEach_37 : decode cX8_lastOfEach 37 = .ok (.iadd, 1) := by decide +kernel
theorem dX8_lastOfEach_38 : decode cX8_lastOfEach 38 = .ok (.iaload, 1) := by decide +kernel
theorem dX8_lastOfEach_39 : decode cX8_lastOfEach 39 = .ok (.i2l, 1) := by decide +kernel
theorem dX8_lastOfEach_40 : decode cX8_lastOfEach 40 = .ok (.ladd, 1) := by decide +kernel
theorem dX8_lastOfEach_41 : decode cX8_lastOfEach 41 = .ok (.iload_n 1, 1) := by decide +kernel
theorem dX8_lastOfEach_42 : decode cX8_lastOfEach 42 = .ok (.i2l, 1) := by decide +kernel
theorem dX8_lastOfEach_43 : decode cX8_lastOfEach 43 = .ok (.lcmp, 1) := by decide +kernel
theorem dX8_lastOfEach_44 : decode cX8_lastOfEach 44 = .ok (.ifCond .lt 7, 3) := by decide +kernel
theorem dX8_lastOfEach_47 : decode cX8_lastOfEach 47 = .ok (.iconst 1, 1) := by decide +kernel
theorem dX8_lastOfEach_48 : decode cX8_lastOfEach 48 = .ok (.goto 4, 3) := by decide +kernel
theorem dX8_lastOfEach_51 : decode cX8_lastOfEach 51 = .ok (.iconst 0, 1) := by decide +kernel
theorem dX8_lastOfEach_52 : decode cX8_lastOfEach 52 = .ok (.istore 4, 2) := by decide +kernel
theorem dX8_lastOfEach_54 : decode cX8_lastOfEach 54 = .ok (.iload 4, 2) := by decide +kernel
theorem dX8_lastOfEach_56 : decode cX8_lastOfEach 56 = .ok (.ifCond .eq 18, 3) := by decide +kernel
theorem dX8_lastOfEach_59 : decode cX8_lastOfEach 59 = .ok (.iload_n 3, 1) := by decide +kernel
theorem dX8_lastOfEach_60 : decode cX8_lastOfEach 60 = .ok (.aload_n 0, 1) := by decide +kernel
theorem dX8_lastOfEach_61 : decode cX8_lastOfEach 61 = .ok (.getfield 28, 3) := by decide +kernel
theorem dX8_lastOfEach_64 : decode cX8_lastOfEach 64 = .ok (.iconst 4, 1) := by decide +kernel
theorem dX8_lastOfEach_65 : decode cX8_lastOfEach 65 = .ok (.iload_n 3, 1) := by decide +kernel
theorem dX8_lastOfEach_66 : decode cX8_lastOfEach 66 = .ok (.imul, 1) := by decide +kernel
theorem dX8_lastOfEach_67 : decode cX8_lastOfEach 67 = .ok (.iconst 2, 1) := by decide +kernel
theorem dX8_lastOfEach_68 : decode cX8_lastOfEach 68 = .ok (.iadd, 1) := by decide +kernel
theorem dX8_lastOfEach_69 : decode cX8_lastOfEach 69 = .ok (.iaload, 1) := by decide +kernel
theorem dX8_lastOfEach_70 : decode cX8_lastOfEach 70 = .ok (.iadd, 1) := by decide +kernel
theorem dX8_lastOfEach_71 : decode cX8_lastOfEach 71 = .ok (.goto 4, 3) := by decide +kernel
theorem dX8_lastOfEach_74 : decode cX8_lastOfEach 74 = .ok (.iload_n 2, 1) := by decide +kernel
theorem dX8_lastOfEach_75 : decode cX8_lastOfEach 75 = .ok (.istore_n 2, 1) := by decide +kernel
theorem dX8_lastOfEach_76 : decode cX8_lastOfEach 76 = .ok (.iinc 3 1, 3) := by decide +kernel
theorem dX8_lastOfEach_79 : decode cX8_lastOfEach 79 = .ok (.goto (-75), 3) := by decide +kernel
theorem dX8_lastOfEach_82 : decode cX8_lastOfEach 82 = .ok (.iload_n 2, 1) := by decide +kernel
theorem dX8_lastOfEach_83 : decode cX8_lastOfEach 83 = .ok (.iload_n 1, 1) := by decide +kernel
theorem dX8_lastOfEach_84 : decode cX8_lastOfEach 84 = .ok (.if_icmp .lt 7, 3) := by decide +kernel
theorem dX8_lastOfEach_87 : decode cX8_lastOfEach 87 = .ok (.iload_n 2, 1) := by decide +kernel
theorem dX8_lastOfEach_88 : decode cX8_lastOfEach 88 = .ok (.goto 4, 3) := by decide +kernel
theorem dX8_lastOfEach_91 : decode cX8_lastOfEach 91 = .ok (.iconst (-1), 1) := by decide +kernel
theorem dX8_lastOfEach_92 : decode cX8_lastOfEach 92 = .ok (.ireturn, 1) := by decide +kernel
theorem dX8_isMidst_0 : decode cX8_isMidst 0 = .ok (.iconst 0, 1) := by decide +kernel
theorem dX8_isMidst_1 : decode cX8_isMidst 1 = .ok (.istore 4, 2) := by decide +kernel
theorem dX8_isMidst_3 : decode cX8_isMidst 3 = .ok (.iload_n 1, 1) := by decide +kernel
theorem dX8_isMidst_4 : decode cX8_isMidst 4 = .ok (.iconst 1, 1) := by decide +kernel
theorem dX8_isMidst_5 : decode cX8_isMidst 5 = .ok (.iadd, 1) := by decide +kernel
theorem dX8_isMidst_6 : decode cX8_isMidst 6 = .ok (.istore 5, 2) := by decide +kernel
theorem dX8_isMidst_8 : decode cX8_isMidst 8 = .ok (.iload 5, 2) := by decide +kernel
theorem dX8_isMidst_10 : decode cX8_isMidst 10 = .ok (.aload_n 0, 1) := by decide +kernel
theorem dX8_isMidst_11 : decode cX8_isMidst 11 = .ok (.getfield 139, 3) := by decide +kernel
theorem dX8_isMidst_14 : decode cX8_isMidst 14 = .ok (.if_icmp .ge 79, 3) := by decide +kernel
theorem dX8_isMidst_17 : decode cX8_isMidst 17 = .ok (.iload 5, 2) := by decide +kernel
theorem dX8_isMidst_19 : decode cX8_isMidst 19 = .ok (.i2l, 1) := by decide +kernel
theorem dX8_isMidst_20 : decode cX8_isMidst 20 = .ok (.lload_n 2, 1) := by decide +kernel
theorem dX8_isMidst_21 : decode cX8_isMidst 21 = .ok (.lcmp, 1) := by decide +kernel
theorem dX8_isMidst_22 : decode cX8_isMidst 22 = .ok (.ifCond .ge 71, 3) := by decide +kernel
theorem dX8_isMidst_25 : decode cX8_isMidst 25 = .ok (.iload 4, 2) := by decide +kernel
theorem dX8_isMidst_27 : decode cX8_isMidst 27 = .ok (.ifCond .ne 53, 3) := by decide +kernel
theorem dX8_isMidst_30 : decode cX8_isMidst 30 = .ok (.aload_n 0, 1) := by decide +kernel
theorem dX8_isMidst_31 : decode cX8_isMidst 31 = .ok (.getfield 28, 3) := by decide +kernel
theorem dX8_isMidst_34 : decode cX8_isMidst 34 = .ok (.iconst 4, 1) := by decide +kernel
theorem dX8_isMidst_35 : decode cX8_isMidst 35 = .ok (.iload 5, 2) := by decide +kernel
theorem dX8_isMidst_37 : decode cX8_isMidst 37 = .ok (.imul, 1) := by decide +kernel
theorem dX8_isMidst_38 : decode cX8_isMidst 38 = .ok (.iaload, 1) := by decide +kernel
theorem dX8_isMidst_39 : decode cX8_isMidst 39 = .ok (.bipush 15, 2) := by decide +kernel
theorem dX8_isMidst_41 : decode cX8_isMidst 41 = .ok (.if_icmp .ne 43, 3) := by decide +kernel
theorem dX8_isMidst_44 : decode cX8_isMidst 44 = .ok (.aload_n 0, 1) := by decide +kernel
theorem dX8_isMidst_45 : decode cX8_isMidst 45 = .ok (.getfield 28, 3) := by decide +kernel
theorem dX8_isMidst_48 : decode cX8_isMidst 48 = .ok (.iconst 4, 1) := by decide +kernel
theorem dX8_isMidst_49 : decode cX8_isMidst 49 = .ok (.iload 5, 2) := by decide +kernel
theorem dX8_isMidst_51 : decode cX8_isMidst 51 = .ok (.imul, 1) := by decide +kernel
theorem dX8_isMidst_52 : decode cX8_isMidst 52 = .ok (.iconst 2, 1) := by decide +kernel
theorem dX8_isMidst_53 : decode cX8_isMidst 53 = .ok (.iadd, 1) := by decide +kernel
theorem dX8_isMidst_54 : decode cX8_isMidst 54 = .ok (.iaload, 1) := by decide +kernel
theorem dX8_isMidst_55 : decode cX8_isMidst 55 = .ok (.iconst 1, 1) := by decide +kernel
theorem dX8_isMidst_56 : decode cX8_isMidst 56 = .ok (.if_icmp .lt 28, 3) := by decide +kernel
theorem dX8_isMidst_59 : decode cX8_isMidst 59 = .ok (.iload 5, 2) := by decide +kernel
theorem dX8_isMidst_61 : decode cX8_isMidst 61 = .ok (.i2l, 1) := by decide +kernel
theorem dX8_isMidst_62 : decode cX8_isMidst 62 = .ok (.aload_n 0, 1) := by decide +kernel
theorem dX8_isMidst_63 : decode cX8_isMidst 63 = .ok (.getfield 28, 3) := by decide +kernel
theorem dX8_isMidst_66 : decode cX8_isMidst 66 = .ok (.iconst 4, 1) := by decide +kernel
theorem dX8_isMidst_67 : decode cX8_isMidst 67 = .ok (.iload 5, 2) := by decide +kernel
theorem dX8_isMidst_69 : decode cX8_isMidst 69 = .ok (.imul, 1) := by decide +kernel
theorem dX8_isMidst_70 : decode cX8_isMidst 70 = .ok (.iconst 2, 1) := by decide +kernel
theorem dX8_isMidst_71 : decode cX8_isMidst 71 = .ok (.iadd, 1) := by decide +kernel
theorem dX8_isMidst_72 : decode cX8_isMidst 72 = .ok (.iaload, 1) := by decide +kernel
theorem dX8_isMidst_73 : decode cX8_isMidst 73 = .ok (.i2l, 1) := by decide +kernel
theorem dX8_isMidst_74 : decode cX8_isMidst 74 = .ok (.ladd, 1) := by decide +kernel
theorem dX8_isMidst_75 : decode cX8_isMidst 75 = .ok (.lload_n 2, 1) := by decide +kernel
theorem dX8_isMidst_76 : decode cX8_isMidst 76 = .ok (.lcmp, 1) := by decide +kernel
theorem dX8_isMidst_77 : decode cX8_isMidst 77 = .ok (.ifCond .lt 7, 3) := by decide +kernel
theorem dX8_isMidst_80 : decode cX8_isMidst 80 = .ok (.iconst 1, 1) := by decide +kernel
theorem dX8_isMidst_81 : decode cX8_isMidst 81 = .ok (.goto 4, 3) := by decide +kernel
theorem dX8_isMidst_84 : decode cX8_isMidst 84 = .ok (.iconst 0, 1) := by decide +kernel
theorem dX8_isMidst_85 : decode cX8_isMidst 85 = .ok (.istore 4, 2) := by decide +kernel
theorem dX8_isMidst_87 : decode cX8_isMidst 87 = .ok (.iinc 5 1, 3) := by decide +kernel
theorem dX8_isMidst_90 : decode cX8_isMidst 90 = .ok (.goto (-82), 3) := by decide +kernel
theorem dX8_isMidst_93 : decode cX8_isMidst 93 = .ok (.iload 4, 2) := by decide +kernel
theorem dX8_isMidst_95 : decode cX8_isMidst 95 = .ok (.ireturn, 1) := by decide +kernel
theorem dX8_isWrong_0 : decode cX8_isWrong 0 = .ok (.aload_n 0, 1) := by decide +kernel
theorem dX8_isWrong_1 : decode cX8_isWrong 1 = .ok (.getfield 28, 3) := by decide +kernel
theorem dX8_isWrong_4 : decode cX8_isWrong 4 = .ok (.iconst 4, 1) := by decide +kernel
theorem dX8_isWrong_5 : decode cX8_isWrong 5 = .ok (.iload_n 1, 1) := by decide +kernel
theorem dX8_isWrong_6 : decode cX8_isWrong 6 = .ok (.imul, 1) := by decide +kernel
theorem dX8_isWrong_7 : decode cX8_isWrong 7 = .ok (.iaload, 1) := by decide +kernel
theorem dX8_isWrong_8 : decode cX8_isWrong 8 = .ok (.istore_n 2, 1) := by decide +kernel
theorem dX8_isWrong_9 : decode cX8_isWrong 9 = .ok (.aload_n 0, 1) := by decide +kernel
theorem dX8_isWrong_10 : decode cX8_isWrong 10 = .ok (.getfield 28, 3) := by decide +kernel
theorem dX8_isWrong_13 : decode cX8_isWrong 13 = .ok (.iconst 4, 1) := by decide +kernel
theorem dX8_isWrong_14 : decode cX8_isWrong 14 = .ok (.iload_n 1, 1) := by decide +kernel
theorem dX8_isWrong_15 : decode cX8_isWrong 15 = .ok (.imul, 1) := by decide +kernel
theorem dX8_isWrong_16 : decode cX8_isWrong 16 = .ok (.iconst 2, 1) := by decide +kernel
theorem dX8_isWrong_17 : decode cX8_isWrong 17 = .ok (.iadd, 1) := by decide +kernel
theorem dX8_isWrong_18 : decode cX8_isWrong 18 = .ok (.iaload, 1) := by decide +kernel
theorem dX8_isWrong_19 : decode cX8_isWrong 19 = .ok (.istore_n 3, 1) := by decide +kernel
theorem dX8_isWrong_20 : decode cX8_isWrong 20 = .ok (.aload_n 0, 1) := by decide +kernel
theorem dX8_isWrong_21 : decode cX8_isWrong 21 = .ok (.iload_n 1, 1) := by decide +kernel
theorem dX8_isWrong_22 : decode cX8_isWrong 22 = .ok (.invokevirtual 165, 3) := by decide +kernel
theorem dX8_isWrong_25 : decode cX8_isWrong 25 = .ok (.istore 4, 2) := by decide +kernel
theorem dX8_isWrong_27 : decode cX8_isWrong 27 = .ok (.iload_n 2, 1) := by decide +kernel
theorem dX8_isWrong_28 : decode cX8_isWrong 28 = .ok (.ifCond .lt 62, 3) := by decide +kernel
theorem dX8_isWrong_31 : decode cX8_isWrong 31 = .ok (.iload_n 2, 1) := by decide +kernel
theorem dX8_isWrong_32 : decode cX8_isWrong 32 = .ok (.bipush 21, 2) := by decide +kernel
theorem dX8_isWrong_34 : decode cX8_isWrong 34 = .ok (.if_icmp .gt 56, 3) := by decide +kernel
theorem dX8_isWrong_37 : decode cX8_isWrong 37 = .ok (.aload_n 0, 1) := by decide +kernel
theorem dX8_isWrong_38 : decode cX8_isWrong 38 = .ok (.getfield 28, 3) := by decide +kernel
theorem dX8_isWrong_41 : decode cX8_isWrong 41 = .ok (.iconst 4, 1) := by decide +kernel
theorem dX8_isWrong_42 : decode cX8_isWrong 42 = .ok (.iload_n 1, 1) := by decide +kernel
theorem dX8_isWrong_43 : decode cX8_isWrong 43 = .ok (.imul, 1) := by decide +kernel
theorem dX8_isWrong_44 : decode cX8_isWrong 44 = .ok (.iconst 1, 1) := by decide +kernel
theorem dX8_isWrong_45 : decode cX8_isWrong 45 = .ok (.iadd, 1) := by decide +kernel
theorem dX8_isWrong_46 : decode cX8_isWrong 46 = .ok (.iaload, 1) := by decide +kernel
theorem dX8_isWrong_47 : decode cX8_isWrong 47 = .ok (.invokestatic 169, 3) := by decide +kernel
theorem dX8_isWrong_50 : decode cX8_isWrong 50 = .ok (.ifCond .eq 40, 3) := by decide +kernel
theorem dX8_isWrong_53 : decode cX8_isWrong 53 = .ok (.iload_n 2, 1) := by decide +kernel
theorem dX8_isWrong_54 : decode cX8_isWrong 54 = .ok (.invokestatic 172, 3) := by decide +kernel
theorem dX8_isWrong_57 : decode cX8_isWrong 57 = .ok (.ifCond .eq 10, 3) := by decide +kernel
theorem dX8_isWrong_60 : decode cX8_isWrong 60 = .ok (.iload_n 3, 1) := by decide +kernel
theorem dX8_isWrong_61 : decode cX8_isWrong 61 = .ok (.invokestatic 169, 3) := by decide +kernel
theorem dX8_isWrong_64 : decode cX8_isWrong 64 = .ok (.ifCond .eq 26, 3) := by decide +kernel
theorem dX8_isWrong_67 : decode cX8_isWrong 67 = .ok (.iload_n 2, 1) := by decide +kernel
theorem dX8_isWrong_68 : decode cX8_isWrong 68 = .ok (.invokestatic 175, 3) := by decide +kernel
theorem dX8_isWrong_71 : decode cX8_isWrong 71 = .ok (.ifCond .eq 21, 3) := by decide +kernel
theorem dX8_isWrong_74 : decode cX8_isWrong 74 = .ok (.aload_n 0, 1) := by decide +kernel
theorem dX8_isWrong_75 : decode cX8_isWrong 75 = .ok (.getfield 28, 3) := by decide +kernel
theorem dX8_isWrong_78 : decode cX8_isWrong 78 = .ok (.iconst 4, 1) := by decide +kernel
theorem dX8_isWrong_79 : decode cX8_isWrong 79 = .ok (.iload_n 1, 1) := by decide +kernel
theorem dX8_isWrong_80 : decode cX8_isWrong 80 = .ok (.imul, 1) := by decide +kernel
theorem dX8_isWrong_81 : decode cX8_isWrong 81 = .ok (.iconst 3, 1) := by decide +kernel
theorem dX8_isWrong_82 : decode cX8_isWrong 82 = .ok (.iadd, 1) := by decide +kernel
theorem dX8_isWrong_83 : decode cX8_isWrong 83 = .ok (.iaload, 1) := by decide +kernel
theorem dX8_isWrong_84 : decode cX8_isWrong 84 = .ok (.invokestatic 169, 3) := by decide +kernel
theorem dX8_isWrong_87 : decode cX8_isWrong 87 = .ok (.ifCond .ne 5, 3) := by decide +kernel
theorem dX8_isWrong_90 : decode cX8_isWrong 90 = .ok (.iconst 1, 1) := by decide +kernel
theorem dX8_isWrong_91 : decode cX8_isWrong 91 = .ok (.ireturn, 1) := by decide +kernel
theorem dX8_isWrong_92 : decode cX8_isWrong 92 = .ok (.iload_n 2, 1) := by decide +kernel
theorem dX8_isWrong_93 : decode cX8_isWrong 93 = .ok (.bipush 16, 2) := by decide +kernel
theorem dX8_isWrong_95 : decode cX8_isWrong 95 = .ok (.if_icmp .lt 21, 3) := by decide +kernel
theorem dX8_isWrong_98 : decode cX8_isWrong 98 = .ok (.iload_n 2, 1) := by decide +kernel
theorem dX8_isWrong_99 : decode cX8_isWrong 99 = .ok (.bipush 18, 2) := by decide +kernel
theorem dX8_isWrong_101 : decode cX8_isWrong 101 = .ok (.if_icmp .gt 15, 3) := by decide +kernel
theorem dX8_isWrong_104 : decode cX8_isWrong 104 = .ok (.iload 4, 2) := by decide +kernel
theorem dX8_isWrong_106 : decode cX8_isWrong 106 = .ok (.iconst (-1), 1) := by decide +kernel
theorem dX8_isWrong_107 : decode cX8_isWrong 107 = .ok (.if_icmp .ne 7, 3) := by decide +kernel
theorem dX8_isWrong_110 : decode cX8_isWrong 110 = .ok (.iconst 1, 1) := by decide +kernel
theorem dX8_isWrong_111 : decode cX8_isWrong 111 = .ok (.goto 4, 3) := by decide +kernel
theorem dX8_isWrong_114 : decode cX8_isWrong 114 = .ok (.iconst 0, 1) := by decide +kernel
theorem dX8_isWrong_115 : decode cX8_isWrong 115 = .ok (.ireturn, 1) := by decide +kernel
theorem dX8_isWrong_116 : decode cX8_isWrong 116 = .ok (.iload_n 2, 1) := by decide +kernel
theorem dX8_isWrong_117 : decode cX8_isWrong 117 = .ok (.bipush 14, 2) := by decide +kernel
theorem dX8_isWrong_119 : decode cX8_isWrong 119 = .ok (.if_icmp .eq 11, 3) := by decide +kernel
theorem dX8_isWrong_122 : decode cX8_isWrong 122 = .ok (.iload_n 2, 1) := by decide +kernel
theorem dX8_isWrong_123 : decode cX8_isWrong 123 = .ok (.bipush 15, 2) := by decide +kernel
theorem dX8_isWrong_125 : decode cX8_isWrong 125 = .ok (.if_icmp .eq 5, 3) := by decide +kernel
theorem dX8_isWrong_128 : decode cX8_isWrong 128 = .ok (.iconst 0, 1) := by decide +kernel
theorem dX8_isWrong_129 : decode cX8_isWrong 129 = .ok (.ireturn, 1) := by decide +kernel
theorem dX8_isWrong_130 : decode cX8_isWrong 130 = .ok (.iload_n 1, 1) := by decide +kernel
theorem dX8_isWrong_131 : decode cX8_isWrong 131 = .ok (.i2l, 1) := by decide +kernel
theorem dX8_isWrong_132 : decode cX8_isWrong 132 = .ok (.iload_n 3, 1) := by decide +kernel
theorem dX8_isWrong_133 : decode cX8_isWrong 133 = .ok (.i2l, 1) := by decide +kernel
theorem dX8_isWrong_134 : decode cX8_isWrong 134 = .ok (.ladd, 1) := by decide +kernel
theorem dX8_isWrong_135 : decode cX8_isWrong 135 = .ok (.lstore 5, 2) := by decide +kernel
theorem dX8_isWrong_137 : decode cX8_isWrong 137 = .ok (.iload_n 3, 1) := by decide +kernel
theorem dX8_isWrong_138 : decode cX8_isWrong 138 = .ok (.iconst 1, 1) := by decide +kernel
theorem dX8_isWrong_139 : decode cX8_isWrong 139 = .ok (.if_icmp .lt 41, 3) := by decide +kernel
theorem dX8_isWrong_142 : decode cX8_isWrong 142 = .ok (.lload 5, 2) := by decide +kernel
theorem dX8_isWrong_144 : decode cX8_isWrong 144 = .ok (.aload_n 0, 1) := by decide +kernel
theorem dX8_isWrong_145 : decode cX8_isWrong 145 = .ok (.getfield 139, 3) := by decide +kernel
theorem dX8_isWrong_148 : decode cX8_isWrong 148 = .ok (.i2l, 1) := by decide +kernel
theorem dX8_isWrong_149 : decode cX8_isWrong 149 = .ok (.lcmp, 1) := by decide +kernel
theorem dX8_isWrong_150 : decode cX8_isWrong 150 = .ok (.ifCond .ge 30, 3) := by decide +kernel
theorem dX8_isWrong_153 : decode cX8_isWrong 153 = .ok (.iload 4, 2) := by decide +kernel
theorem dX8_isWrong_155 : decode cX8_isWrong 155 = .ok (.iconst (-1), 1) := by decide +kernel
theorem dX8_isWrong_156 : decode cX8_isWrong 156 = .ok (.if_icmp .eq 12, 3) := by decide +kernel
theorem dX8_isWrong_159 : decode cX8_isWrong 159 = .ok (.lload 5, 2) := by decide +kernel
theorem dX8_isWrong_161 : decode cX8_isWrong 161 = .ok (.iload 4, 2) := by decide +kernel
theorem dX8_isWrong_163 : decode cX8_isWrong 163 = .ok (.i2l, 1) := by decide +kernel
theorem dX8_isWrong_164 : decode cX8_isWrong 164 = .ok (.lcmp, 1) := by decide +kernel
theorem dX8_isWrong_165 : decode cX8_isWrong 165 = .ok (.ifCond .gt 15, 3) := by decide +kernel
theorem dX8_isWrong_168 : decode cX8_isWrong 168 = .ok (.iload_n 2, 1) := by decide +kernel
theorem dX8_isWrong_169 : decode cX8_isWrong 169 = .ok (.bipush 15, 2) := by decide +kernel
theorem dX8_isWrong_171 : decode cX8_isWrong 171 = .ok (.if_icmp .ne 11, 3) := by decide +kernel
theorem dX8_isWrong_174 : decode cX8_isWrong 174 = .ok (.iload 4, 2) := by decide +kernel
theorem dX8_isWrong_176 : decode cX8_isWrong 176 = .ok (.iconst (-1), 1) := by decide +kernel
theorem dX8_isWrong_177 : decode cX8_isWrong 177 = .ok (.if_icmp .eq 5, 3) := by decide +kernel
theorem dX8_isWrong_180 : decode cX8_isWrong 180 = .ok (.iconst 1, 1) := by decide +kernel
theorem dX8_isWrong_181 : decode cX8_isWrong 181 = .ok (.ireturn, 1) := by decide +kernel
theorem dX8_isWrong_182 : decode cX8_isWrong 182 = .ok (.iload_n 2, 1) := by decide +kernel
theorem dX8_isWrong_183 : decode cX8_isWrong 183 = .ok (.bipush 14, 2) := by decide +kernel
theorem dX8_isWrong_185 : decode cX8_isWrong 185 = .ok (.if_icmp .ne 25, 3) := by decide +kernel
theorem dX8_isWrong_188 : decode cX8_isWrong 188 = .ok (.iload 4, 2) := by decide +kernel
theorem dX8_isWrong_190 : decode cX8_isWrong 190 = .ok (.iconst (-1), 1) := by decide +kernel
theorem dX8_isWrong_191 : decode cX8_isWrong 191 = .ok (.if_icmp .ne 19, 3) := by decide +kernel
theorem dX8_isWrong_194 : decode cX8_isWrong 194 = .ok (.aload_n 0, 1) := by decide +kernel
theorem dX8_isWrong_195 : decode cX8_isWrong 195 = .ok (.iload_n 1, 1) := by decide +kernel
theorem dX8_isWrong_196 : decode cX8_isWrong 196 = .ok (.lload 5, 2) := by decide +kernel
theorem dX8_isWrong_198 : decode cX8_isWrong 198 = .ok (.lconst 1, 1) := by decide +kernel
theorem dX8_isWrong_199 : decode cX8_isWrong 199 = .ok (.ladd, 1) := by decide +kernel
theorem dX8_isWrong_200 : decode cX8_isWrong 200 = .ok (.invokevirtual 178, 3) := by decide +kernel
theorem dX8_isWrong_203 : decode cX8_isWrong 203 = .ok (.ifCond .eq 7, 3) := by decide +kernel
theorem dX8_isWrong_206 : decode cX8_isWrong 206 = .ok (.iconst 1, 1) := by decide +kernel
theorem dX8_isWrong_207 : decode cX8_isWrong 207 = .ok (.goto 4, 3) := by decide +kernel
theorem dX8_isWrong_210 : decode cX8_isWrong 210 = .ok (.iconst 0, 1) := by decide +kernel
theorem dX8_isWrong_211 : decode cX8_isWrong 211 = .ok (.ireturn, 1) := by decide +kernel
theorem dX8_wrongWord_0 : decode cX8_wrongWord 0 = .ok (.iconst 0, 1) := by decide +kernel
theorem dX8_wrongWord_1 : decode cX8_wrongWord 1 = .ok (.istore_n 1, 1) := by decide +kernel
theorem dX8_wrongWord_2 : decode cX8_wrongWord 2 = .ok (.iload_n 1, 1) := by decide +kernel
theorem dX8_wrongWord_3 : decode cX8_wrongWord 3 = .ok (.aload_n 0, 1) := by decide +kernel
theorem dX8_wrongWord_4 : decode cX8_wrongWord 4 = .ok (.getfield 139, 3) := by decide +kernel
theorem dX8_wrongWord_7 : decode cX8_wrongWord 7 = .ok (.if_icmp .ge 17, 3) := by decide +kernel
theorem dX8_wrongWord_10 : decode cX8_wrongWord 10 = .ok (.aload_n 0, 1) := by decide +kernel
theorem dX8_wrongWord_11 : decode cX8_wrongWord 11 = .ok (.iload_n 1, 1) := by decide +kernel
theorem dX8_wrongWord_12 : decode cX8_wrongWord 12 = .ok (.invokevirtual 182, 3) := by decide +kernel
theorem dX8_wrongWord_15 : decode cX8_wrongWord 15 = .ok (.ifCond .ne 9, 3) := by decide +kernel
theorem dX8_wrongWord_18 : decode cX8_wrongWord 18 = .ok (.iinc 1 1, 3) := by decide +kernel
theorem dX8_wrongWord_21 : decode cX8_wrongWord 21 = .ok (.goto (-19), 3) := by decide +kernel
theorem dX8_wrongWord_24 : decode cX8_wrongWord 24 = .ok (.iload_n 1, 1) := by decide +kernel
theorem dX8_wrongWord_25 : decode cX8_wrongWord 25 = .ok (.aload_n 0, 1) := by decide +kernel
theorem dX8_wrongWord_26 : decode cX8_wrongWord 26 = .ok (.getfield 139, 3) := by decide +kernel
theorem dX8_wrongWord_29 : decode cX8_wrongWord 29 = .ok (.if_icmp .ge 7, 3) := by decide +kernel
theorem dX8_wrongWord_32 : decode cX8_wrongWord 32 = .ok (.iload_n 1, 1) := by decide +kernel
theorem dX8_wrongWord_33 : decode cX8_wrongWord 33 = .ok (.goto 4, 3) := by decide +kernel
theorem dX8_wrongWord_36 : decode cX8_wrongWord 36 = .ok (.iconst (-1), 1) := by decide +kernel
theorem dX8_wrongWord_37 : decode cX8_wrongWord 37 = .ok (.ireturn, 1) := by decide +kernel
theorem dX8_check_0 : decode cX8_check 0 = .ok (.aload_n 0, 1) := by decide +kernel
theorem dX8_check_1 : decode cX8_check 1 = .ok (.iconst 0, 1) := by decide +kernel
theorem dX8_check_2 : decode cX8_check 2 = .ok (.putfield 113, 3) := by decide +kernel
theorem dX8_check_5 : decode cX8_check 5 = .ok (.aload_n 0, 1) := by decide +kernel
theorem dX8_check_6 : decode cX8_check 6 = .ok (.invokevirtual 185, 3) := by decide +kernel
theorem dX8_check_9 : decode cX8_check 9 = .ok (.ireturn, 1) := by decide +kernel
theorem dX8_input_0 : decode cX8_input 0 = .ok (.aload_n 0, 1) := by decide +kernel
theorem dX8_input_1 : decode cX8_input 1 = .ok (.aload_n 0, 1) := by decide +kernel
theorem dX8_input_2 : decode cX8_input 2 = .ok (.iload_n 1, 1) := by decide +kernel
theorem dX8_input_3 : decode cX8_input 3 = .ok (.invokevirtual 127, 3) := by decide +kernel
theorem dX8_input_6 : decode cX8_input 6 = .ok (.ifCond .ne 7, 3) := by decide +kernel
theorem dX8_input_9 : decode cX8_input 9 = .ok (.iconst 1, 1) := by decide +kernel
theorem dX8_input_10 : decode cX8_input 10 = .ok (.goto 26, 3) := by decide +kernel
theorem dX8_input_13 : decode cX8_input 13 = .ok (.iload_n 2, 1) := by decide +kernel
theorem dX8_input_14 : decode cX8_input 14 = .ok (.invokestatic 169, 3) := by decide +kernel
theorem dX8_input_17 : decode cX8_input 17 = .ok (.ifCond .ne 7, 3) := by decide +kernel
theorem dX8_input_20 : decode cX8_input 20 = .ok (.iconst 2, 1) := by decide +kernel
theorem dX8_input_21 : decode cX8_input 21 = .ok (.goto 15, 3) := by decide +kernel
theorem dX8_input_24 : decode cX8_input 24 = .ok (.aload_n 0, 1) := by decide +kernel
theorem dX8_input_25 : decode cX8_input 25 = .ok (.getfield 120, 3) := by decide +kernel
theorem dX8_input_28 : decode cX8_input 28 = .ok (.ifCond .eq 7, 3) := by decide +kernel
theorem dX8_input_31 : decode cX8_input 31 = .ok (.iconst 3, 1) := by decide +kernel
theorem dX8_input_32 : decode cX8_input 32 = .ok (.goto 4, 3) := by decide +kernel
theorem dX8_input_35 : decode cX8_input 35 = .ok (.iconst 0, 1) := by decide +kernel
theorem dX8_input_36 : decode cX8_input 36 = .ok (.putfield 113, 3) := by decide +kernel
theorem dX8_input_39 : decode cX8_input 39 = .ok (.aload_n 0, 1) := by decide +kernel
theorem dX8_input_40 : decode cX8_input 40 = .ok (.getfield 113, 3) := by decide +kernel
theorem dX8_input_43 : decode cX8_input 43 = .ok (.ifCond .ne 15, 3) := by decide +kernel
theorem dX8_input_46 : decode cX8_input 46 = .ok (.aload_n 0, 1) := by decide +kernel
theorem dX8_input_47 : decode cX8_input 47 = .ok (.getfield 22, 3) := by decide +kernel
theorem dX8_input_50 : decode cX8_input 50 = .ok (.bipush 8, 2) := by decide +kernel
theorem dX8_input_52 : decode cX8_input 52 = .ok (.iload_n 1, 1) := by decide +kernel
theorem dX8_input_53 : decode cX8_input 53 = .ok (.imul, 1) := by decide +kernel
theorem dX8_input_54 : decode cX8_input 54 = .ok (.iload_n 2, 1) := by decide +kernel
theorem dX8_input_55 : decode cX8_input 55 = .ok (.iadd, 1) := by decide +kernel
theorem dX8_input_56 : decode cX8_input 56 = .ok (.iload_n 3, 1) := by decide +kernel
theorem dX8_input_57 : decode cX8_input 57 = .ok (.iastore, 1) := by decide +kernel
theorem dX8_input_58 : decode cX8_input 58 = .ok (.return_, 1) := by decide +kernel
theorem dX8_lowestZero_0 : decode cX8_lowestZero 0 = .ok (.iconst 0, 1) := by decide +kernel
theorem dX8_lowestZero_1 : decode cX8_lowestZero 1 = .ok (.istore_n 1, 1) := by decide +kernel
theorem dX8_lowestZero_2 : decode cX8_lowestZero 2 = .ok (.iload_n 1, 1) := by decide +kernel
theorem dX8_lowestZero_3 : decode cX8_lowestZero 3 = .ok (.bipush 32, 2) := by decide +kernel
theorem dX8_lowestZero_5 : decode cX8_lowestZero 5 = .ok (.if_icmp .ge 18, 3) := by decide +kernel
theorem dX8_lowestZero_8 : decode cX8_lowestZero 8 = .ok (.iload_n 0, 1) := by decide +kernel
theorem dX8_lowestZero_9 : decode cX8_lowestZero 9 = .ok (.iload_n 1, 1) := by decide +kernel
theorem dX8_lowestZero_10 : decode cX8_lowestZero 10 = .ok (.ishr, 1) := by decide +kernel
theorem dX8_lowestZero_11 : decode cX8_lowestZero 11 = .ok (.iconst 1, 1) := by decide +kernel
theorem dX8_lowestZero_12 : decode cX8_lowestZero 12 = .ok (.iand, 1) := by decide +kernel
theorem dX8_lowestZero_13 : decode cX8_lowestZero 13 = .ok (.iconst 1, 1) := by decide +kernel
theorem dX8_lowestZero_14 : decode cX8_lowestZero 14 = .ok (.if_icmp .ne 9, 3) := by decide +kernel
theorem dX8_lowestZero_17 : decode cX8_lowestZero 17 = .ok (.iinc 1 1, 3) := by decide +kernel
theorem dX8_lowestZero_20 : decode cX8_lowestZero 20 = .ok (.goto (-18), 3) := by decide +kernel
theorem dX8_lowestZero_23 : decode cX8_lowestZero 23 = .ok (.iload_n 1, 1) := by decide +kernel
theorem dX8_lowestZero_24 : decode cX8_lowestZero 24 = .ok (.ireturn, 1) := by decide +kernel
theorem dX8_make_0 : decode cX8_make 0 = .ok (.iload_n 0, 1) := by decide +kernel
theorem dX8_make_1 : decode cX8_make 1 = .ok (.iconst 2, 1) := by decide +kernel
theorem dX8_make_2 : decode cX8_make 2 = .ok (.if_icmp .ne 7, 3) := by decide +kernel
theorem dX8_make_5 : decode cX8_make 5 = .ok (.iload_n 1, 1) := by decide +kernel
theorem dX8_make_6 : decode cX8_make 6 = .ok (.iload_n 2, 1) := by decide +kernel
theorem dX8_make_7 : decode cX8_make 7 = .ok (.iadd, 1) := by decide +kernel
theorem dX8_make_8 : decode cX8_make 8 = .ok (.ireturn, 1) := by decide +kernel
theorem dX8_make_9 : decode cX8_make 9 = .ok (.iload_n 0, 1) := by decide +kernel
theorem dX8_make_10 : decode cX8_make 10 = .ok (.iconst 3, 1) := by decide +kernel
theorem dX8_make_11 : decode cX8_make 11 = .ok (.if_icmp .ne 7, 3) := by decide +kernel
theorem dX8_make_14 : decode cX8_make 14 = .ok (.iload_n 1, 1) := by decide +kernel
theorem dX8_make_15 : decode cX8_make 15 = .ok (.iload_n 2, 1) := by decide +kernel
theorem dX8_make_16 : decode cX8_make 16 = .ok (.isub, 1) := by decide +kernel
theorem dX8_make_17 : decode cX8_make 17 = .ok (.ireturn, 1) := by decide +kernel
theorem dX8_make_18 : decode cX8_make 18 = .ok (.iload_n 0, 1) := by decide +kernel
theorem dX8_make_19 : decode cX8_make 19 = .ok (.iconst 4, 1) := by decide +kernel
theorem dX8_make_20 : decode cX8_make 20 = .ok (.if_icmp .ne 7, 3) := by decide +kernel
theorem dX8_make_23 : decode cX8_make 23 = .ok (.iload_n 1, 1) := by decide +kernel
theorem dX8_make_24 : decode cX8_make 24 = .ok (.iload_n 2, 1) := by decide +kernel
theorem dX8_make_25 : decode cX8_make 25 = .ok (.imul, 1) := by decide +kernel
theorem dX8_make_26 : decode cX8_make 26 = .ok (.ireturn, 1) := by decide +kernel
theorem dX8_make_27 : decode cX8_make 27 = .ok (.iload_n 0, 1) := by decide +kernel
theorem dX8_make_28 : decode cX8_make 28 = .ok (.iconst 5, 1) := by decide +kernel
theorem dX8_make_29 : decode cX8_make 29 = .ok (.if_icmp .ne 14, 3) := by decide +kernel
theorem dX8_make_32 : decode cX8_make 32 = .ok (.iload_n 1, 1) := by decide +kernel
theorem dX8_make_33 : decode cX8_make 33 = .ok (.iload_n 2, 1) := by decide +kernel
theorem dX8_make_34 : decode cX8_make 34 = .ok (.if_icmp .ge 7, 3) := by decide +kernel
theorem dX8_make_37 : decode cX8_make 37 = .ok (.iload_n 1, 1) := by decide +kernel
theorem dX8_make_38 : decode cX8_make 38 = .ok (.goto 4, 3) := by decide +kernel
theorem dX8_make_41 : decode cX8_make 41 = .ok (.iload_n 2, 1) := by decide +kernel
theorem dX8_make_42 : decode cX8_make 42 = .ok (.ireturn, 1) := by decide +kernel
theorem dX8_make_43 : decode cX8_make 43 = .ok (.iload_n 0, 1) := by decide +kernel
theorem dX8_make_44 : decode cX8_make 44 = .ok (.bipush 6, 2) := by decide +kernel
theorem dX8_make_46 : decode cX8_make 46 = .ok (.if_icmp .ne 14, 3) := by decide +kernel
theorem dX8_make_49 : decode cX8_make 49 = .ok (.iload_n 1, 1) := by decide +kernel
theorem dX8_make_50 : decode cX8_make 50 = .ok (.iload_n 2, 1) := by decide +kernel
theorem dX8_make_51 : decode cX8_make 51 = .ok (.if_icmp .le 7, 3) := by decide +kernel
theorem dX8_make_54 : decode cX8_make 54 = .ok (.iload_n 1, 1) := by decide +kernel
theorem dX8_make_55 : decode cX8_make 55 = .ok (.goto 4, 3) := by decide +kernel
theorem dX8_make_58 : decode cX8_make 58 = .ok (.iload_n 2, 1) := by decide +kernel
theorem dX8_make_59 : decode cX8_make 59 = .ok (.ireturn, 1) := by decide +kernel
theorem dX8_make_60 : decode cX8_make 60 = .ok (.iload_n 0, 1) := by decide +kernel
theorem dX8_make_61 : decode cX8_make 61 = .ok (.bipush 7, 2) := by decide +kernel
theorem dX8_make_63 : decode cX8_make 63 = .ok (.if_icmp .ne 14, 3) := by decide +kernel
theorem dX8_make_66 : decode cX8_make 66 = .ok (.iload_n 1, 1) := by decide +kernel
theorem dX8_make_67 : decode cX8_make 67 = .ok (.iload_n 2, 1) := by decide +kernel
theorem dX8_make_68 : decode cX8_make 68 = .ok (.if_icmp .ge 7, 3) := by decide +kernel
theorem dX8_make_71 : decode cX8_make 71 = .ok (.iconst 1, 1) := by decide +kernel
theorem dX8_make_72 : decode cX8_make 72 = .ok (.goto 4, 3) := by decide +kernel
theorem dX8_make_75 : decode cX8_make 75 = .ok (.iconst 0, 1) := by decide +kernel
theorem dX8_make_76 : decode cX8_make 76 = .ok (.ireturn, 1) := by decide +kernel
theorem dX8_make_77 : decode cX8_make 77 = .ok (.iload_n 0, 1) := by decide +kernel
theorem dX8_make_78 : decode cX8_make 78 = .ok (.bipush 8, 2) := by decide +kernel
theorem dX8_make_80 : decode cX8_make 80 = .ok (.if_icmp .ne 14, 3) := by decide +kernel
theorem dX8_make_83 : decode cX8_make 83 = .ok (.iload_n 1, 1) := by decide +kernel
theorem dX8_make_84 : decode cX8_make 84 = .ok (.iload_n 2, 1) := by decide +kernel
theorem dX8_make_85 : decode cX8_make 85 = .ok (.if_icmp .ne 7, 3) := by decide +kernel
theorem dX8_make_88 : decode cX8_make 88 = .ok (.iconst 1, 1) := by decide +kernel
theorem dX8_make_89 : decode cX8_make 89 = .ok (.goto 4, 3) := by decide +kernel
theorem dX8_make_92 : decode cX8_make 92 = .ok (.iconst 0, 1) := by decide +kernel
theorem dX8_make_93 : decode cX8_make 93 = .ok (.ireturn, 1) := by decide +kernel
theorem dX8_make_94 : decode cX8_make 94 = .ok (.iload_n 0, 1) := by decide +kernel
theorem dX8_make_95 : decode cX8_make 95 = .ok (.bipush 9, 2) := by decide +kernel
theorem dX8_make_97 : decode cX8_make 97 = .ok (.if_icmp .ne 9, 3) := by decide +kernel
theorem dX8_make_100 : decode cX8_make 100 = .ok (.iload_n 1, 1) := by decide +kernel
theorem dX8_make_101 : decode cX8_make 101 = .ok (.iload_n 2, 1) := by decide +kernel
theorem dX8_make_102 : decode cX8_make 102 = .ok (.iand, 1) := by decide +kernel
theorem dX8_make_103 : decode cX8_make 103 = .ok (.goto 18, 3) := by decide +kernel
theorem dX8_make_106 : decode cX8_make 106 = .ok (.iload_n 0, 1) := by decide +kernel
theorem dX8_make_107 : decode cX8_make 107 = .ok (.bipush 10, 2) := by decide +kernel
theorem dX8_make_109 : decode cX8_make 109 = .ok (.if_icmp .ne 9, 3) := by decide +kernel
theorem dX8_make_112 : decode cX8_make 112 = .ok (.iload_n 1, 1) := by decide +kernel
theorem dX8_make_113 : decode cX8_make 113 = .ok (.iload_n 2, 1) := by decide +kernel
theorem dX8_make_114 : decode cX8_make 114 = .ok (.ior, 1) := by decide +kernel
theorem dX8_make_115 : decode cX8_make 115 = .ok (.goto 6, 3) := by decide +kernel
theorem dX8_make_118 : decode cX8_make 118 = .ok (.iload_n 1, 1) := by decide +kernel
theorem dX8_make_119 : decode cX8_make 119 = .ok (.iload_n 2, 1) := by decide +kernel
theorem dX8_make_120 : decode cX8_make 120 = .ok (.ixor, 1) := by decide +kernel
theorem dX8_make_121 : decode cX8_make 121 = .ok (.ireturn, 1) := by decide +kernel
theorem dX8_doWord_0 : decode cX8_doWord 0 = .ok (.aload_n 0, 1) := by decide +kernel
theorem dX8_doWord_1 : decode cX8_doWord 1 = .ok (.getfield 28, 3) := by decide +kernel
theorem dX8_doWord_4 : decode cX8_doWord 4 = .ok (.iconst 4, 1) := by decide +kernel
theorem dX8_doWord_5 : decode cX8_doWord 5 = .ok (.iload_n 1, 1) := by decide +kernel
theorem dX8_doWord_6 : decode cX8_doWord 6 = .ok (.imul, 1) := by decide +kernel
theorem dX8_doWord_7 : decode cX8_doWord 7 = .ok (.iaload, 1) := by decide +kernel
theorem dX8_doWord_8 : decode cX8_doWord 8 = .ok (.istore 5, 2) := by decide +kernel
theorem dX8_doWord_10 : decode cX8_doWord 10 = .ok (.aload_n 0, 1) := by decide +kernel
theorem dX8_doWord_11 : decode cX8_doWord 11 = .ok (.getfield 28, 3) := by decide +kernel
theorem dX8_doWord_14 : decode cX8_doWord 14 = .ok (.iconst 4, 1) := by decide +kernel
theorem dX8_doWord_15 : decode cX8_doWord 15 = .ok (.iload_n 1, 1) := by decide +kernel
theorem dX8_doWord_16 : decode cX8_doWord 16 = .ok (.imul, 1) := by decide +kernel
theorem dX8_doWord_17 : decode cX8_doWord 17 = .ok (.iconst 1, 1) := by decide +kernel
theorem dX8_doWord_18 : decode cX8_doWord 18 = .ok (.iadd, 1) := by decide +kernel
theorem dX8_doWord_19 : decode cX8_doWord 19 = .ok (.iaload, 1) := by decide +kernel
theorem dX8_doWord_20 : decode cX8_doWord 20 = .ok (.istore 6, 2) := by decide +kernel
theorem dX8_doWord_22 : decode cX8_doWord 22 = .ok (.aload_n 0, 1) := by decide +kernel
theorem dX8_doWord_23 : decode cX8_doWord 23 = .ok (.getfield 28, 3) := by decide +kernel
theorem dX8_doWord_26 : decode cX8_doWord 26 = .ok (.iconst 4, 1) := by decide +kernel
theorem dX8_doWord_27 : decode cX8_doWord 27 = .ok (.iload_n 1, 1) := by decide +kernel
theorem dX8_doWord_28 : decode cX8_doWord 28 = .ok (.imul, 1) := by decide +kernel
theorem dX8_doWord_29 : decode cX8_doWord 29 = .ok (.iconst 2, 1) := by decide +kernel
theorem dX8_doWord_30 : decode cX8_doWord 30 = .ok (.iadd, 1) := by decide +kernel
theorem dX8_doWord_31 : decode cX8_doWord 31 = .ok (.iaload, 1) := by decide +kernel
theorem dX8_doWord_32 : decode cX8_doWord 32 = .ok (.istore 7, 2) := by decide +kernel
theorem dX8_doWord_34 : decode cX8_doWord 34 = .ok (.iload 5, 2) := by decide +kernel
theorem dX8_doWord_36 : decode cX8_doWord 36 = .ok (.ifCond .ne 15, 3) := by decide +kernel
theorem dX8_doWord_39 : decode cX8_doWord 39 = .ok (.aload_n 0, 1) := by decide +kernel
theorem dX8_doWord_40 : decode cX8_doWord 40 = .ok (.getfield 31, 3) := by decide +kernel
theorem dX8_doWord_43 : decode cX8_doWord 43 = .ok (.iload 6, 2) := by decide +kernel
theorem dX8_doWord_45 : decode cX8_doWord 45 = .ok (.iload 7, 2) := by decide +kernel
theorem dX8_doWord_47 : decode cX8_doWord 47 = .ok (.iastore, 1) := by decide +kernel
theorem dX8_doWord_48 : decode cX8_doWord 48 = .ok (.goto 263, 3) := by decide +kernel
theorem dX8_doWord_51 : decode cX8_doWord 51 = .ok (.iload 5, 2) := by decide +kernel
theorem dX8_doWord_53 : decode cX8_doWord 53 = .ok (.iconst 1, 1) := by decide +kernel
theorem dX8_doWord_54 : decode cX8_doWord 54 = .ok (.if_icmp .ne 20, 3) := by decide +kernel
theorem dX8_doWord_57 : decode cX8_doWord 57 = .ok (.aload_n 0, 1) := by decide +kernel
theorem dX8_doWord_58 : decode cX8_doWord 58 = .ok (.getfield 31, 3) := by decide +kernel
theorem dX8_doWord_61 : decode cX8_doWord 61 = .ok (.iload 6, 2) := by decide +kernel
theorem dX8_doWord_63 : decode cX8_doWord 63 = .ok (.aload_n 0, 1) := by decide +kernel
theorem dX8_doWord_64 : decode cX8_doWord 64 = .ok (.getfield 31, 3) := by decide +kernel
theorem dX8_doWord_67 : decode cX8_doWord 67 = .ok (.iload 7, 2) := by decide +kernel
theorem dX8_doWord_69 : decode cX8_doWord 69 = .ok (.iaload, 1) := by decide +kernel
theorem dX8_doWord_70 : decode cX8_doWord 70 = .ok (.iastore, 1) := by decide +kernel
theorem dX8_doWord_71 : decode cX8_doWord 71 = .ok (.goto 240, 3) := by decide +kernel
theorem dX8_doWord_74 : decode cX8_doWord 74 = .ok (.iload 5, 2) := by decide +kernel
theorem dX8_doWord_76 : decode cX8_doWord 76 = .ok (.bipush 11, 2) := by decide +kernel
theorem dX8_doWord_78 : decode cX8_doWord 78 = .ok (.if_icmp .gt 40, 3) := by decide +kernel
theorem dX8_doWord_81 : decode cX8_doWord 81 = .ok (.aload_n 0, 1) := by decide +kernel
theorem dX8_doWord_82 : decode cX8_doWord 82 = .ok (.getfield 31, 3) := by decide +kernel
theorem dX8_doWord_85 : decode cX8_doWord 85 = .ok (.iload 6, 2) := by decide +kernel
theorem dX8_doWord_87 : decode cX8_doWord 87 = .ok (.iload 5, 2) := by decide +kernel
theorem dX8_doWord_89 : decode cX8_doWord 89 = .ok (.aload_n 0, 1) := by decide +kernel
theorem dX8_doWord_90 : decode cX8_doWord 90 = .ok (.getfield 31, 3) := by decide +kernel
theorem dX8_doWord_93 : decode cX8_doWord 93 = .ok (.iload 7, 2) := by decide +kernel
theorem dX8_doWord_95 : decode cX8_doWord 95 = .ok (.iaload, 1) := by decide +kernel
theorem dX8_doWord_96 : decode cX8_doWord 96 = .ok (.aload_n 0, 1) := by decide +kernel
theorem dX8_doWord_97 : decode cX8_doWord 97 = .ok (.getfield 31, 3) := by decide +kernel
theorem dX8_doWord_100 : decode cX8_doWord 100 = .ok (.aload_n 0, 1) := by decide +kernel
theorem dX8_doWord_101 : decode cX8_doWord 101 = .ok (.getfield 28, 3) := by decide +kernel
theorem dX8_doWord_104 : decode cX8_doWord 104 = .ok (.iconst 4, 1) := by decide +kernel
theorem dX8_doWord_105 : decode cX8_doWord 105 = .ok (.iload_n 1, 1) := by decide +kernel
theorem dX8_doWord_106 : decode cX8_doWord 106 = .ok (.imul, 1) := by decide +kernel
theorem dX8_doWord_107 : decode cX8_doWord 107 = .ok (.iconst 3, 1) := by decide +kernel
theorem dX8_doWord_108 : decode cX8_doWord 108 = .ok (.iadd, 1) := by decide +kernel
theorem dX8_doWord_109 : decode cX8_doWord 109 = .ok (.iaload, 1) := by decide +kernel
theorem dX8_doWord_110 : decode cX8_doWord 110 = .ok (.iaload, 1) := by decide +kernel
theorem dX8_doWord_111 : decode cX8_doWord 111 = .ok (.invokestatic 189, 3) := by decide +kernel
theorem dX8_doWord_114 : decode cX8_doWord 114 = .ok (.iastore, 1) := by decide +kernel
theorem dX8_doWord_115 : decode cX8_doWord 115 = .ok (.goto 196, 3) := by decide +kernel
theorem dX8_doWord_118 : decode cX8_doWord 118 = .ok (.iload 5, 2) := by decide +kernel
theorem dX8_doWord_120 : decode cX8_doWord 120 = .ok (.bipush 12, 2) := by decide +kernel
theorem dX8_doWord_122 : decode cX8_doWord 122 = .ok (.if_icmp .ne 25, 3) := by decide +kernel
theorem dX8_doWord_125 : decode cX8_doWord 125 = .ok (.aload_n 0, 1) := by decide +kernel
theorem dX8_doWord_126 : decode cX8_doWord 126 = .ok (.getfield 31, 3) := by decide +kernel
theorem dX8_doWord_129 : decode cX8_doWord 129 = .ok (.iload 6, 2) := by decide +kernel
theorem dX8_doWord_131 : decode cX8_doWord 131 = .ok (.iconst 1, 1) := by decide +kernel
theorem dX8_doWord_132 : decode cX8_doWord 132 = .ok (.aload_n 0, 1) := by decide +kernel
theorem dX8_doWord_133 : decode cX8_doWord 133 = .ok (.getfield 31, 3) := by decide +kernel
theorem dX8_doWord_136 : decode cX8_doWord 136 = .ok (.iload 7, 2) := by decide +kernel
theorem dX8_doWord_138 : decode cX8_doWord 138 = .ok (.iaload, 1) := by decide +kernel
theorem dX8_doWord_139 : decode cX8_doWord 139 = .ok (.bipush 31, 2) := by decide +kernel
theorem dX8_doWord_141 : decode cX8_doWord 141 = .ok (.iand, 1) := by decide +kernel
theorem dX8_doWord_142 : decode cX8_doWord 142 = .ok (.ishl, 1) := by decide +kernel
theorem dX8_doWord_143 : decode cX8_doWord 143 = .ok (.iastore, 1) := by decide +kernel
theorem dX8_doWord_144 : decode cX8_doWord 144 = .ok (.goto 167, 3) := by decide +kernel
theorem dX8_doWord_147 : decode cX8_doWord 147 = .ok (.iload 5, 2) := by decide +kernel
theorem dX8_doWord_149 : decode cX8_doWord 149 = .ok (.bipush 13, 2) := by decide +kernel
theorem dX8_doWord_151 : decode cX8_doWord 151 = .ok (.if_icmp .ne 23, 3) := by decide +kernel
theorem dX8_doWord_154 : decode cX8_doWord 154 = .ok (.aload_n 0, 1) := by decide +kernel
theorem dX8_doWord_155 : decode cX8_doWord 155 = .ok (.getfield 31, 3) := by decide +kernel
theorem dX8_doWord_158 : decode cX8_doWord 158 = .ok (.iload 6, 2) := by decide +kernel
theorem dX8_doWord_160 : decode cX8_doWord 160 = .ok (.aload_n 0, 1) := by decide +kernel
theorem dX8_doWord_161 : decode cX8_doWord 161 = .ok (.getfield 31, 3) := by decide +kernel
theorem dX8_doWord_164 : decode cX8_doWord 164 = .ok (.iload 7, 2) := by decide +kernel
theorem dX8_doWord_166 : decode cX8_doWord 166 = .ok (.iaload, 1) := by decide +kernel
theorem dX8_doWord_167 : decode cX8_doWord 167 = .ok (.invokestatic 193, 3) := by decide +kernel
theorem dX8_doWord_170 : decode cX8_doWord 170 = .ok (.iastore, 1) := by decide +kernel
theorem dX8_doWord_171 : decode cX8_doWord 171 = .ok (.goto 140, 3) := by decide +kernel
theorem dX8_doWord_174 : decode cX8_doWord 174 = .ok (.iload 5, 2) := by decide +kernel
theorem dX8_doWord_176 : decode cX8_doWord 176 = .ok (.bipush 16, 2) := by decide +kernel
theorem dX8_doWord_178 : decode cX8_doWord 178 = .ok (.if_icmp .ne 28, 3) := by decide +kernel
theorem dX8_doWord_181 : decode cX8_doWord 181 = .ok (.aload_n 0, 1) := by decide +kernel
theorem dX8_doWord_182 : decode cX8_doWord 182 = .ok (.getfield 31, 3) := by decide +kernel
theorem dX8_doWord_185 : decode cX8_doWord 185 = .ok (.iload 6, 2) := by decide +kernel
theorem dX8_doWord_187 : decode cX8_doWord 187 = .ok (.aload_n 0, 1) := by decide +kernel
theorem dX8_doWord_188 : decode cX8_doWord 188 = .ok (.getfield 34, 3) := by decide +kernel
theorem dX8_doWord_191 : decode cX8_doWord 191 = .ok (.iload 4, 2) := by decide +kernel
theorem dX8_doWord_193 : decode cX8_doWord 193 = .ok (.baload, 1) := by decide +kernel
theorem dX8_doWord_194 : decode cX8_doWord 194 = .ok (.ifCond .eq 7, 3) := by decide +kernel
theorem dX8_doWord_197 : decode cX8_doWord 197 = .ok (.iconst 1, 1) := by decide +kernel
theorem dX8_doWord_198 : decode cX8_doWord 198 = .ok (.goto 4, 3) := by decide +kernel
theorem dX8_doWord_201 : decode cX8_doWord 201 = .ok (.iconst 0, 1) := by decide +kernel
theorem dX8_doWord_202 : decode cX8_doWord 202 = .ok (.iastore, 1) := by decide +kernel
theorem dX8_doWord_203 : decode cX8_doWord 203 = .ok (.goto 108, 3) := by decide +kernel
theorem dX8_doWord_206 : decode cX8_doWord 206 = .ok (.iload 5, 2) := by decide +kernel
theorem dX8_doWord_208 : decode cX8_doWord 208 = .ok (.bipush 17, 2) := by decide +kernel
theorem dX8_doWord_210 : decode cX8_doWord 210 = .ok (.if_icmp .ne 34, 3) := by decide +kernel
theorem dX8_doWord_213 : decode cX8_doWord 213 = .ok (.aload_n 0, 1) := by decide +kernel
theorem dX8_doWord_214 : decode cX8_doWord 214 = .ok (.getfield 31, 3) := by decide +kernel
theorem dX8_doWord_217 : decode cX8_doWord 217 = .ok (.iload 6, 2) := by decide +kernel
theorem dX8_doWord_219 : decode cX8_doWord 219 = .ok (.aload_n 0, 1) := by decide +kernel
theorem dX8_doWord_220 : decode cX8_doWord 220 = .ok (.getfield 34, 3) := by decide +kernel
theorem dX8_doWord_223 : decode cX8_doWord 223 = .ok (.iload 4, 2) := by decide +kernel
theorem dX8_doWord_225 : decode cX8_doWord 225 = .ok (.baload, 1) := by decide +kernel
theorem dX8_doWord_226 : decode cX8_doWord 226 = .ok (.ifCond .eq 13, 3) := by decide +kernel
theorem dX8_doWord_229 : decode cX8_doWord 229 = .ok (.aload_n 0, 1) := by decide +kernel
theorem dX8_doWord_230 : decode cX8_doWord 230 = .ok (.getfield 38, 3) := by decide +kernel
theorem dX8_doWord_233 : decode cX8_doWord 233 = .ok (.iload 4, 2) := by decide +kernel
theorem dX8_doWord_235 : decode cX8_doWord 235 = .ok (.iaload, 1) := by decide +kernel
theorem dX8_doWord_236 : decode cX8_doWord 236 = .ok (.goto 4, 3) := by decide +kernel
theorem dX8_doWord_239 : decode cX8_doWord 239 = .ok (.iconst 0, 1) := by decide +kernel
theorem dX8_doWord_240 : decode cX8_doWord 240 = .ok (.iastore, 1) := by decide +kernel
theorem dX8_doWord_241 : decode cX8_doWord 241 = .ok (.goto 70, 3) := by decide +kernel
theorem dX8_doWord_244 : decode cX8_doWord 244 = .ok (.iload 5, 2) := by decide +kernel
theorem dX8_doWord_246 : decode cX8_doWord 246 = .ok (.bipush 18, 2) := by decide +kernel
theorem dX8_doWord_248 : decode cX8_doWord 248 = .ok (.if_icmp .ne 28, 3) := by decide +kernel
theorem dX8_doWord_251 : decode cX8_doWord 251 = .ok (.aload_n 0, 1) := by decide +kernel
theorem dX8_doWord_252 : decode cX8_doWord 252 = .ok (.getfield 41, 3) := by decide +kernel
theorem dX8_doWord_255 : decode cX8_doWord 255 = .ok (.iload 4, 2) := by decide +kernel
theorem dX8_doWord_257 : decode cX8_doWord 257 = .ok (.iconst 1, 1) := by decide +kernel
theorem dX8_doWord_258 : decode cX8_doWord 258 = .ok (.bastore, 1) := by decide +kernel
theorem dX8_doWord_259 : decode cX8_doWord 259 = .ok (.aload_n 0, 1) := by decide +kernel
theorem dX8_doWord_260 : decode cX8_doWord 260 = .ok (.getfield 44, 3) := by decide +kernel
theorem dX8_doWord_263 : decode cX8_doWord 263 = .ok (.iload 4, 2) := by decide +kernel
theorem dX8_doWord_265 : decode cX8_doWord 265 = .ok (.aload_n 0, 1) := by decide +kernel
theorem dX8_doWord_266 : decode cX8_doWord 266 = .ok (.getfield 31, 3) := by decide +kernel
theorem dX8_doWord_269 : decode cX8_doWord 269 = .ok (.iload 6, 2) := by decide +kernel
theorem dX8_doWord_271 : decode cX8_doWord 271 = .ok (.iaload, 1) := by decide +kernel
theorem dX8_doWord_272 : decode cX8_doWord 272 = .ok (.iastore, 1) := by decide +kernel
theorem dX8_doWord_273 : decode cX8_doWord 273 = .ok (.goto 38, 3) := by decide +kernel
theorem dX8_doWord_276 : decode cX8_doWord 276 = .ok (.aload_n 0, 1) := by decide +kernel
theorem dX8_doWord_277 : decode cX8_doWord 277 = .ok (.getfield 31, 3) := by decide +kernel
theorem dX8_doWord_280 : decode cX8_doWord 280 = .ok (.iload 6, 2) := by decide +kernel
theorem dX8_doWord_282 : decode cX8_doWord 282 = .ok (.iload 5, 2) := by decide +kernel
theorem dX8_doWord_284 : decode cX8_doWord 284 = .ok (.bipush 19, 2) := by decide +kernel
theorem dX8_doWord_286 : decode cX8_doWord 286 = .ok (.if_icmp .ne 7, 3) := by decide +kernel
theorem dX8_doWord_289 : decode cX8_doWord 289 = .ok (.iload_n 3, 1) := by decide +kernel
theorem dX8_doWord_290 : decode cX8_doWord 290 = .ok (.goto 20, 3) := by decide +kernel
theorem dX8_doWord_293 : decode cX8_doWord 293 = .ok (.iload 5, 2) := by decide +kernel
theorem dX8_doWord_295 : decode cX8_doWord 295 = .ok (.bipush 20, 2) := by decide +kernel
theorem dX8_doWord_297 : decode cX8_doWord 297 = .ok (.if_icmp .ne 7, 3) := by decide +kernel
theorem dX8_doWord_300 : decode cX8_doWord 300 = .ok (.iload_n 2, 1) := by decide +kernel
theorem dX8_doWord_301 : decode cX8_doWord 301 = .ok (.goto 9, 3) := by decide +kernel
theorem dX8_doWord_304 : decode cX8_doWord 304 = .ok (.aload_n 0, 1) := by decide +kernel
theorem dX8_doWord_305 : decode cX8_doWord 305 = .ok (.getfield 16, 3) := by decide +kernel
theorem dX8_doWord_308 : decode cX8_doWord 308 = .ok (.iload_n 2, 1) := by decide +kernel
theorem dX8_doWord_309 : decode cX8_doWord 309 = .ok (.iaload, 1) := by decide +kernel
theorem dX8_doWord_310 : decode cX8_doWord 310 = .ok (.iastore, 1) := by decide +kernel
theorem dX8_doWord_311 : decode cX8_doWord 311 = .ok (.return_, 1) := by decide +kernel
theorem dX8_doWords_0 : decode cX8_doWords 0 = .ok (.iload_n 1, 1) := by decide +kernel
theorem dX8_doWords_1 : decode cX8_doWords 1 = .ok (.istore 6, 2) := by decide +kernel
theorem dX8_doWords_3 : decode cX8_doWords 3 = .ok (.iload 6, 2) := by decide +kernel
theorem dX8_doWords_5 : decode cX8_doWords 5 = .ok (.iload_n 2, 1) := by decide +kernel
theorem dX8_doWords_6 : decode cX8_doWords 6 = .ok (.if_icmp .ge 81, 3) := by decide +kernel
theorem dX8_doWords_9 : decode cX8_doWords 9 = .ok (.aload_n 0, 1) := by decide +kernel
theorem dX8_doWords_10 : decode cX8_doWords 10 = .ok (.getfield 28, 3) := by decide +kernel
theorem dX8_doWords_13 : decode cX8_doWords 13 = .ok (.iconst 4, 1) := by decide +kernel
theorem dX8_doWords_14 : decode cX8_doWords 14 = .ok (.iload 6, 2) := by decide +kernel
theorem dX8_doWords_16 : decode cX8_doWords 16 = .ok (.imul, 1) := by decide +kernel
theorem dX8_doWords_17 : decode cX8_doWords 17 = .ok (.iaload, 1) := by decide +kernel
theorem dX8_doWords_18 : decode cX8_doWords 18 = .ok (.bipush 14, 2) := by decide +kernel
theorem dX8_doWords_20 : decode cX8_doWords 20 = .ok (.if_icmp .ne 50, 3) := by decide +kernel
theorem dX8_doWords_23 : decode cX8_doWords 23 = .ok (.aload_n 0, 1) := by decide +kernel
theorem dX8_doWords_24 : decode cX8_doWords 24 = .ok (.getfield 31, 3) := by decide +kernel
theorem dX8_doWords_27 : decode cX8_doWords 27 = .ok (.aload_n 0, 1) := by decide +kernel
theorem dX8_doWords_28 : decode cX8_doWords 28 = .ok (.getfield 28, 3) := by decide +kernel
theorem dX8_doWords_31 : decode cX8_doWords 31 = .ok (.iconst 4, 1) := by decide +kernel
theorem dX8_doWords_32 : decode cX8_doWords 32 = .ok (.iload 6, 2) := by decide +kernel
theorem dX8_doWords_34 : decode cX8_doWords 34 = .ok (.imul, 1) := by decide +kernel
theorem dX8_doWords_35 : decode cX8_doWords 35 = .ok (.iconst 1, 1) := by decide +kernel
theorem dX8_doWords_36 : decode cX8_doWords 36 = .ok (.iadd, 1) := by decide +kernel
theorem dX8_doWords_37 : decode cX8_doWords 37 = .ok (.iaload, 1) := by decide +kernel
theorem dX8_doWords_38 : decode cX8_doWords 38 = .ok (.iaload, 1) := by decide +kernel
theorem dX8_doWords_39 : decode cX8_doWords 39 = .ok (.ifCond .ne 22, 3) := by decide +kernel
theorem dX8_doWords_42 : decode cX8_doWords 42 = .ok (.iload 6, 2) := by decide +kernel
theorem dX8_doWords_44 : decode cX8_doWords 44 = .ok (.aload_n 0, 1) := by decide +kernel
theorem dX8_doWords_45 : decode cX8_doWords 45 = .ok (.getfield 28, 3) := by decide +kernel
theorem dX8_doWords_48 : decode cX8_doWords 48 = .ok (.iconst 4, 1) := by decide +kernel
theorem dX8_doWords_49 : decode cX8_doWords 49 = .ok (.iload 6, 2) := by decide +kernel
theorem dX8_doWords_51 : decode cX8_doWords 51 = .ok (.imul, 1) := by decide +kernel
theorem dX8_doWords_52 : decode cX8_doWords 52 = .ok (.iconst 2, 1) := by decide +kernel
theorem dX8_doWords_53 : decode cX8_doWords 53 = .ok (.iadd, 1) := by decide +kernel
theorem dX8_doWords_54 : decode cX8_doWords 54 = .ok (.iaload, 1) := by decide +kernel
theorem dX8_doWords_55 : decode cX8_doWords 55 = .ok (.iadd, 1) := by decide +kernel
theorem dX8_doWords_56 : decode cX8_doWords 56 = .ok (.iconst 1, 1) := by decide +kernel
theorem dX8_doWords_57 : decode cX8_doWords 57 = .ok (.iadd, 1) := by decide +kernel
theorem dX8_doWords_58 : decode cX8_doWords 58 = .ok (.goto 7, 3) := by decide +kernel
theorem dX8_doWords_61 : decode cX8_doWords 61 = .ok (.iload 6, 2) := by decide +kernel
theorem dX8_doWords_63 : decode cX8_doWords 63 = .ok (.iconst 1, 1) := by decide +kernel
theorem dX8_doWords_64 : decode cX8_doWords 64 = .ok (.iadd, 1) := by decide +kernel
theorem dX8_doWords_65 : decode cX8_doWords 65 = .ok (.istore 6, 2) := by decide +kernel
theorem dX8_doWords_67 : decode cX8_doWords 67 = .ok (.goto (-64), 3) := by decide +kernel
theorem dX8_doWords_70 : decode cX8_doWords 70 = .ok (.aload_n 0, 1) := by decide +kernel
theorem dX8_doWords_71 : decode cX8_doWords 71 = .ok (.iload 6, 2) := by decide +kernel
theorem dX8_doWords_73 : decode cX8_doWords 73 = .ok (.iload_n 3, 1) := by decide +kernel
theorem dX8_doWords_74 : decode cX8_doWords 74 = .ok (.iload 4, 2) := by decide +kernel
theorem dX8_doWords_76 : decode cX8_doWords 76 = .ok (.iload 5, 2) := by decide +kernel
theorem dX8_doWords_78 : decode cX8_doWords 78 = .ok (.invokevirtual 196, 3) := by decide +kernel
theorem dX8_doWords_81 : decode cX8_doWords 81 = .ok (.iinc 6 1, 3) := by decide +kernel
theorem dX8_doWords_84 : decode cX8_doWords 84 = .ok (.goto (-81), 3) := by decide +kernel
theorem dX8_doWords_87 : decode cX8_doWords 87 = .ok (.return_, 1) := by decide +kernel
theorem dX8_doProgram_0 : decode cX8_doProgram 0 = .ok (.iconst 0, 1) := by decide +kernel
theorem dX8_doProgram_1 : decode cX8_doProgram 1 = .ok (.istore_n 3, 1) := by decide +kernel
theorem dX8_doProgram_2 : decode cX8_doProgram 2 = .ok (.iload_n 3, 1) := by decide +kernel
theorem dX8_doProgram_3 : decode cX8_doProgram 3 = .ok (.bipush 24, 2) := by decide +kernel
theorem dX8_doProgram_5 : decode cX8_doProgram 5 = .ok (.if_icmp .ge 16, 3) := by decide +kernel
theorem dX8_doProgram_8 : decode cX8_doProgram 8 = .ok (.aload_n 0, 1) := by decide +kernel
theorem dX8_doProgram_9 : decode cX8_doProgram 9 = .ok (.getfield 41, 3) := by decide +kernel
theorem dX8_doProgram_12 : decode cX8_doProgram 12 = .ok (.iload_n 3, 1) := by decide +kernel
theorem dX8_doProgram_13 : decode cX8_doProgram 13 = .ok (.iconst 0, 1) := by decide +kernel
theorem dX8_doProgram_14 : decode cX8_doProgram 14 = .ok (.bastore, 1) := by decide +kernel
theorem dX8_doProgram_15 : decode cX8_doProgram 15 = .ok (.iinc 3 1, 3) := by decide +kernel
theorem dX8_doProgram_18 : decode cX8_doProgram 18 = .ok (.goto (-16), 3) := by decide +kernel
theorem dX8_doProgram_21 : decode cX8_doProgram 21 = .ok (.iconst 0, 1) := by decide +kernel
theorem dX8_doProgram_22 : decode cX8_doProgram 22 = .ok (.istore_n 3, 1) := by decide +kernel
theorem dX8_doProgram_23 : decode cX8_doProgram 23 = .ok (.iload_n 3, 1) := by decide +kernel
theorem dX8_doProgram_24 : decode cX8_doProgram 24 = .ok (.aload_n 0, 1) := by decide +kernel
theorem dX8_doProgram_25 : decode cX8_doProgram 25 = .ok (.getfield 139, 3) := by decide +kernel
theorem dX8_doProgram_28 : decode cX8_doProgram 28 = .ok (.if_icmp .ge 153, 3) := by decide +kernel
theorem dX8_doProgram_31 : decode cX8_doProgram 31 = .ok (.aload_n 0, 1) := by decide +kernel
theorem dX8_doProgram_32 : decode cX8_doProgram 32 = .ok (.getfield 28, 3) := by decide +kernel
theorem dX8_doProgram_35 : decode cX8_doProgram 35 = .ok (.iconst 4, 1) := by decide +kernel
theorem dX8_doProgram_36 : decode cX8_doProgram 36 = .ok (.iload_n 3, 1) := by decide +kernel
theorem dX8_doProgram_37 : decode cX8_doProgram 37 = .ok (.imul, 1) := by decide +kernel
theorem dX8_doProgram_38 : decode cX8_doProgram 38 = .ok (.iconst 2, 1) := by decide +kernel
theorem dX8_doProgram_39 : decode cX8_doProgram 39 = .ok (.iadd, 1) := by decide +kernel
theorem dX8_doProgram_40 : decode cX8_doProgram 40 = .ok (.iaload, 1) := by decide +kernel
theorem dX8_doProgram_41 : decode cX8_doProgram 41 = .ok (.istore 4, 2) := by decide +kernel
theorem dX8_doProgram_43 : decode cX8_doProgram 43 = .ok (.aload_n 0, 1) := by decide +kernel
theorem dX8_doProgram_44 : decode cX8_doProgram 44 = .ok (.getfield 28, 3) := by decide +kernel
theorem dX8_doProgram_47 : decode cX8_doProgram 47 = .ok (.iconst 4, 1) := by decide +kernel
theorem dX8_doProgram_48 : decode cX8_doProgram 48 = .ok (.iload_n 3, 1) := by decide +kernel
theorem dX8_doProgram_49 : decode cX8_doProgram 49 = .ok (.imul, 1) := by decide +kernel
theorem dX8_doProgram_50 : decode cX8_doProgram 50 = .ok (.iaload, 1) := by decide +kernel
theorem dX8_doProgram_51 : decode cX8_doProgram 51 = .ok (.bipush 15, 2) := by decide +kernel
theorem dX8_doProgram_53 : decode cX8_doProgram 53 = .ok (.if_icmp .ne 67, 3) := by decide +kernel
theorem dX8_doProgram_56 : decode cX8_doProgram 56 = .ok (.iconst 0, 1) := by decide +kernel
theorem dX8_doProgram_57 : decode cX8_doProgram 57 = .ok (.istore 5, 2) := by decide +kernel
theorem dX8_doProgram_59 : decode cX8_doProgram 59 = .ok (.iload 5, 2) := by decide +kernel
theorem dX8_doProgram_61 : decode cX8_doProgram 61 = .ok (.aload_n 0, 1) := by decide +kernel
theorem dX8_doProgram_62 : decode cX8_doProgram 62 = .ok (.getfield 16, 3) := by decide +kernel
theorem dX8_doProgram_65 : decode cX8_doProgram 65 = .ok (.iload_n 1, 1) := by decide +kernel
theorem dX8_doProgram_66 : decode cX8_doProgram 66 = .ok (.iaload, 1) := by decide +kernel
theorem dX8_doProgram_67 : decode cX8_doProgram 67 = .ok (.if_icmp .ge 43, 3) := by decide +kernel
theorem dX8_doProgram_70 : decode cX8_doProgram 70 = .ok (.aload_n 0, 1) := by decide +kernel
theorem dX8_doProgram_71 : decode cX8_doProgram 71 = .ok (.getfield 31, 3) := by decide +kernel
theorem dX8_doProgram_74 : decode cX8_doProgram 74 = .ok (.aload_n 0, 1) := by decide +kernel
theorem dX8_doProgram_75 : decode cX8_doProgram 75 = .ok (.getfield 28, 3) := by decide +kernel
theorem dX8_doProgram_78 : decode cX8_doProgram 78 = .ok (.iconst 4, 1) := by decide +kernel
theorem dX8_doProgram_79 : decode cX8_doProgram 79 = .ok (.iload_n 3, 1) := by decide +kernel
theorem dX8_doProgram_80 : decode cX8_doProgram 80 = .ok (.imul, 1) := by decide +kernel
theorem dX8_doProgram_81 : decode cX8_doProgram 81 = .ok (.iconst 1, 1) := by decide +kernel
theorem dX8_doProgram_82 : decode cX8_doProgram 82 = .ok (.iadd, 1) := by decide +kernel
theorem dX8_doProgram_83 : decode cX8_doProgram 83 = .ok (.iaload, 1) := by decide +kernel
theorem dX8_doProgram_84 : decode cX8_doProgram 84 = .ok (.iload 5, 2) := by decide +kernel
theorem dX8_doProgram_86 : decode cX8_doProgram 86 = .ok (.iastore, 1) := by decide +kernel
theorem dX8_doProgram_87 : decode cX8_doProgram 87 = .ok (.aload_n 0, 1) := by decide +kernel
theorem dX8_doProgram_88 : decode cX8_doProgram 88 = .ok (.iload_n 3, 1) := by decide +kernel
theorem dX8_doProgram_89 : decode cX8_doProgram 89 = .ok (.iconst 1, 1) := by decide +kernel
theorem dX8_doProgram_90 : decode cX8_doProgram 90 = .ok (.iadd, 1) := by decide +kernel
theorem dX8_doProgram_91 : decode cX8_doProgram 91 = .ok (.iload_n 3, 1) := by decide +kernel
theorem dX8_doProgram_92 : decode cX8_doProgram 92 = .ok (.iload 4, 2) := by decide +kernel
theorem dX8_doProgram_94 : decode cX8_doProgram 94 = .ok (.iadd, 1) := by decide +kernel
theorem dX8_doProgram_95 : decode cX8_doProgram 95 = .ok (.iconst 1, 1) := by decide +kernel
theorem dX8_doProgram_96 : decode cX8_doProgram 96 = .ok (.iadd, 1) := by decide +kernel
theorem dX8_doProgram_97 : decode cX8_doProgram 97 = .ok (.iload_n 1, 1) := by decide +kernel
theorem dX8_doProgram_98 : decode cX8_doProgram 98 = .ok (.iload_n 2, 1) := by decide +kernel
theorem dX8_doProgram_99 : decode cX8_doProgram 99 = .ok (.iload 5, 2) := by decide +kernel
theorem dX8_doProgram_101 : decode cX8_doProgram 101 = .ok (.invokevirtual 199, 3) := by decide +kernel
theorem dX8_doProgram_104 : decode cX8_doProgram 104 = .ok (.iinc 5 1, 3) := by decide +kernel
theorem dX8_doProgram_107 : decode cX8_doProgram 107 = .ok (.goto (-48), 3) := by decide +kernel
theorem dX8_doProgram_110 : decode cX8_doProgram 110 = .ok (.iload_n 3, 1) := by decide +kernel
theorem dX8_doProgram_111 : decode cX8_doProgram 111 = .ok (.iload 4, 2) := by decide +kernel
theorem dX8_doProgram_113 : decode cX8_doProgram 113 = .ok (.iadd, 1) := by decide +kernel
theorem dX8_doProgram_114 : decode cX8_doProgram 114 = .ok (.iconst 1, 1) := by decide +kernel
theorem dX8_doProgram_115 : decode cX8_doProgram 115 = .ok (.iadd, 1) := by decide +kernel
theorem dX8_doProgram_116 : decode cX8_doProgram 116 = .ok (.istore_n 3, 1) := by decide +kernel
theorem dX8_doProgram_117 : decode cX8_doProgram 117 = .ok (.goto 61, 3) := by decide +kernel
theorem dX8_doProgram_120 : decode cX8_doProgram 120 = .ok (.aload_n 0, 1) := by decide +kernel
theorem dX8_doProgram_121 : decode cX8_doProgram 121 = .ok (.getfield 28, 3) := by decide +kernel
theorem dX8_doProgram_124 : decode cX8_doProgram 124 = .ok (.iconst 4, 1) := by decide +kernel
theorem dX8_doProgram_125 : decode cX8_doProgram 125 = .ok (.iload_n 3, 1) := by decide +kernel
theorem dX8_doProgram_126 : decode cX8_doProgram 126 = .ok (.imul, 1) := by decide +kernel
theorem dX8_doProgram_127 : decode cX8_doProgram 127 = .ok (.iaload, 1) := by decide +kernel
theorem dX8_doProgram_128 : decode cX8_doProgram 128 = .ok (.bipush 14, 2) := by decide +kernel
theorem dX8_doProgram_130 : decode cX8_doProgram 130 = .ok (.if_icmp .ne 37, 3) := by decide +kernel
theorem dX8_doProgram_133 : decode cX8_doProgram 133 = .ok (.aload_n 0, 1) := by decide +kernel
theorem dX8_doProgram_134 : decode cX8_doProgram 134 = .ok (.getfield 31, 3) := by decide +kernel
theorem dX8_doProgram_137 : decode cX8_doProgram 137 = .ok (.aload_n 0, 1) := by decide +kernel
theorem dX8_doProgram_138 : decode cX8_doProgram 138 = .ok (.getfield 28, 3) := by decide +kernel
theorem dX8_doProgram_141 : decode cX8_doProgram 141 = .ok (.iconst 4, 1) := by decide +kernel
theorem dX8_doProgram_142 : decode cX8_doProgram 142 = .ok (.iload_n 3, 1) := by decide +kernel
theorem dX8_doProgram_143 : decode cX8_doProgram 143 = .ok (.imul, 1) := by decide +kernel
theorem dX8_doProgram_144 : decode cX8_doProgram 144 = .ok (.iconst 1, 1) := by decide +kernel
theorem dX8_doProgram_145 : decode cX8_doProgram 145 = .ok (.iadd, 1) := by decide +kernel
theorem dX8_doProgram_146 : decode cX8_doProgram 146 = .ok (.iaload, 1) := by decide +kernel
theorem dX8_doProgram_147 : decode cX8_doProgram 147 = .ok (.iaload, 1) := by decide +kernel
theorem dX8_doProgram_148 : decode cX8_doProgram 148 = .ok (.ifCond .ne 12, 3) := by decide +kernel
theorem dX8_doProgram_151 : decode cX8_doProgram 151 = .ok (.iload_n 3, 1) := by decide +kernel
theorem dX8_doProgram_152 : decode cX8_doProgram 152 = .ok (.iload 4, 2) := by decide +kernel
theorem dX8_doProgram_154 : decode cX8_doProgram 154 = .ok (.iadd, 1) := by decide +kernel
theorem dX8_doProgram_155 : decode cX8_doProgram 155 = .ok (.iconst 1, 1) := by decide +kernel
theorem dX8_doProgram_156 : decode cX8_doProgram 156 = .ok (.iadd, 1) := by decide +kernel
theorem dX8_doProgram_157 : decode cX8_doProgram 157 = .ok (.goto 6, 3) := by decide +kernel
theorem dX8_doProgram_160 : decode cX8_doProgram 160 = .ok (.iload_n 3, 1) := by decide +kernel
theorem dX8_doProgram_161 : decode cX8_doProgram 161 = .ok (.iconst 1, 1) := by decide +kernel
theorem dX8_doProgram_162 : decode cX8_doProgram 162 = .ok (.iadd, 1) := by decide +kernel
theorem dX8_doProgram_163 : decode cX8_doProgram 163 = .ok (.istore_n 3, 1) := by decide +kernel
theorem dX8_doProgram_164 : decode cX8_doProgram 164 = .ok (.goto 14, 3) := by decide +kernel
theorem dX8_doProgram_167 : decode cX8_doProgram 167 = .ok (.aload_n 0, 1) := by decide +kernel
theorem dX8_doProgram_168 : decode cX8_doProgram 168 = .ok (.iload_n 3, 1) := by decide +kernel
theorem dX8_doProgram_169 : decode cX8_doProgram 169 = .ok (.iload_n 1, 1) := by decide +kernel
theorem dX8_doProgram_170 : decode cX8_doProgram 170 = .ok (.iload_n 2, 1) := by decide +kernel
theorem dX8_doProgram_171 : decode cX8_doProgram 171 = .ok (.iconst 0, 1) := by decide +kernel
theorem dX8_doProgram_172 : decode cX8_doProgram 172 = .ok (.invokevirtual 196, 3) := by decide +kernel
theorem dX8_doProgram_175 : decode cX8_doProgram 175 = .ok (.iinc 3 1, 3) := by decide +kernel
theorem dX8_doProgram_178 : decode cX8_doProgram 178 = .ok (.goto (-155), 3) := by decide +kernel
theorem dX8_doProgram_181 : decode cX8_doProgram 181 = .ok (.return_, 1) := by decide +kernel
theorem dX8_takeIn_0 : decode cX8_takeIn 0 = .ok (.iconst 0, 1) := by decide +kernel
theorem dX8_takeIn_1 : decode cX8_takeIn 1 = .ok (.istore_n 3, 1) := by decide +kernel
theorem dX8_takeIn_2 : decode cX8_takeIn 2 = .ok (.iload_n 3, 1) := by decide +kernel
theorem dX8_takeIn_3 : decode cX8_takeIn 3 = .ok (.aload_n 0, 1) := by decide +kernel
theorem dX8_takeIn_4 : decode cX8_takeIn 4 = .ok (.getfield 16, 3) := by decide +kernel
theorem dX8_takeIn_7 : decode cX8_takeIn 7 = .ok (.iload_n 1, 1) := by decide +kernel
theorem dX8_takeIn_8 : decode cX8_takeIn 8 = .ok (.iaload, 1) := by decide +kernel
theorem dX8_takeIn_9 : decode cX8_takeIn 9 = .ok (.if_icmp .ge 58, 3) := by decide +kernel
theorem dX8_takeIn_12 : decode cX8_takeIn 12 = .ok (.bipush 120, 2) := by decide +kernel
theorem dX8_takeIn_14 : decode cX8_takeIn 14 = .ok (.iload_n 2, 1) := by decide +kernel
theorem dX8_takeIn_15 : decode cX8_takeIn 15 = .ok (.imul, 1) := by decide +kernel
theorem dX8_takeIn_16 : decode cX8_takeIn 16 = .ok (.aload_n 0, 1) := by decide +kernel
theorem dX8_takeIn_17 : decode cX8_takeIn 17 = .ok (.aload_n 0, 1) := by decide +kernel
theorem dX8_takeIn_18 : decode cX8_takeIn 18 = .ok (.getfield 19, 3) := by decide +kernel
theorem dX8_takeIn_21 : decode cX8_takeIn 21 = .ok (.bipush 24, 2) := by decide +kernel
theorem dX8_takeIn_23 : decode cX8_takeIn 23 = .ok (.iload_n 1, 1) := by decide +kernel
theorem dX8_takeIn_24 : decode cX8_takeIn 24 = .ok (.imul, 1) := by decide +kernel
theorem dX8_takeIn_25 : decode cX8_takeIn 25 = .ok (.iload_n 3, 1) := by decide +kernel
theorem dX8_takeIn_26 : decode cX8_takeIn 26 = .ok (.iadd, 1) := by decide +kernel
theorem dX8_takeIn_27 : decode cX8_takeIn 27 = .ok (.iaload, 1) := by decide +kernel
theorem dX8_takeIn_28 : decode cX8_takeIn 28 = .ok (.iload_n 1, 1) := by decide +kernel
theorem dX8_takeIn_29 : decode cX8_takeIn 29 = .ok (.invokevirtual 202, 3) := by decide +kernel
theorem dX8_takeIn_32 : decode cX8_takeIn 32 = .ok (.iadd, 1) := by decide +kernel
theorem dX8_takeIn_33 : decode cX8_takeIn 33 = .ok (.istore 4, 2) := by decide +kernel
theorem dX8_takeIn_35 : decode cX8_takeIn 35 = .ok (.aload_n 0, 1) := by decide +kernel
theorem dX8_takeIn_36 : decode cX8_takeIn 36 = .ok (.getfield 34, 3) := by decide +kernel
theorem dX8_takeIn_39 : decode cX8_takeIn 39 = .ok (.iload_n 3, 1) := by decide +kernel
theorem dX8_takeIn_40 : decode cX8_takeIn 40 = .ok (.aload_n 0, 1) := by decide +kernel
theorem dX8_takeIn_41 : decode cX8_takeIn 41 = .ok (.getfield 47, 3) := by decide +kernel
theorem dX8_takeIn_44 : decode cX8_takeIn 44 = .ok (.iload 4, 2) := by decide +kernel
theorem dX8_takeIn_46 : decode cX8_takeIn 46 = .ok (.baload, 1) := by decide +kernel
theorem dX8_takeIn_47 : decode cX8_takeIn 47 = .ok (.bastore, 1) := by decide +kernel
theorem dX8_takeIn_48 : decode cX8_takeIn 48 = .ok (.aload_n 0, 1) := by decide +kernel
theorem dX8_takeIn_49 : decode cX8_takeIn 49 = .ok (.getfield 38, 3) := by decide +kernel
theorem dX8_takeIn_52 : decode cX8_takeIn 52 = .ok (.iload_n 3, 1) := by decide +kernel
theorem dX8_takeIn_53 : decode cX8_takeIn 53 = .ok (.aload_n 0, 1) := by decide +kernel
theorem dX8_takeIn_54 : decode cX8_takeIn 54 = .ok (.getfield 50, 3) := by decide +kernel
theorem dX8_takeIn_57 : decode cX8_takeIn 57 = .ok (.iload 4, 2) := by decide +kernel
theorem dX8_takeIn_59 : decode cX8_takeIn 59 = .ok (.iaload, 1) := by decide +kernel
theorem dX8_takeIn_60 : decode cX8_takeIn 60 = .ok (.iastore, 1) := by decide +kernel
theorem dX8_takeIn_61 : decode cX8_takeIn 61 = .ok (.iinc 3 1, 3) := by decide +kernel
theorem dX8_takeIn_64 : decode cX8_takeIn 64 = .ok (.goto (-62), 3) := by decide +kernel
theorem dX8_takeIn_67 : decode cX8_takeIn 67 = .ok (.return_, 1) := by decide +kernel
theorem dX8_lockstep_0 : decode cX8_lockstep 0 = .ok (.aload_n 0, 1) := by decide +kernel
theorem dX8_lockstep_1 : decode cX8_lockstep 1 = .ok (.iload_n 1, 1) := by decide +kernel
theorem dX8_lockstep_2 : decode cX8_lockstep 2 = .ok (.ifCond .lt 10, 3) := by decide +kernel
theorem dX8_lockstep_5 : decode cX8_lockstep 5 = .ok (.iload_n 1, 1) := by decide +kernel
theorem dX8_lockstep_6 : decode cX8_lockstep 6 = .ok (.sipush 300, 3) := by decide +kernel
theorem dX8_lockstep_9 : decode cX8_lockstep 9 = .ok (.if_icmp .le 7, 3) := by decide +kernel
theorem dX8_lockstep_12 : decode cX8_lockstep 12 = .ok (.iconst 1, 1) := by decide +kernel
theorem dX8_lockstep_13 : decode cX8_lockstep 13 = .ok (.goto 16, 3) := by decide +kernel
theorem dX8_lockstep_16 : decode cX8_lockstep 16 = .ok (.aload_n 0, 1) := by decide +kernel
theorem dX8_lockstep_17 : decode cX8_lockstep 17 = .ok (.invokevirtual 185, 3) := by decide +kernel
theorem dX8_lockstep_20 : decode cX8_lockstep 20 = .ok (.iconst (-1), 1) := by decide +kernel
theorem dX8_lockstep_21 : decode cX8_lockstep 21 = .ok (.if_icmp .eq 7, 3) := by decide +kernel
theorem dX8_lockstep_24 : decode cX8_lockstep 24 = .ok (.iconst 2, 1) := by decide +kernel
theorem dX8_lockstep_25 : decode cX8_lockstep 25 = .ok (.goto 4, 3) := by decide +kernel
theorem dX8_lockstep_28 : decode cX8_lockstep 28 = .ok (.iconst 0, 1) := by decide +kernel
theorem dX8_lockstep_29 : decode cX8_lockstep 29 = .ok (.putfield 113, 3) := by decide +kernel
theorem dX8_lockstep_32 : decode cX8_lockstep 32 = .ok (.aload_n 0, 1) := by decide +kernel
theorem dX8_lockstep_33 : decode cX8_lockstep 33 = .ok (.getfield 113, 3) := by decide +kernel
theorem dX8_lockstep_36 : decode cX8_lockstep 36 = .ok (.ifCond .le 4, 3) := by decide +kernel
theorem dX8_lockstep_39 : decode cX8_lockstep 39 = .ok (.return_, 1) := by decide +kernel
theorem dX8_lockstep_40 : decode cX8_lockstep 40 = .ok (.iconst 0, 1) := by decide +kernel
theorem dX8_lockstep_41 : decode cX8_lockstep 41 = .ok (.istore_n 2, 1) := by decide +kernel
theorem dX8_lockstep_42 : decode cX8_lockstep 42 = .ok (.iload_n 2, 1) := by decide +kernel
theorem dX8_lockstep_43 : decode cX8_lockstep 43 = .ok (.sipush 240, 3) := by decide +kernel
theorem dX8_lockstep_46 : decode cX8_lockstep 46 = .ok (.if_icmp .ge 16, 3) := by decide +kernel
theorem dX8_lockstep_49 : decode cX8_lockstep 49 = .ok (.aload_n 0, 1) := by decide +kernel
theorem dX8_lockstep_50 : decode cX8_lockstep 50 = .ok (.getfield 107, 3) := by decide +kernel
theorem dX8_lockstep_53 : decode cX8_lockstep 53 = .ok (.iload_n 2, 1) := by decide +kernel
theorem dX8_lockstep_54 : decode cX8_lockstep 54 = .ok (.iconst 0, 1) := by decide +kernel
theorem dX8_lockstep_55 : decode cX8_lockstep 55 = .ok (.bastore, 1) := by decide +kernel
theorem dX8_lockstep_56 : decode cX8_lockstep 56 = .ok (.iinc 2 1, 3) := by decide +kernel
theorem dX8_lockstep_59 : decode cX8_lockstep 59 = .ok (.goto (-17), 3) := by decide +kernel
theorem dX8_lockstep_62 : decode cX8_lockstep 62 = .ok (.iconst 0, 1) := by decide +kernel
theorem dX8_lockstep_63 : decode cX8_lockstep 63 = .ok (.istore_n 2, 1) := by decide +kernel
theorem dX8_lockstep_64 : decode cX8_lockstep 64 = .ok (.iload_n 2, 1) := by decide +kernel
theorem dX8_lockstep_65 : decode cX8_lockstep 65 = .ok (.sipush 192, 3) := by decide +kernel
theorem dX8_lockstep_68 : decode cX8_lockstep 68 = .ok (.if_icmp .ge 21, 3) := by decide +kernel
theorem dX8_lockstep_71 : decode cX8_lockstep 71 = .ok (.aload_n 0, 1) := by decide +kernel
theorem dX8_lockstep_72 : decode cX8_lockstep 72 = .ok (.getfield 25, 3) := by decide +kernel
theorem dX8_lockstep_75 : decode cX8_lockstep 75 = .ok (.iload_n 2, 1) := by decide +kernel
theorem dX8_lockstep_76 : decode cX8_lockstep 76 = .ok (.aload_n 0, 1) := by decide +kernel
theorem dX8_lockstep_77 : decode cX8_lockstep 77 = .ok (.getfield 22, 3) := by decide +kernel
theorem dX8_lockstep_80 : decode cX8_lockstep 80 = .ok (.iload_n 2, 1) := by decide +kernel
theorem dX8_lockstep_81 : decode cX8_lockstep 81 = .ok (.iaload, 1) := by decide +kernel
theorem dX8_lockstep_82 : decode cX8_lockstep 82 = .ok (.iastore, 1) := by decide +kernel
theorem dX8_lockstep_83 : decode cX8_lockstep 83 = .ok (.iinc 2 1, 3) := by decide +kernel
theorem dX8_lockstep_86 : decode cX8_lockstep 86 = .ok (.goto (-22), 3) := by decide +kernel
theorem dX8_lockstep_89 : decode cX8_lockstep 89 = .ok (.iconst 1, 1) := by decide +kernel
theorem dX8_lockstep_90 : decode cX8_lockstep 90 = .ok (.istore_n 2, 1) := by decide +kernel
theorem dX8_lockstep_91 : decode cX8_lockstep 91 = .ok (.iload_n 2, 1) := by decide +kernel
theorem dX8_lockstep_92 : decode cX8_lockstep 92 = .ok (.iload_n 1, 1) := by decide +kernel
theorem dX8_lockstep_93 : decode cX8_lockstep 93 = .ok (.if_icmp .gt 14, 3) := by decide +kernel
theorem dX8_lockstep_96 : decode cX8_lockstep 96 = .ok (.aload_n 0, 1) := by decide +kernel
theorem dX8_lockstep_97 : decode cX8_lockstep 97 = .ok (.iload_n 2, 1) := by decide +kernel
theorem dX8_lockstep_98 : decode cX8_lockstep 98 = .ok (.invokevirtual 205, 3) := by decide +kernel
theorem dX8_lockstep_101 : decode cX8_lockstep 101 = .ok (.iinc 2 1, 3) := by decide +kernel
theorem dX8_lockstep_104 : decode cX8_lockstep 104 = .ok (.goto (-13), 3) := by decide +kernel
theorem dX8_lockstep_107 : decode cX8_lockstep 107 = .ok (.return_, 1) := by decide +kernel
theorem dX8_plainRound_0 : decode cX8_plainRound 0 = .ok (.bipush 120, 2) := by decide +kernel
theorem dX8_plainRound_2 : decode cX8_plainRound 2 = .ok (.iload_n 1, 1) := by decide +kernel
theorem dX8_plainRound_3 : decode cX8_plainRound 3 = .ok (.iconst 2, 1) := by decide +kernel
theorem dX8_plainRound_4 : decode cX8_plainRound 4 = .ok (.irem, 1) := by decide +kernel
theorem dX8_plainRound_5 : decode cX8_plainRound 5 = .ok (.imul, 1) := by decide +kernel
theorem dX8_plainRound_6 : decode cX8_plainRound 6 = .ok (.istore_n 2, 1) := by decide +kernel
theorem dX8_plainRound_7 : decode cX8_plainRound 7 = .ok (.bipush 120, 2) := by decide +kernel
theorem dX8_plainRound_9 : decode cX8_plainRound 9 = .ok (.iload_n 2, 1) := by decide +kernel
theorem dX8_plainRound_10 : decode cX8_plainRound 10 = .ok (.isub, 1) := by decide +kernel
theorem dX8_plainRound_11 : decode cX8_plainRound 11 = .ok (.istore_n 3, 1) := by decide +kernel
theorem dX8_plainRound_12 : decode cX8_plainRound 12 = .ok (.iconst 0, 1) := by decide +kernel
theorem dX8_plainRound_13 : decode cX8_plainRound 13 = .ok (.istore 4, 2) := by decide +kernel
theorem dX8_plainRound_15 : decode cX8_plainRound 15 = .ok (.iload 4, 2) := by decide +kernel
theorem dX8_plainRound_17 : decode cX8_plainRound 17 = .ok (.bipush 120, 2) := by decide +kernel
theorem dX8_plainRound_19 : decode cX8_plainRound 19 = .ok (.if_icmp .ge 19, 3) := by decide +kernel
theorem dX8_plainRound_22 : decode cX8_plainRound 22 = .ok (.aload_n 0, 1) := by decide +kernel
theorem dX8_plainRound_23 : decode cX8_plainRound 23 = .ok (.getfield 107, 3) := by decide +kernel
theorem dX8_plainRound_26 : decode cX8_plainRound 26 = .ok (.iload_n 2, 1) := by decide +kernel
theorem dX8_plainRound_27 : decode cX8_plainRound 27 = .ok (.iload 4, 2) := by decide +kernel
theorem dX8_plainRound_29 : decode cX8_plainRound 29 = .ok (.iadd, 1) := by decide +kernel
theorem dX8_plainRound_30 : decode cX8_plainRound 30 = .ok (.iconst 0, 1) := by decide +kernel
theorem dX8_plainRound_31 : decode cX8_plainRound 31 = .ok (.bastore, 1) := by decide +kernel
theorem dX8_plainRound_32 : decode cX8_plainRound 32 = .ok (.iinc 4 1, 3) := by decide +kernel
theorem dX8_plainRound_35 : decode cX8_plainRound 35 = .ok (.goto (-20), 3) := by decide +kernel
theorem dX8_plainRound_38 : decode cX8_plainRound 38 = .ok (.iconst 0, 1) := by decide +kernel
theorem dX8_plainRound_39 : decode cX8_plainRound 39 = .ok (.istore 4, 2) := by decide +kernel
theorem dX8_plainRound_41 : decode cX8_plainRound 41 = .ok (.iload 4, 2) := by decide +kernel
theorem dX8_plainRound_43 : decode cX8_plainRound 43 = .ok (.aload_n 0, 1) := by decide +kernel
theorem dX8_plainRound_44 : decode cX8_plainRound 44 = .ok (.getfield 117, 3) := by decide +kernel
theorem dX8_plainRound_47 : decode cX8_plainRound 47 = .ok (.if_icmp .ge 246, 3) := by decide +kernel
theorem dX8_plainRound_50 : decode cX8_plainRound 50 = .ok (.iconst 0, 1) := by decide +kernel
theorem dX8_plainRound_51 : decode cX8_plainRound 51 = .ok (.istore 5, 2) := by decide +kernel
theorem dX8_plainRound_53 : decode cX8_plainRound 53 = .ok (.iload 5, 2) := by decide +kernel
theorem dX8_plainRound_55 : decode cX8_plainRound 55 = .ok (.bipush 8, 2) := by decide +kernel
theorem dX8_plainRound_57 : decode cX8_plainRound 57 = .ok (.if_icmp .ge 29, 3) := by decide +kernel
theorem dX8_plainRound_60 : decode cX8_plainRound 60 = .ok (.aload_n 0, 1) := by decide +kernel
theorem dX8_plainRound_61 : decode cX8_plainRound 61 = .ok (.getfield 31, 3) := by decide +kernel
theorem dX8_plainRound_64 : decode cX8_plainRound 64 = .ok (.iload 5, 2) := by decide +kernel
theorem dX8_plainRound_66 : decode cX8_plainRound 66 = .ok (.aload_n 0, 1) := by decide +kernel
theorem dX8_plainRound_67 : decode cX8_plainRound 67 = .ok (.getfield 25, 3) := by decide +kernel
theorem dX8_plainRound_70 : decode cX8_plainRound 70 = .ok (.bipush 8, 2) := by decide +kernel
theorem dX8_plainRound_72 : decode cX8_plainRound 72 = .ok (.iload 4, 2) := by decide +kernel
theorem dX8_plainRound_74 : decode cX8_plainRound 74 = .ok (.imul, 1) := by decide +kernel
theorem dX8_plainRound_75 : decode cX8_plainRound 75 = .ok (.iload 5, 2) := by decide +kernel
theorem dX8_plainRound_77 : decode cX8_plainRound 77 = .ok (.iadd, 1) := by decide +kernel
theorem dX8_plainRound_78 : decode cX8_plainRound 78 = .ok (.iaload, 1) := by decide +kernel
theorem dX8_plainRound_79 : decode cX8_plainRound 79 = .ok (.iastore, 1) := by decide +kernel
theorem dX8_plainRound_80 : decode cX8_plainRound 80 = .ok (.iinc 5 1, 3) := by decide +kernel
theorem dX8_plainRound_83 : decode cX8_plainRound 83 = .ok (.goto (-30), 3) := by decide +kernel
theorem dX8_plainRound_86 : decode cX8_plainRound 86 = .ok (.iconst 0, 1) := by decide +kernel
theorem dX8_plainRound_87 : decode cX8_plainRound 87 = .ok (.istore 5, 2) := by decide +kernel
theorem dX8_plainRound_89 : decode cX8_plainRound 89 = .ok (.iload 5, 2) := by decide +kernel
theorem dX8_plainRound_91 : decode cX8_plainRound 91 = .ok (.aload_n 0, 1) := by decide +kernel
theorem dX8_plainRound_92 : decode cX8_plainRound 92 = .ok (.getfield 16, 3) := by decide +kernel
theorem dX8_plainRound_95 : decode cX8_plainRound 95 = .ok (.iload 4, 2) := by decide +kernel
theorem dX8_plainRound_97 : decode cX8_plainRound 97 = .ok (.iaload, 1) := by decide +kernel
theorem dX8_plainRound_98 : decode cX8_plainRound 98 = .ok (.if_icmp .ge 60, 3) := by decide +kernel
theorem dX8_plainRound_101 : decode cX8_plainRound 101 = .ok (.iload_n 3, 1) := by decide +kernel
theorem dX8_plainRound_102 : decode cX8_plainRound 102 = .ok (.aload_n 0, 1) := by decide +kernel
theorem dX8_plainRound_103 : decode cX8_plainRound 103 = .ok (.aload_n 0, 1) := by decide +kernel
theorem dX8_plainRound_104 : decode cX8_plainRound 104 = .ok (.getfield 19, 3) := by decide +kernel
theorem dX8_plainRound_107 : decode cX8_plainRound 107 = .ok (.bipush 24, 2) := by decide +kernel
theorem dX8_plainRound_109 : decode cX8_plainRound 109 = .ok (.iload 4, 2) := by decide +kernel
theorem dX8_plainRound_111 : decode cX8_plainRound 111 = .ok (.imul, 1) := by decide +kernel
theorem dX8_plainRound_112 : decode cX8_plainRound 112 = .ok (.iload 5, 2) := by decide +kernel
theorem dX8_plainRound_114 : decode cX8_plainRound 114 = .ok (.iadd, 1) := by decide +kernel
theorem dX8_plainRound_115 : decode cX8_plainRound 115 = .ok (.iaload, 1) := by decide +kernel
theorem dX8_plainRound_116 : decode cX8_plainRound 116 = .ok (.iload 4, 2) := by decide +kernel
theorem dX8_plainRound_118 : decode cX8_plainRound 118 = .ok (.invokevirtual 202, 3) := by decide +kernel
theorem dX8_plainRound_121 : decode cX8_plainRound 121 = .ok (.iadd, 1) := by decide +kernel
theorem dX8_plainRound_122 : decode cX8_plainRound 122 = .ok (.istore 6, 2) := by decide +kernel
theorem dX8_plainRound_124 : decode cX8_plainRound 124 = .ok (.aload_n 0, 1) := by decide +kernel
theorem dX8_plainRound_125 : decode cX8_plainRound 125 = .ok (.getfield 34, 3) := by decide +kernel
theorem dX8_plainRound_128 : decode cX8_plainRound 128 = .ok (.iload 5, 2) := by decide +kernel
theorem dX8_plainRound_130 : decode cX8_plainRound 130 = .ok (.aload_n 0, 1) := by decide +kernel
theorem dX8_plainRound_131 : decode cX8_plainRound 131 = .ok (.getfield 107, 3) := by decide +kernel
theorem dX8_plainRound_134 : decode cX8_plainRound 134 = .ok (.iload 6, 2) := by decide +kernel
theorem dX8_plainRound_136 : decode cX8_plainRound 136 = .ok (.baload, 1) := by decide +kernel
theorem dX8_plainRound_137 : decode cX8_plainRound 137 = .ok (.bastore, 1) := by decide +kernel
theorem dX8_plainRound_138 : decode cX8_plainRound 138 = .ok (.aload_n 0, 1) := by decide +kernel
theorem dX8_plainRound_139 : decode cX8_plainRound 139 = .ok (.getfield 38, 3) := by decide +kernel
theorem dX8_plainRound_142 : decode cX8_plainRound 142 = .ok (.iload 5, 2) := by decide +kernel
theorem dX8_plainRound_144 : decode cX8_plainRound 144 = .ok (.aload_n 0, 1) := by decide +kernel
theorem dX8_plainRound_145 : decode cX8_plainRound 145 = .ok (.getfield 110, 3) := by decide +kernel
theorem dX8_plainRound_148 : decode cX8_plainRound 148 = .ok (.iload 6, 2) := by decide +kernel
theorem dX8_plainRound_150 : decode cX8_plainRound 150 = .ok (.iaload, 1) := by decide +kernel
theorem dX8_plainRound_151 : decode cX8_plainRound 151 = .ok (.iastore, 1) := by decide +kernel
theorem dX8_plainRound_152 : decode cX8_plainRound 152 = .ok (.iinc 5 1, 3) := by decide +kernel
theorem dX8_plainRound_155 : decode cX8_plainRound 155 = .ok (.goto (-66), 3) := by decide +kernel
theorem dX8_plainRound_158 : decode cX8_plainRound 158 = .ok (.aload_n 0, 1) := by decide +kernel
theorem dX8_plainRound_159 : decode cX8_plainRound 159 = .ok (.iload 4, 2) := by decide +kernel
theorem dX8_plainRound_161 : decode cX8_plainRound 161 = .ok (.iload_n 1, 1) := by decide +kernel
theorem dX8_plainRound_162 : decode cX8_plainRound 162 = .ok (.invokevirtual 209, 3) := by decide +kernel
theorem dX8_plainRound_165 : decode cX8_plainRound 165 = .ok (.iconst 0, 1) := by decide +kernel
theorem dX8_plainRound_166 : decode cX8_plainRound 166 = .ok (.istore 5, 2) := by decide +kernel
theorem dX8_plainRound_168 : decode cX8_plainRound 168 = .ok (.iload 5, 2) := by decide +kernel
theorem dX8_plainRound_170 : decode cX8_plainRound 170 = .ok (.bipush 8, 2) := by decide +kernel
theorem dX8_plainRound_172 : decode cX8_plainRound 172 = .ok (.if_icmp .ge 29, 3) := by decide +kernel
theorem dX8_plainRound_175 : decode cX8_plainRound 175 = .ok (.aload_n 0, 1) := by decide +kernel
theorem dX8_plainRound_176 : decode cX8_plainRound 176 = .ok (.getfield 25, 3) := by decide +kernel
theorem dX8_plainRound_179 : decode cX8_plainRound 179 = .ok (.bipush 8, 2) := by decide +kernel
theorem dX8_plainRound_181 : decode cX8_plainRound 181 = .ok (.iload 4, 2) := by decide +kernel
theorem dX8_plainRound_183 : decode cX8_plainRound 183 = .ok (.imul, 1) := by decide +kernel
theorem dX8_plainRound_184 : decode cX8_plainRound 184 = .ok (.iload 5, 2) := by decide +kernel
theorem dX8_plainRound_186 : decode cX8_plainRound 186 = .ok (.iadd, 1) := by decide +kernel
theorem dX8_plainRound_187 : decode cX8_plainRound 187 = .ok (.aload_n 0, 1) := by decide +kernel
theorem dX8_plainRound_188 : decode cX8_plainRound 188 = .ok (.getfield 31, 3) := by decide +kernel
theorem dX8_plainRound_191 : decode cX8_plainRound 191 = .ok (.iload 5, 2) := by decide +kernel
theorem dX8_plainRound_193 : decode cX8_plainRound 193 = .ok (.iaload, 1) := by decide +kernel
theorem dX8_plainRound_194 : decode cX8_plainRound 194 = .ok (.iastore, 1) := by decide +kernel
theorem dX8_plainRound_195 : decode cX8_plainRound 195 = .ok (.iinc 5 1, 3) := by decide +kernel
theorem dX8_plainRound_198 : decode cX8_plainRound 198 = .ok (.goto (-30), 3) := by decide +kernel
theorem dX8_plainRound_201 : decode cX8_plainRound 201 = .ok (.iconst 0, 1) := by decide +kernel
theorem dX8_plainRound_202 : decode cX8_plainRound 202 = .ok (.istore 5, 2) := by decide +kernel
theorem dX8_plainRound_204 : decode cX8_plainRound 204 = .ok (.iload 5, 2) := by decide +kernel
theorem dX8_plainRound_206 : decode cX8_plainRound 206 = .ok (.aload_n 0, 1) := by decide +kernel
theorem dX8_plainRound_207 : decode cX8_plainRound 207 = .ok (.getfield 16, 3) := by decide +kernel
theorem dX8_plainRound_210 : decode cX8_plainRound 210 = .ok (.iload 4, 2) := by decide +kernel
theorem dX8_plainRound_212 : decode cX8_plainRound 212 = .ok (.iaload, 1) := by decide +kernel
theorem dX8_plainRound_213 : decode cX8_plainRound 213 = .ok (.if_icmp .ge 74, 3) := by decide +kernel
theorem dX8_plainRound_216 : decode cX8_plainRound 216 = .ok (.aload_n 0, 1) := by decide +kernel
theorem dX8_plainRound_217 : decode cX8_plainRound 217 = .ok (.getfield 19, 3) := by decide +kernel
theorem dX8_plainRound_220 : decode cX8_plainRound 220 = .ok (.bipush 24, 2) := by decide +kernel
theorem dX8_plainRound_222 : decode cX8_plainRound 222 = .ok (.iload 4, 2) := by decide +kernel
theorem dX8_plainRound_224 : decode cX8_plainRound 224 = .ok (.imul, 1) := by decide +kernel
theorem dX8_plainRound_225 : decode cX8_plainRound 225 = .ok (.iload 5, 2) := by decide +kernel
theorem dX8_plainRound_227 : decode cX8_plainRound 227 = .ok (.iadd, 1) := by decide +kernel
theorem dX8_plainRound_228 : decode cX8_plainRound 228 = .ok (.iaload, 1) := by decide +kernel
theorem dX8_plainRound_229 : decode cX8_plainRound 229 = .ok (.istore 6, 2) := by decide +kernel
theorem dX8_plainRound_231 : decode cX8_plainRound 231 = .ok (.iload_n 2, 1) := by decide +kernel
theorem dX8_plainRound_232 : decode cX8_plainRound 232 = .ok (.aload_n 0, 1) := by decide +kernel
theorem dX8_plainRound_233 : decode cX8_plainRound 233 = .ok (.iload 6, 2) := by decide +kernel
theorem dX8_plainRound_235 : decode cX8_plainRound 235 = .ok (.aload_n 0, 1) := by decide +kernel
theorem dX8_plainRound_236 : decode cX8_plainRound 236 = .ok (.iload 6, 2) := by decide +kernel
theorem dX8_plainRound_238 : decode cX8_plainRound 238 = .ok (.iload 4, 2) := by decide +kernel
theorem dX8_plainRound_240 : decode cX8_plainRound 240 = .ok (.invokevirtual 212, 3) := by decide +kernel
theorem dX8_plainRound_243 : decode cX8_plainRound 243 = .ok (.invokevirtual 202, 3) := by decide +kernel
theorem dX8_plainRound_246 : decode cX8_plainRound 246 = .ok (.iadd, 1) := by decide +kernel
theorem dX8_plainRound_247 : decode cX8_plainRound 247 = .ok (.istore 7, 2) := by decide +kernel
theorem dX8_plainRound_249 : decode cX8_plainRound 249 = .ok (.aload_n 0, 1) := by decide +kernel
theorem dX8_plainRound_250 : decode cX8_plainRound 250 = .ok (.getfield 41, 3) := by decide +kernel
theorem dX8_plainRound_253 : decode cX8_plainRound 253 = .ok (.iload 5, 2) := by decide +kernel
theorem dX8_plainRound_255 : decode cX8_plainRound 255 = .ok (.baload, 1) := by decide +kernel
theorem dX8_plainRound_256 : decode cX8_plainRound 256 = .ok (.ifCond .eq 25, 3) := by decide +kernel
theorem dX8_plainRound_259 : decode cX8_plainRound 259 = .ok (.aload_n 0, 1) := by decide +kernel
theorem dX8_plainRound_260 : decode cX8_plainRound 260 = .ok (.getfield 107, 3) := by decide +kernel
theorem dX8_plainRound_263 : decode cX8_plainRound 263 = .ok (.iload 7, 2) := by decide +kernel
theorem dX8_plainRound_265 : decode cX8_plainRound 265 = .ok (.iconst 1, 1) := by decide +kernel
theorem dX8_plainRound_266 : decode cX8_plainRound 266 = .ok (.bastore, 1) := by decide +kernel
theorem dX8_plainRound_267 : decode cX8_plainRound 267 = .ok (.aload_n 0, 1) := by decide +kernel
theorem dX8_plainRound_268 : decode cX8_plainRound 268 = .ok (.getfield 110, 3) := by decide +kernel
theorem dX8_plainRound_271 : decode cX8_plainRound 271 = .ok (.iload 7, 2) := by decide +kernel
theorem dX8_plainRound_273 : decode cX8_plainRound 273 = .ok (.aload_n 0, 1) := by decide +kernel
theorem dX8_plainRound_274 : decode cX8_plainRound 274 = .ok (.getfield 44, 3) := by decide +kernel
theorem dX8_plainRound_277 : decode cX8_plainRound 277 = .ok (.iload 5, 2) := by decide +kernel
theorem dX8_plainRound_279 : decode cX8_plainRound 279 = .ok (.iaload, 1) := by decide +kernel
theorem dX8_plainRound_280 : decode cX8_plainRound 280 = .ok (.iastore, 1) := by decide +kernel
theorem dX8_plainRound_281 : decode cX8_plainRound 281 = .ok (.iinc 5 1, 3) := by decide +kernel
theorem dX8_plainRound_284 : decode cX8_plainRound 284 = .ok (.goto (-80), 3) := by decide +kernel
theorem dX8_plainRound_287 : decode cX8_plainRound 287 = .ok (.iinc 4 1, 3) := by decide +kernel
theorem dX8_plainRound_290 : decode cX8_plainRound 290 = .ok (.goto (-249), 3) := by decide +kernel
theorem dX8_plainRound_293 : decode cX8_plainRound 293 = .ok (.return_, 1) := by decide +kernel
theorem dX8_plain_0 : decode cX8_plain 0 = .ok (.aload_n 0, 1) := by decide +kernel
theorem dX8_plain_1 : decode cX8_plain 1 = .ok (.aload_n 0, 1) := by decide +kernel
theorem dX8_plain_2 : decode cX8_plain 2 = .ok (.iload_n 1, 1) := by decide +kernel
theorem dX8_plain_3 : decode cX8_plain 3 = .ok (.invokevirtual 127, 3) := by decide +kernel
theorem dX8_plain_6 : decode cX8_plain 6 = .ok (.ifCond .ne 7, 3) := by decide +kernel
theorem dX8_plain_9 : decode cX8_plain 9 = .ok (.iconst 1, 1) := by decide +kernel
theorem dX8_plain_10 : decode cX8_plain 10 = .ok (.goto 15, 3) := by decide +kernel
theorem dX8_plain_13 : decode cX8_plain 13 = .ok (.iload_n 2, 1) := by decide +kernel
theorem dX8_plain_14 : decode cX8_plain 14 = .ok (.invokestatic 169, 3) := by decide +kernel
theorem dX8_plain_17 : decode cX8_plain 17 = .ok (.ifCond .ne 7, 3) := by decide +kernel
theorem dX8_plain_20 : decode cX8_plain 20 = .ok (.iconst 2, 1) := by decide +kernel
theorem dX8_plain_21 : decode cX8_plain 21 = .ok (.goto 4, 3) := by decide +kernel
theorem dX8_plain_24 : decode cX8_plain 24 = .ok (.iconst 0, 1) := by decide +kernel
theorem dX8_plain_25 : decode cX8_plain 25 = .ok (.putfield 113, 3) := by decide +kernel
theorem dX8_plain_28 : decode cX8_plain 28 = .ok (.aload_n 0, 1) := by decide +kernel
theorem dX8_plain_29 : decode cX8_plain 29 = .ok (.getfield 113, 3) := by decide +kernel
theorem dX8_plain_32 : decode cX8_plain 32 = .ok (.ifCond .le 7, 3) := by decide +kernel
theorem dX8_plain_35 : decode cX8_plain 35 = .ok (.iconst 0, 1) := by decide +kernel
theorem dX8_plain_36 : decode cX8_plain 36 = .ok (.goto 14, 3) := by decide +kernel
theorem dX8_plain_39 : decode cX8_plain 39 = .ok (.aload_n 0, 1) := by decide +kernel
theorem dX8_plain_40 : decode cX8_plain 40 = .ok (.getfield 25, 3) := by decide +kernel
theorem dX8_plain_43 : decode cX8_plain 43 = .ok (.bipush 8, 2) := by decide +kernel
theorem dX8_plain_45 : decode cX8_plain 45 = .ok (.iload_n 1, 1) := by decide +kernel
theorem dX8_plain_46 : decode cX8_plain 46 = .ok (.imul, 1) := by decide +kernel
theorem dX8_plain_47 : decode cX8_plain 47 = .ok (.iload_n 2, 1) := by decide +kernel
theorem dX8_plain_48 : decode cX8_plain 48 = .ok (.iadd, 1) := by decide +kernel
