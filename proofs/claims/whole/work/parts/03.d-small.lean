theorem dX0_init_0 : decode cX0_init 0 = .ok (.aload_n 0, 1) := by decide +kernel
theorem dX0_init_1 : decode cX0_init 1 = .ok (.invokespecial 3, 3) := by decide +kernel
theorem dX0_init_4 : decode cX0_init 4 = .ok (.aload_n 0, 1) := by decide +kernel
theorem dX0_init_5 : decode cX0_init 5 = .ok (.iconst 0, 1) := by decide +kernel
theorem dX0_init_6 : decode cX0_init 6 = .ok (.putfield 9, 3) := by decide +kernel
theorem dX0_init_9 : decode cX0_init 9 = .ok (.aload_n 0, 1) := by decide +kernel
theorem dX0_init_10 : decode cX0_init 10 = .ok (.iconst 0, 1) := by decide +kernel
theorem dX0_init_11 : decode cX0_init 11 = .ok (.putfield 15, 3) := by decide +kernel
theorem dX0_init_14 : decode cX0_init 14 = .ok (.aload_n 0, 1) := by decide +kernel
theorem dX0_init_15 : decode cX0_init 15 = .ok (.new 18, 3) := by decide +kernel
theorem dX0_init_18 : decode cX0_init 18 = .ok (.dup, 1) := by decide +kernel
theorem dX0_init_19 : decode cX0_init 19 = .ok (.invokespecial 20, 3) := by decide +kernel
theorem dX0_init_22 : decode cX0_init 22 = .ok (.putfield 21, 3) := by decide +kernel
theorem dX0_init_25 : decode cX0_init 25 = .ok (.aload_n 0, 1) := by decide +kernel
theorem dX0_init_26 : decode cX0_init 26 = .ok (.bipush 24, 2) := by decide +kernel
theorem dX0_init_28 : decode cX0_init 28 = .ok (.newarray .int, 2) := by decide +kernel
theorem dX0_init_30 : decode cX0_init 30 = .ok (.putfield 25, 3) := by decide +kernel
theorem dX0_init_33 : decode cX0_init 33 = .ok (.aload_n 0, 1) := by decide +kernel
theorem dX0_init_34 : decode cX0_init 34 = .ok (.bipush 24, 2) := by decide +kernel
theorem dX0_init_36 : decode cX0_init 36 = .ok (.newarray .int, 2) := by decide +kernel
theorem dX0_init_38 : decode cX0_init 38 = .ok (.putfield 29, 3) := by decide +kernel
theorem dX0_init_41 : decode cX0_init 41 = .ok (.aload_n 0, 1) := by decide +kernel
theorem dX0_init_42 : decode cX0_init 42 = .ok (.sipush 576, 3) := by decide +kernel
theorem dX0_init_45 : decode cX0_init 45 = .ok (.newarray .int, 2) := by decide +kernel
theorem dX0_init_47 : decode cX0_init 47 = .ok (.putfield 32, 3) := by decide +kernel
theorem dX0_init_50 : decode cX0_init 50 = .ok (.return_, 1) := by decide +kernel
theorem dX0_make_0 : decode cX0_make 0 = .ok (.aload_n 0, 1) := by decide +kernel
theorem dX0_make_1 : decode cX0_make 1 = .ok (.iconst 0, 1) := by decide +kernel
theorem dX0_make_2 : decode cX0_make 2 = .ok (.putfield 9, 3) := by decide +kernel
theorem dX0_make_5 : decode cX0_make 5 = .ok (.aload_n 1, 1) := by decide +kernel
theorem dX0_make_6 : decode cX0_make 6 = .ok (.invokevirtual 35, 3) := by decide +kernel
theorem dX0_make_9 : decode cX0_make 9 = .ok (.istore_n 3, 1) := by decide +kernel
theorem dX0_make_10 : decode cX0_make 10 = .ok (.iconst 0, 1) := by decide +kernel
theorem dX0_make_11 : decode cX0_make 11 = .ok (.istore 4, 2) := by decide +kernel
theorem dX0_make_13 : decode cX0_make 13 = .ok (.iload 4, 2) := by decide +kernel
theorem dX0_make_15 : decode cX0_make 15 = .ok (.aload_n 1, 1) := by decide +kernel
theorem dX0_make_16 : decode cX0_make 16 = .ok (.getfield 41, 3) := by decide +kernel
theorem dX0_make_19 : decode cX0_make 19 = .ok (.if_icmp .ge 51, 3) := by decide +kernel
theorem dX0_make_22 : decode cX0_make 22 = .ok (.iload_n 3, 1) := by decide +kernel
theorem dX0_make_23 : decode cX0_make 23 = .ok (.iload 4, 2) := by decide +kernel
theorem dX0_make_25 : decode cX0_make 25 = .ok (.ishr, 1) := by decide +kernel
theorem dX0_make_26 : decode cX0_make 26 = .ok (.iconst 1, 1) := by decide +kernel
theorem dX0_make_27 : decode cX0_make 27 = .ok (.iand, 1) := by decide +kernel
theorem dX0_make_28 : decode cX0_make 28 = .ok (.ifCond .eq 36, 3) := by decide +kernel
theorem dX0_make_31 : decode cX0_make 31 = .ok (.aload_n 0, 1) := by decide +kernel
theorem dX0_make_32 : decode cX0_make 32 = .ok (.getfield 21, 3) := by decide +kernel
theorem dX0_make_35 : decode cX0_make 35 = .ok (.aload_n 1, 1) := by decide +kernel
theorem dX0_make_36 : decode cX0_make 36 = .ok (.iload 4, 2) := by decide +kernel
theorem dX0_make_38 : decode cX0_make 38 = .ok (.iload_n 3, 1) := by decide +kernel
theorem dX0_make_39 : decode cX0_make 39 = .ok (.iload_n 2, 1) := by decide +kernel
theorem dX0_make_40 : decode cX0_make 40 = .ok (.iconst 1, 1) := by decide +kernel
theorem dX0_make_41 : decode cX0_make 41 = .ok (.isub, 1) := by decide +kernel
theorem dX0_make_42 : decode cX0_make 42 = .ok (.invokevirtual 42, 3) := by decide +kernel
theorem dX0_make_45 : decode cX0_make 45 = .ok (.istore 5, 2) := by decide +kernel
theorem dX0_make_47 : decode cX0_make 47 = .ok (.aload_n 0, 1) := by decide +kernel
theorem dX0_make_48 : decode cX0_make 48 = .ok (.iload 5, 2) := by decide +kernel
theorem dX0_make_50 : decode cX0_make 50 = .ok (.aload_n 1, 1) := by decide +kernel
theorem dX0_make_51 : decode cX0_make 51 = .ok (.getfield 41, 3) := by decide +kernel
theorem dX0_make_54 : decode cX0_make 54 = .ok (.invokevirtual 46, 3) := by decide +kernel
theorem dX0_make_57 : decode cX0_make 57 = .ok (.iload_n 3, 1) := by decide +kernel
theorem dX0_make_58 : decode cX0_make 58 = .ok (.iload 5, 2) := by decide +kernel
theorem dX0_make_60 : decode cX0_make 60 = .ok (.iconst (-1), 1) := by decide +kernel
theorem dX0_make_61 : decode cX0_make 61 = .ok (.ixor, 1) := by decide +kernel
theorem dX0_make_62 : decode cX0_make 62 = .ok (.iand, 1) := by decide +kernel
theorem dX0_make_63 : decode cX0_make 63 = .ok (.istore_n 3, 1) := by decide +kernel
theorem dX0_make_64 : decode cX0_make 64 = .ok (.iinc 4 1, 3) := by decide +kernel
theorem dX0_make_67 : decode cX0_make 67 = .ok (.goto (-54), 3) := by decide +kernel
theorem dX0_make_70 : decode cX0_make 70 = .ok (.aload_n 0, 1) := by decide +kernel
theorem dX0_make_71 : decode cX0_make 71 = .ok (.aload_n 1, 1) := by decide +kernel
theorem dX0_make_72 : decode cX0_make 72 = .ok (.invokevirtual 50, 3) := by decide +kernel
theorem dX0_make_75 : decode cX0_make 75 = .ok (.return_, 1) := by decide +kernel
theorem dX0_number_0 : decode cX0_number 0 = .ok (.iconst 0, 1) := by decide +kernel
theorem dX0_number_1 : decode cX0_number 1 = .ok (.istore_n 3, 1) := by decide +kernel
theorem dX0_number_2 : decode cX0_number 2 = .ok (.iload_n 3, 1) := by decide +kernel
theorem dX0_number_3 : decode cX0_number 3 = .ok (.iload_n 2, 1) := by decide +kernel
theorem dX0_number_4 : decode cX0_number 4 = .ok (.if_icmp .ge 27, 3) := by decide +kernel
theorem dX0_number_7 : decode cX0_number 7 = .ok (.iload_n 1, 1) := by decide +kernel
theorem dX0_number_8 : decode cX0_number 8 = .ok (.iload_n 3, 1) := by decide +kernel
theorem dX0_number_9 : decode cX0_number 9 = .ok (.ishr, 1) := by decide +kernel
theorem dX0_number_10 : decode cX0_number 10 = .ok (.iconst 1, 1) := by decide +kernel
theorem dX0_number_11 : decode cX0_number 11 = .ok (.iand, 1) := by decide +kernel
theorem dX0_number_12 : decode cX0_number 12 = .ok (.ifCond .eq 13, 3) := by decide +kernel
theorem dX0_number_15 : decode cX0_number 15 = .ok (.aload_n 0, 1) := by decide +kernel
theorem dX0_number_16 : decode cX0_number 16 = .ok (.getfield 25, 3) := by decide +kernel
theorem dX0_number_19 : decode cX0_number 19 = .ok (.iload_n 3, 1) := by decide +kernel
theorem dX0_number_20 : decode cX0_number 20 = .ok (.aload_n 0, 1) := by decide +kernel
theorem dX0_number_21 : decode cX0_number 21 = .ok (.getfield 9, 3) := by decide +kernel
theorem dX0_number_24 : decode cX0_number 24 = .ok (.iastore, 1) := by decide +kernel
theorem dX0_number_25 : decode cX0_number 25 = .ok (.iinc 3 1, 3) := by decide +kernel
theorem dX0_number_28 : decode cX0_number 28 = .ok (.goto (-26), 3) := by decide +kernel
theorem dX0_number_31 : decode cX0_number 31 = .ok (.aload_n 0, 1) := by decide +kernel
theorem dX0_number_32 : decode cX0_number 32 = .ok (.dup, 1) := by decide +kernel
theorem dX0_number_33 : decode cX0_number 33 = .ok (.getfield 9, 3) := by decide +kernel
theorem dX0_number_36 : decode cX0_number 36 = .ok (.iconst 1, 1) := by decide +kernel
theorem dX0_number_37 : decode cX0_number 37 = .ok (.iadd, 1) := by decide +kernel
theorem dX0_number_38 : decode cX0_number 38 = .ok (.putfield 9, 3) := by decide +kernel
theorem dX0_number_41 : decode cX0_number 41 = .ok (.return_, 1) := by decide +kernel
theorem dX0_choose_0 : decode cX0_choose 0 = .ok (.aload_n 0, 1) := by decide +kernel
theorem dX0_choose_1 : decode cX0_choose 1 = .ok (.iconst 0, 1) := by decide +kernel
theorem dX0_choose_2 : decode cX0_choose 2 = .ok (.putfield 15, 3) := by decide +kernel
theorem dX0_choose_5 : decode cX0_choose 5 = .ok (.aload_n 0, 1) := by decide +kernel
theorem dX0_choose_6 : decode cX0_choose 6 = .ok (.getfield 32, 3) := by decide +kernel
theorem dX0_choose_9 : decode cX0_choose 9 = .ok (.iconst (-1), 1) := by decide +kernel
theorem dX0_choose_10 : decode cX0_choose 10 = .ok (.invokestatic 54, 3) := by decide +kernel
theorem dX0_choose_13 : decode cX0_choose 13 = .ok (.aload_n 0, 1) := by decide +kernel
theorem dX0_choose_14 : decode cX0_choose 14 = .ok (.getfield 29, 3) := by decide +kernel
theorem dX0_choose_17 : decode cX0_choose 17 = .ok (.iconst 0, 1) := by decide +kernel
theorem dX0_choose_18 : decode cX0_choose 18 = .ok (.invokestatic 54, 3) := by decide +kernel
theorem dX0_choose_21 : decode cX0_choose 21 = .ok (.iconst 0, 1) := by decide +kernel
theorem dX0_choose_22 : decode cX0_choose 22 = .ok (.istore_n 2, 1) := by decide +kernel
theorem dX0_choose_23 : decode cX0_choose 23 = .ok (.iload_n 2, 1) := by decide +kernel
theorem dX0_choose_24 : decode cX0_choose 24 = .ok (.aload_n 1, 1) := by decide +kernel
theorem dX0_choose_25 : decode cX0_choose 25 = .ok (.getfield 60, 3) := by decide +kernel
theorem dX0_choose_28 : decode cX0_choose 28 = .ok (.if_icmp .ge 136, 3) := by decide +kernel
theorem dX0_choose_31 : decode cX0_choose 31 = .ok (.aload_n 1, 1) := by decide +kernel
theorem dX0_choose_32 : decode cX0_choose 32 = .ok (.getfield 63, 3) := by decide +kernel
theorem dX0_choose_35 : decode cX0_choose 35 = .ok (.iload_n 2, 1) := by decide +kernel
theorem dX0_choose_36 : decode cX0_choose 36 = .ok (.iaload, 1) := by decide +kernel
theorem dX0_choose_37 : decode cX0_choose 37 = .ok (.istore_n 3, 1) := by decide +kernel
theorem dX0_choose_38 : decode cX0_choose 38 = .ok (.aload_n 1, 1) := by decide +kernel
theorem dX0_choose_39 : decode cX0_choose 39 = .ok (.getfield 66, 3) := by decide +kernel
theorem dX0_choose_42 : decode cX0_choose 42 = .ok (.iload_n 2, 1) := by decide +kernel
theorem dX0_choose_43 : decode cX0_choose 43 = .ok (.iaload, 1) := by decide +kernel
theorem dX0_choose_44 : decode cX0_choose 44 = .ok (.istore 4, 2) := by decide +kernel
theorem dX0_choose_46 : decode cX0_choose 46 = .ok (.aload_n 0, 1) := by decide +kernel
theorem dX0_choose_47 : decode cX0_choose 47 = .ok (.getfield 25, 3) := by decide +kernel
theorem dX0_choose_50 : decode cX0_choose 50 = .ok (.iload_n 3, 1) := by decide +kernel
theorem dX0_choose_51 : decode cX0_choose 51 = .ok (.iaload, 1) := by decide +kernel
theorem dX0_choose_52 : decode cX0_choose 52 = .ok (.bipush 24, 2) := by decide +kernel
theorem dX0_choose_54 : decode cX0_choose 54 = .ok (.imul, 1) := by decide +kernel
theorem dX0_choose_55 : decode cX0_choose 55 = .ok (.aload_n 0, 1) := by decide +kernel
theorem dX0_choose_56 : decode cX0_choose 56 = .ok (.getfield 25, 3) := by decide +kernel
theorem dX0_choose_59 : decode cX0_choose 59 = .ok (.iload 4, 2) := by decide +kernel
theorem dX0_choose_61 : decode cX0_choose 61 = .ok (.iaload, 1) := by decide +kernel
theorem dX0_choose_62 : decode cX0_choose 62 = .ok (.iadd, 1) := by decide +kernel
theorem dX0_choose_63 : decode cX0_choose 63 = .ok (.istore 5, 2) := by decide +kernel
theorem dX0_choose_65 : decode cX0_choose 65 = .ok (.aload_n 0, 1) := by decide +kernel
theorem dX0_choose_66 : decode cX0_choose 66 = .ok (.getfield 25, 3) := by decide +kernel
theorem dX0_choose_69 : decode cX0_choose 69 = .ok (.iload_n 3, 1) := by decide +kernel
theorem dX0_choose_70 : decode cX0_choose 70 = .ok (.iaload, 1) := by decide +kernel
theorem dX0_choose_71 : decode cX0_choose 71 = .ok (.aload_n 0, 1) := by decide +kernel
theorem dX0_choose_72 : decode cX0_choose 72 = .ok (.getfield 25, 3) := by decide +kernel
theorem dX0_choose_75 : decode cX0_choose 75 = .ok (.iload 4, 2) := by decide +kernel
theorem dX0_choose_77 : decode cX0_choose 77 = .ok (.iaload, 1) := by decide +kernel
theorem dX0_choose_78 : decode cX0_choose 78 = .ok (.if_icmp .eq 80, 3) := by decide +kernel
theorem dX0_choose_81 : decode cX0_choose 81 = .ok (.aload_n 0, 1) := by decide +kernel
theorem dX0_choose_82 : decode cX0_choose 82 = .ok (.getfield 32, 3) := by decide +kernel
theorem dX0_choose_85 : decode cX0_choose 85 = .ok (.iload 5, 2) := by decide +kernel
theorem dX0_choose_87 : decode cX0_choose 87 = .ok (.iaload, 1) := by decide +kernel
theorem dX0_choose_88 : decode cX0_choose 88 = .ok (.ifCond .ge 70, 3) := by decide +kernel
theorem dX0_choose_91 : decode cX0_choose 91 = .ok (.aload_n 0, 1) := by decide +kernel
theorem dX0_choose_92 : decode cX0_choose 92 = .ok (.getfield 32, 3) := by decide +kernel
theorem dX0_choose_95 : decode cX0_choose 95 = .ok (.iload 5, 2) := by decide +kernel
theorem dX0_choose_97 : decode cX0_choose 97 = .ok (.iload_n 2, 1) := by decide +kernel
theorem dX0_choose_98 : decode cX0_choose 98 = .ok (.iastore, 1) := by decide +kernel
theorem dX0_choose_99 : decode cX0_choose 99 = .ok (.aload_n 0, 1) := by decide +kernel
theorem dX0_choose_100 : decode cX0_choose 100 = .ok (.getfield 32, 3) := by decide +kernel
theorem dX0_choose_103 : decode cX0_choose 103 = .ok (.aload_n 0, 1) := by decide +kernel
theorem dX0_choose_104 : decode cX0_choose 104 = .ok (.getfield 25, 3) := by decide +kernel
theorem dX0_choose_107 : decode cX0_choose 107 = .ok (.iload 4, 2) := by decide +kernel
theorem dX0_choose_109 : decode cX0_choose 109 = .ok (.iaload, 1) := by decide +kernel
theorem dX0_choose_110 : decode cX0_choose 110 = .ok (.bipush 24, 2) := by decide +kernel
theorem dX0_choose_112 : decode cX0_choose 112 = .ok (.imul, 1) := by decide +kernel
theorem dX0_choose_113 : decode cX0_choose 113 = .ok (.aload_n 0, 1) := by decide +kernel
theorem dX0_choose_114 : decode cX0_choose 114 = .ok (.getfield 25, 3) := by decide +kernel
theorem dX0_choose_117 : decode cX0_choose 117 = .ok (.iload_n 3, 1) := by decide +kernel
theorem dX0_choose_118 : decode cX0_choose 118 = .ok (.iaload, 1) := by decide +kernel
theorem dX0_choose_119 : decode cX0_choose 119 = .ok (.iadd, 1) := by decide +kernel
theorem dX0_choose_120 : decode cX0_choose 120 = .ok (.iload_n 2, 1) := by decide +kernel
theorem dX0_choose_121 : decode cX0_choose 121 = .ok (.iastore, 1) := by decide +kernel
theorem dX0_choose_122 : decode cX0_choose 122 = .ok (.aload_n 0, 1) := by decide +kernel
theorem dX0_choose_123 : decode cX0_choose 123 = .ok (.getfield 29, 3) := by decide +kernel
theorem dX0_choose_126 : decode cX0_choose 126 = .ok (.iload_n 3, 1) := by decide +kernel
theorem dX0_choose_127 : decode cX0_choose 127 = .ok (.dup2, 1) := by decide +kernel
theorem dX0_choose_128 : decode cX0_choose 128 = .ok (.iaload, 1) := by decide +kernel
theorem dX0_choose_129 : decode cX0_choose 129 = .ok (.iconst 1, 1) := by decide +kernel
theorem dX0_choose_130 : decode cX0_choose 130 = .ok (.iload 4, 2) := by decide +kernel
theorem dX0_choose_132 : decode cX0_choose 132 = .ok (.ishl, 1) := by decide +kernel
theorem dX0_choose_133 : decode cX0_choose 133 = .ok (.ior, 1) := by decide +kernel
theorem dX0_choose_134 : decode cX0_choose 134 = .ok (.iastore, 1) := by decide +kernel
theorem dX0_choose_135 : decode cX0_choose 135 = .ok (.aload_n 0, 1) := by decide +kernel
theorem dX0_choose_136 : decode cX0_choose 136 = .ok (.getfield 29, 3) := by decide +kernel
theorem dX0_choose_139 : decode cX0_choose 139 = .ok (.iload 4, 2) := by decide +kernel
theorem dX0_choose_141 : decode cX0_choose 141 = .ok (.dup2, 1) := by decide +kernel
theorem dX0_choose_142 : decode cX0_choose 142 = .ok (.iaload, 1) := by decide +kernel
theorem dX0_choose_143 : decode cX0_choose 143 = .ok (.iconst 1, 1) := by decide +kernel
theorem dX0_choose_144 : decode cX0_choose 144 = .ok (.iload_n 3, 1) := by decide +kernel
theorem dX0_choose_145 : decode cX0_choose 145 = .ok (.ishl, 1) := by decide +kernel
theorem dX0_choose_146 : decode cX0_choose 146 = .ok (.ior, 1) := by decide +kernel
theorem dX0_choose_147 : decode cX0_choose 147 = .ok (.iastore, 1) := by decide +kernel
theorem dX0_choose_148 : decode cX0_choose 148 = .ok (.aload_n 0, 1) := by decide +kernel
theorem dX0_choose_149 : decode cX0_choose 149 = .ok (.dup, 1) := by decide +kernel
theorem dX0_choose_150 : decode cX0_choose 150 = .ok (.getfield 15, 3) := by decide +kernel
theorem dX0_choose_153 : decode cX0_choose 153 = .ok (.iconst 1, 1) := by decide +kernel
theorem dX0_choose_154 : decode cX0_choose 154 = .ok (.iadd, 1) := by decide +kernel
theorem dX0_choose_155 : decode cX0_choose 155 = .ok (.putfield 15, 3) := by decide +kernel
theorem dX0_choose_158 : decode cX0_choose 158 = .ok (.iinc 2 1, 3) := by decide +kernel
theorem dX0_choose_161 : decode cX0_choose 161 = .ok (.goto (-138), 3) := by decide +kernel
theorem dX0_choose_164 : decode cX0_choose 164 = .ok (.return_, 1) := by decide +kernel
theorem dX2_init_0 : decode cX2_init 0 = .ok (.aload_n 0, 1) := by decide +kernel
theorem dX2_init_1 : decode cX2_init 1 = .ok (.invokespecial 3, 3) := by decide +kernel
theorem dX2_init_4 : decode cX2_init 4 = .ok (.aload_n 0, 1) := by decide +kernel
theorem dX2_init_5 : decode cX2_init 5 = .ok (.iconst 0, 1) := by decide +kernel
theorem dX2_init_6 : decode cX2_init 6 = .ok (.putfield 9, 3) := by decide +kernel
theorem dX2_init_9 : decode cX2_init 9 = .ok (.aload_n 0, 1) := by decide +kernel
theorem dX2_init_10 : decode cX2_init 10 = .ok (.iconst 0, 1) := by decide +kernel
theorem dX2_init_11 : decode cX2_init 11 = .ok (.putfield 15, 3) := by decide +kernel
theorem dX2_init_14 : decode cX2_init 14 = .ok (.aload_n 0, 1) := by decide +kernel
theorem dX2_init_15 : decode cX2_init 15 = .ok (.bipush 60, 2) := by decide +kernel
theorem dX2_init_17 : decode cX2_init 17 = .ok (.newarray .int, 2) := by decide +kernel
theorem dX2_init_19 : decode cX2_init 19 = .ok (.putfield 18, 3) := by decide +kernel
theorem dX2_init_22 : decode cX2_init 22 = .ok (.aload_n 0, 1) := by decide +kernel
theorem dX2_init_23 : decode cX2_init 23 = .ok (.bipush 60, 2) := by decide +kernel
theorem dX2_init_25 : decode cX2_init 25 = .ok (.newarray .int, 2) := by decide +kernel
theorem dX2_init_27 : decode cX2_init 27 = .ok (.putfield 22, 3) := by decide +kernel
theorem dX2_init_30 : decode cX2_init 30 = .ok (.aload_n 0, 1) := by decide +kernel
theorem dX2_init_31 : decode cX2_init 31 = .ok (.bipush 24, 2) := by decide +kernel
theorem dX2_init_33 : decode cX2_init 33 = .ok (.newarray .int, 2) := by decide +kernel
theorem dX2_init_35 : decode cX2_init 35 = .ok (.putfield 25, 3) := by decide +kernel
theorem dX2_init_38 : decode cX2_init 38 = .ok (.aload_n 0, 1) := by decide +kernel
theorem dX2_init_39 : decode cX2_init 39 = .ok (.bipush 24, 2) := by decide +kernel
theorem dX2_init_41 : decode cX2_init 41 = .ok (.newarray .int, 2) := by decide +kernel
theorem dX2_init_43 : decode cX2_init 43 = .ok (.putfield 28, 3) := by decide +kernel
theorem dX2_init_46 : decode cX2_init 46 = .ok (.aload_n 0, 1) := by decide +kernel
theorem dX2_init_47 : decode cX2_init 47 = .ok (.sipush 576, 3) := by decide +kernel
theorem dX2_init_50 : decode cX2_init 50 = .ok (.newarray .int, 2) := by decide +kernel
theorem dX2_init_52 : decode cX2_init 52 = .ok (.putfield 31, 3) := by decide +kernel
theorem dX2_init_55 : decode cX2_init 55 = .ok (.aload_n 0, 1) := by decide +kernel
theorem dX2_init_56 : decode cX2_init 56 = .ok (.sipush 576, 3) := by decide +kernel
theorem dX2_init_59 : decode cX2_init 59 = .ok (.newarray .int, 2) := by decide +kernel
theorem dX2_init_61 : decode cX2_init 61 = .ok (.putfield 34, 3) := by decide +kernel
theorem dX2_init_64 : decode cX2_init 64 = .ok (.return_, 1) := by decide +kernel
theorem dX2_empty_0 : decode cX2_empty 0 = .ok (.aload_n 0, 1) := by decide +kernel
theorem dX2_empty_1 : decode cX2_empty 1 = .ok (.iload_n 1, 1) := by decide +kernel
theorem dX2_empty_2 : decode cX2_empty 2 = .ok (.putfield 9, 3) := by decide +kernel
theorem dX2_empty_5 : decode cX2_empty 5 = .ok (.aload_n 0, 1) := by decide +kernel
theorem dX2_empty_6 : decode cX2_empty 6 = .ok (.iconst 0, 1) := by decide +kernel
theorem dX2_empty_7 : decode cX2_empty 7 = .ok (.putfield 15, 3) := by decide +kernel
theorem dX2_empty_10 : decode cX2_empty 10 = .ok (.aload_n 0, 1) := by decide +kernel
theorem dX2_empty_11 : decode cX2_empty 11 = .ok (.getfield 25, 3) := by decide +kernel
theorem dX2_empty_14 : decode cX2_empty 14 = .ok (.iconst 0, 1) := by decide +kernel
theorem dX2_empty_15 : decode cX2_empty 15 = .ok (.invokestatic 37, 3) := by decide +kernel
theorem dX2_empty_18 : decode cX2_empty 18 = .ok (.aload_n 0, 1) := by decide +kernel
theorem dX2_empty_19 : decode cX2_empty 19 = .ok (.getfield 28, 3) := by decide +kernel
theorem dX2_empty_22 : decode cX2_empty 22 = .ok (.iconst 0, 1) := by decide +kernel
theorem dX2_empty_23 : decode cX2_empty 23 = .ok (.invokestatic 37, 3) := by decide +kernel
theorem dX2_empty_26 : decode cX2_empty 26 = .ok (.return_, 1) := by decide +kernel
theorem dX2_areLinked_0 : decode cX2_areLinked 0 = .ok (.aload_n 0, 1) := by decide +kernel
theorem dX2_areLinked_1 : decode cX2_areLinked 1 = .ok (.getfield 28, 3) := by decide +kernel
theorem dX2_areLinked_4 : decode cX2_areLinked 4 = .ok (.iload_n 1, 1) := by decide +kernel
theorem dX2_areLinked_5 : decode cX2_areLinked 5 = .ok (.iaload, 1) := by decide +kernel
theorem dX2_areLinked_6 : decode cX2_areLinked 6 = .ok (.iload_n 2, 1) := by decide +kernel
theorem dX2_areLinked_7 : decode cX2_areLinked 7 = .ok (.ishr, 1) := by decide +kernel
theorem dX2_areLinked_8 : decode cX2_areLinked 8 = .ok (.iconst 1, 1) := by decide +kernel
theorem dX2_areLinked_9 : decode cX2_areLinked 9 = .ok (.iand, 1) := by decide +kernel
theorem dX2_areLinked_10 : decode cX2_areLinked 10 = .ok (.ifCond .eq 7, 3) := by decide +kernel
theorem dX2_areLinked_13 : decode cX2_areLinked 13 = .ok (.iconst 1, 1) := by decide +kernel
theorem dX2_areLinked_14 : decode cX2_areLinked 14 = .ok (.goto 4, 3) := by decide +kernel
theorem dX2_areLinked_17 : decode cX2_areLinked 17 = .ok (.iconst 0, 1) := by decide +kernel
theorem dX2_areLinked_18 : decode cX2_areLinked 18 = .ok (.ireturn, 1) := by decide +kernel
theorem dX2_join_0 : decode cX2_join 0 = .ok (.aload_n 0, 1) := by decide +kernel
theorem dX2_join_1 : decode cX2_join 1 = .ok (.getfield 18, 3) := by decide +kernel
theorem dX2_join_4 : decode cX2_join 4 = .ok (.aload_n 0, 1) := by decide +kernel
theorem dX2_join_5 : decode cX2_join 5 = .ok (.getfield 15, 3) := by decide +kernel
theorem dX2_join_8 : decode cX2_join 8 = .ok (.iload_n 1, 1) := by decide +kernel
theorem dX2_join_9 : decode cX2_join 9 = .ok (.iastore, 1) := by decide +kernel
theorem dX2_join_10 : decode cX2_join 10 = .ok (.aload_n 0, 1) := by decide +kernel
theorem dX2_join_11 : decode cX2_join 11 = .ok (.getfield 22, 3) := by decide +kernel
theorem dX2_join_14 : decode cX2_join 14 = .ok (.aload_n 0, 1) := by decide +kernel
theorem dX2_join_15 : decode cX2_join 15 = .ok (.getfield 15, 3) := by decide +kernel
theorem dX2_join_18 : decode cX2_join 18 = .ok (.iload_n 2, 1) := by decide +kernel
theorem dX2_join_19 : decode cX2_join 19 = .ok (.iastore, 1) := by decide +kernel
theorem dX2_join_20 : decode cX2_join 20 = .ok (.aload_n 0, 1) := by decide +kernel
theorem dX2_join_21 : decode cX2_join 21 = .ok (.iload_n 1, 1) := by decide +kernel
theorem dX2_join_22 : decode cX2_join 22 = .ok (.iload_n 2, 1) := by decide +kernel
theorem dX2_join_23 : decode cX2_join 23 = .ok (.invokevirtual 43, 3) := by decide +kernel
theorem dX2_join_26 : decode cX2_join 26 = .ok (.aload_n 0, 1) := by decide +kernel
theorem dX2_join_27 : decode cX2_join 27 = .ok (.iload_n 2, 1) := by decide +kernel
theorem dX2_join_28 : decode cX2_join 28 = .ok (.iload_n 1, 1) := by decide +kernel
theorem dX2_join_29 : decode cX2_join 29 = .ok (.invokevirtual 43, 3) := by decide +kernel
theorem dX2_join_32 : decode cX2_join 32 = .ok (.aload_n 0, 1) := by decide +kernel
theorem dX2_join_33 : decode cX2_join 33 = .ok (.dup, 1) := by decide +kernel
theorem dX2_join_34 : decode cX2_join 34 = .ok (.getfield 15, 3) := by decide +kernel
theorem dX2_join_37 : decode cX2_join 37 = .ok (.iconst 1, 1) := by decide +kernel
theorem dX2_join_38 : decode cX2_join 38 = .ok (.iadd, 1) := by decide +kernel
theorem dX2_join_39 : decode cX2_join 39 = .ok (.putfield 15, 3) := by decide +kernel
theorem dX2_join_42 : decode cX2_join 42 = .ok (.aload_n 0, 1) := by decide +kernel
theorem dX2_join_43 : decode cX2_join 43 = .ok (.getfield 15, 3) := by decide +kernel
theorem dX2_join_46 : decode cX2_join 46 = .ok (.iconst 1, 1) := by decide +kernel
theorem dX2_join_47 : decode cX2_join 47 = .ok (.isub, 1) := by decide +kernel
theorem dX2_join_48 : decode cX2_join 48 = .ok (.ireturn, 1) := by decide +kernel
theorem dX2_addPort_0 : decode cX2_addPort 0 = .ok (.aload_n 0, 1) := by decide +kernel
theorem dX2_addPort_1 : decode cX2_addPort 1 = .ok (.getfield 31, 3) := by decide +kernel
theorem dX2_addPort_4 : decode cX2_addPort 4 = .ok (.iload_n 1, 1) := by decide +kernel
theorem dX2_addPort_5 : decode cX2_addPort 5 = .ok (.bipush 24, 2) := by decide +kernel
theorem dX2_addPort_7 : decode cX2_addPort 7 = .ok (.imul, 1) := by decide +kernel
theorem dX2_addPort_8 : decode cX2_addPort 8 = .ok (.aload_n 0, 1) := by decide +kernel
theorem dX2_addPort_9 : decode cX2_addPort 9 = .ok (.getfield 25, 3) := by decide +kernel
theorem dX2_addPort_12 : decode cX2_addPort 12 = .ok (.iload_n 1, 1) := by decide +kernel
theorem dX2_addPort_13 : decode cX2_addPort 13 = .ok (.iaload, 1) := by decide +kernel
theorem dX2_addPort_14 : decode cX2_addPort 14 = .ok (.iadd, 1) := by decide +kernel
theorem dX2_addPort_15 : decode cX2_addPort 15 = .ok (.iload_n 2, 1) := by decide +kernel
theorem dX2_addPort_16 : decode cX2_addPort 16 = .ok (.iastore, 1) := by decide +kernel
theorem dX2_addPort_17 : decode cX2_addPort 17 = .ok (.aload_n 0, 1) := by decide +kernel
theorem dX2_addPort_18 : decode cX2_addPort 18 = .ok (.getfield 34, 3) := by decide +kernel
theorem dX2_addPort_21 : decode cX2_addPort 21 = .ok (.iload_n 1, 1) := by decide +kernel
theorem dX2_addPort_22 : decode cX2_addPort 22 = .ok (.bipush 24, 2) := by decide +kernel
theorem dX2_addPort_24 : decode cX2_addPort 24 = .ok (.imul, 1) := by decide +kernel
theorem dX2_addPort_25 : decode cX2_addPort 25 = .ok (.iload_n 2, 1) := by decide +kernel
theorem dX2_addPort_26 : decode cX2_addPort 26 = .ok (.iadd, 1) := by decide +kernel
theorem dX2_addPort_27 : decode cX2_addPort 27 = .ok (.aload_n 0, 1) := by decide +kernel
theorem dX2_addPort_28 : decode cX2_addPort 28 = .ok (.getfield 25, 3) := by decide +kernel
theorem dX2_addPort_31 : decode cX2_addPort 31 = .ok (.iload_n 1, 1) := by decide +kernel
theorem dX2_addPort_32 : decode cX2_addPort 32 = .ok (.iaload, 1) := by decide +kernel
theorem dX2_addPort_33 : decode cX2_addPort 33 = .ok (.iastore, 1) := by decide +kernel
theorem dX2_addPort_34 : decode cX2_addPort 34 = .ok (.aload_n 0, 1) := by decide +kernel
theorem dX2_addPort_35 : decode cX2_addPort 35 = .ok (.getfield 28, 3) := by decide +kernel
theorem dX2_addPort_38 : decode cX2_addPort 38 = .ok (.iload_n 1, 1) := by decide +kernel
theorem dX2_addPort_39 : decode cX2_addPort 39 = .ok (.dup2, 1) := by decide +kernel
theorem dX2_addPort_40 : decode cX2_addPort 40 = .ok (.iaload, 1) := by decide +kernel
theorem dX2_addPort_41 : decode cX2_addPort 41 = .ok (.iconst 1, 1) := by decide +kernel
theorem dX2_addPort_42 : decode cX2_addPort 42 = .ok (.iload_n 2, 1) := by decide +kernel
theorem dX2_addPort_43 : decode cX2_addPort 43 = .ok (.ishl, 1) := by decide +kernel
theorem dX2_addPort_44 : decode cX2_addPort 44 = .ok (.ior, 1) := by decide +kernel
theorem dX2_addPort_45 : decode cX2_addPort 45 = .ok (.iastore, 1) := by decide +kernel
theorem dX2_addPort_46 : decode cX2_addPort 46 = .ok (.aload_n 0, 1) := by decide +kernel
theorem dX2_addPort_47 : decode cX2_addPort 47 = .ok (.getfield 25, 3) := by decide +kernel
theorem dX2_addPort_50 : decode cX2_addPort 50 = .ok (.iload_n 1, 1) := by decide +kernel
theorem dX2_addPort_51 : decode cX2_addPort 51 = .ok (.dup2, 1) := by decide +kernel
theorem dX2_addPort_52 : decode cX2_addPort 52 = .ok (.iaload, 1) := by decide +kernel
theorem dX2_addPort_53 : decode cX2_addPort 53 = .ok (.iconst 1, 1) := by decide +kernel
theorem dX2_addPort_54 : decode cX2_addPort 54 = .ok (.iadd, 1) := by decide +kernel
theorem dX2_addPort_55 : decode cX2_addPort 55 = .ok (.iastore, 1) := by decide +kernel
theorem dX2_addPort_56 : decode cX2_addPort 56 = .ok (.return_, 1) := by decide +kernel
theorem dX2_nextTo_0 : decode cX2_nextTo 0 = .ok (.iconst 0, 1) := by decide +kernel
theorem dX2_nextTo_1 : decode cX2_nextTo 1 = .ok (.istore_n 2, 1) := by decide +kernel
theorem dX2_nextTo_2 : decode cX2_nextTo 2 = .ok (.iconst 0, 1) := by decide +kernel
theorem dX2_nextTo_3 : decode cX2_nextTo 3 = .ok (.istore_n 3, 1) := by decide +kernel
theorem dX2_nextTo_4 : decode cX2_nextTo 4 = .ok (.iload_n 3, 1) := by decide +kernel
theorem dX2_nextTo_5 : decode cX2_nextTo 5 = .ok (.aload_n 0, 1) := by decide +kernel
theorem dX2_nextTo_6 : decode cX2_nextTo 6 = .ok (.getfield 9, 3) := by decide +kernel
theorem dX2_nextTo_9 : decode cX2_nextTo 9 = .ok (.if_icmp .ge 26, 3) := by decide +kernel
theorem dX2_nextTo_12 : decode cX2_nextTo 12 = .ok (.iload_n 1, 1) := by decide +kernel
theorem dX2_nextTo_13 : decode cX2_nextTo 13 = .ok (.iload_n 3, 1) := by decide +kernel
theorem dX2_nextTo_14 : decode cX2_nextTo 14 = .ok (.ishr, 1) := by decide +kernel
theorem dX2_nextTo_15 : decode cX2_nextTo 15 = .ok (.iconst 1, 1) := by decide +kernel
theorem dX2_nextTo_16 : decode cX2_nextTo 16 = .ok (.iand, 1) := by decide +kernel
theorem dX2_nextTo_17 : decode cX2_nextTo 17 = .ok (.ifCond .eq 12, 3) := by decide +kernel
theorem dX2_nextTo_20 : decode cX2_nextTo 20 = .ok (.iload_n 2, 1) := by decide +kernel
theorem dX2_nextTo_21 : decode cX2_nextTo 21 = .ok (.aload_n 0, 1) := by decide +kernel
theorem dX2_nextTo_22 : decode cX2_nextTo 22 = .ok (.getfield 28, 3) := by decide +kernel
theorem dX2_nextTo_25 : decode cX2_nextTo 25 = .ok (.iload_n 3, 1) := by decide +kernel
theorem dX2_nextTo_26 : decode cX2_nextTo 26 = .ok (.iaload, 1) := by decide +kernel
theorem dX2_nextTo_27 : decode cX2_nextTo 27 = .ok (.ior, 1) := by decide +kernel
theorem dX2_nextTo_28 : decode cX2_nextTo 28 = .ok (.istore_n 2, 1) := by decide +kernel
theorem dX2_nextTo_29 : decode cX2_nextTo 29 = .ok (.iinc 3 1, 3) := by decide +kernel
theorem dX2_nextTo_32 : decode cX2_nextTo 32 = .ok (.goto (-28), 3) := by decide +kernel
theorem dX2_nextTo_35 : decode cX2_nextTo 35 = .ok (.iload_n 2, 1) := by decide +kernel
theorem dX2_nextTo_36 : decode cX2_nextTo 36 = .ok (.iload_n 1, 1) := by decide +kernel
theorem dX2_nextTo_37 : decode cX2_nextTo 37 = .ok (.iconst (-1), 1) := by decide +kernel
theorem dX2_nextTo_38 : decode cX2_nextTo 38 = .ok (.ixor, 1) := by decide +kernel
theorem dX2_nextTo_39 : decode cX2_nextTo 39 = .ok (.iand, 1) := by decide +kernel
theorem dX2_nextTo_40 : decode cX2_nextTo 40 = .ok (.ireturn, 1) := by decide +kernel
theorem dX2_allNodes_0 : decode cX2_allNodes 0 = .ok (.iconst 1, 1) := by decide +kernel
theorem dX2_allNodes_1 : decode cX2_allNodes 1 = .ok (.aload_n 0, 1) := by decide +kernel
theorem dX2_allNodes_2 : decode cX2_allNodes 2 = .ok (.getfield 9, 3) := by decide +kernel
theorem dX2_allNodes_5 : decode cX2_allNodes 5 = .ok (.ishl, 1) := by decide +kernel
theorem dX2_allNodes_6 : decode cX2_allNodes 6 = .ok (.iconst 1, 1) := by decide +kernel
theorem dX2_allNodes_7 : decode cX2_allNodes 7 = .ok (.isub, 1) := by decide +kernel
theorem dX2_allNodes_8 : decode cX2_allNodes 8 = .ok (.ireturn, 1) := by decide +kernel
theorem dX2_isConnected_0 : decode cX2_isConnected 0 = .ok (.iconst 1, 1) := by decide +kernel
theorem dX2_isConnected_1 : decode cX2_isConnected 1 = .ok (.istore_n 1, 1) := by decide +kernel
theorem dX2_isConnected_2 : decode cX2_isConnected 2 = .ok (.iconst 1, 1) := by decide +kernel
theorem dX2_isConnected_3 : decode cX2_isConnected 3 = .ok (.istore_n 2, 1) := by decide +kernel
theorem dX2_isConnected_4 : decode cX2_isConnected 4 = .ok (.iload_n 2, 1) := by decide +kernel
theorem dX2_isConnected_5 : decode cX2_isConnected 5 = .ok (.aload_n 0, 1) := by decide +kernel
theorem dX2_isConnected_6 : decode cX2_isConnected 6 = .ok (.getfield 9, 3) := by decide +kernel
theorem dX2_isConnected_9 : decode cX2_isConnected 9 = .ok (.if_icmp .ge 17, 3) := by decide +kernel
theorem dX2_isConnected_12 : decode cX2_isConnected 12 = .ok (.iload_n 1, 1) := by decide +kernel
theorem dX2_isConnected_13 : decode cX2_isConnected 13 = .ok (.aload_n 0, 1) := by decide +kernel
theorem dX2_isConnected_14 : decode cX2_isConnected 14 = .ok (.iload_n 1, 1) := by decide +kernel
theorem dX2_isConnected_15 : decode cX2_isConnected 15 = .ok (.invokevirtual 47, 3) := by decide +kernel
theorem dX2_isConnected_18 : decode cX2_isConnected 18 = .ok (.ior, 1) := by decide +kernel
theorem dX2_isConnected_19 : decode cX2_isConnected 19 = .ok (.istore_n 1, 1) := by decide +kernel
theorem dX2_isConnected_20 : decode cX2_isConnected 20 = .ok (.iinc 2 1, 3) := by decide +kernel
theorem dX2_isConnected_23 : decode cX2_isConnected 23 = .ok (.goto (-19), 3) := by decide +kernel
theorem dX2_isConnected_26 : decode cX2_isConnected 26 = .ok (.aload_n 0, 1) := by decide +kernel
theorem dX2_isConnected_27 : decode cX2_isConnected 27 = .ok (.getfield 9, 3) := by decide +kernel
theorem dX2_isConnected_30 : decode cX2_isConnected 30 = .ok (.ifCond .le 15, 3) := by decide +kernel
theorem dX2_isConnected_33 : decode cX2_isConnected 33 = .ok (.iload_n 1, 1) := by decide +kernel
theorem dX2_isConnected_34 : decode cX2_isConnected 34 = .ok (.aload_n 0, 1) := by decide +kernel
theorem dX2_isConnected_35 : decode cX2_isConnected 35 = .ok (.invokevirtual 51, 3) := by decide +kernel
theorem dX2_isConnected_38 : decode cX2_isConnected 38 = .ok (.if_icmp .ne 7, 3) := by decide +kernel
theorem dX2_isConnected_41 : decode cX2_isConnected 41 = .ok (.iconst 1, 1) := by decide +kernel
theorem dX2_isConnected_42 : decode cX2_isConnected 42 = .ok (.goto 4, 3) := by decide +kernel
theorem dX2_isConnected_45 : decode cX2_isConnected 45 = .ok (.iconst 0, 1) := by decide +kernel
theorem dX2_isConnected_46 : decode cX2_isConnected 46 = .ok (.ireturn, 1) := by decide +kernel
theorem dX3_init_0 : decode cX3_init 0 = .ok (.aload_n 0, 1) := by decide +kernel
theorem dX3_init_1 : decode cX3_init 1 = .ok (.invokespecial 3, 3) := by decide +kernel
theorem dX3_init_4 : decode cX3_init 4 = .ok (.aload_n 0, 1) := by decide +kernel
theorem dX3_init_5 : decode cX3_init 5 = .ok (.iconst 5, 1) := by decide +kernel
theorem dX3_init_6 : decode cX3_init 6 = .ok (.sipush 512, 3) := by decide +kernel
theorem dX3_init_9 : decode cX3_init 9 = .ok (.multianewarray 11 2, 4) := by decide +kernel
theorem dX3_init_13 : decode cX3_init 13 = .ok (.putfield 13, 3) := by decide +kernel
theorem dX3_init_16 : decode cX3_init 16 = .ok (.aload_n 0, 1) := by decide +kernel
theorem dX3_init_17 : decode cX3_init 17 = .ok (.iconst 3, 1) := by decide +kernel
theorem dX3_init_18 : decode cX3_init 18 = .ok (.newarray .int, 2) := by decide +kernel
theorem dX3_init_20 : decode cX3_init 20 = .ok (.putfield 16, 3) := by decide +kernel
theorem dX3_init_23 : decode cX3_init 23 = .ok (.aload_n 0, 1) := by decide +kernel
theorem dX3_init_24 : decode cX3_init 24 = .ok (.iconst 0, 1) := by decide +kernel
theorem dX3_init_25 : decode cX3_init 25 = .ok (.putfield 20, 3) := by decide +kernel
theorem dX3_init_28 : decode cX3_init 28 = .ok (.return_, 1) := by decide +kernel
theorem dX3_empty_0 : decode cX3_empty 0 = .ok (.aload_n 0, 1) := by decide +kernel
theorem dX3_empty_1 : decode cX3_empty 1 = .ok (.iconst 0, 1) := by decide +kernel
theorem dX3_empty_2 : decode cX3_empty 2 = .ok (.putfield 20, 3) := by decide +kernel
theorem dX3_empty_5 : decode cX3_empty 5 = .ok (.aload_n 0, 1) := by decide +kernel
theorem dX3_empty_6 : decode cX3_empty 6 = .ok (.getfield 16, 3) := by decide +kernel
theorem dX3_empty_9 : decode cX3_empty 9 = .ok (.iconst 0, 1) := by decide +kernel
theorem dX3_empty_10 : decode cX3_empty 10 = .ok (.invokestatic 24, 3) := by decide +kernel
theorem dX3_empty_13 : decode cX3_empty 13 = .ok (.return_, 1) := by decide +kernel
theorem dX3_send_0 : decode cX3_send 0 = .ok (.aload_n 0, 1) := by decide +kernel
theorem dX3_send_1 : decode cX3_send 1 = .ok (.getfield 20, 3) := by decide +kernel
theorem dX3_send_4 : decode cX3_send 4 = .ok (.sipush 512, 3) := by decide +kernel
theorem dX3_send_7 : decode cX3_send 7 = .ok (.if_icmp .lt 4, 3) := by decide +kernel
theorem dX3_send_10 : decode cX3_send 10 = .ok (.return_, 1) := by decide +kernel
theorem dX3_send_11 : decode cX3_send 11 = .ok (.aload_n 0, 1) := by decide +kernel
theorem dX3_send_12 : decode cX3_send 12 = .ok (.getfield 13, 3) := by decide +kernel
theorem dX3_send_15 : decode cX3_send 15 = .ok (.iconst 0, 1) := by decide +kernel
theorem dX3_send_16 : decode cX3_send 16 = .ok (.aaload, 1) := by decide +kernel
theorem dX3_send_17 : decode cX3_send 17 = .ok (.aload_n 0, 1) := by decide +kernel
theorem dX3_send_18 : decode cX3_send 18 = .ok (.getfield 20, 3) := by decide +kernel
theorem dX3_send_21 : decode cX3_send 21 = .ok (.iload_n 1, 1) := by decide +kernel
theorem dX3_send_22 : decode cX3_send 22 = .ok (.iastore, 1) := by decide +kernel
theorem dX3_send_23 : decode cX3_send 23 = .ok (.aload_n 0, 1) := by decide +kernel
theorem dX3_send_24 : decode cX3_send 24 = .ok (.getfield 13, 3) := by decide +kernel
theorem dX3_send_27 : decode cX3_send 27 = .ok (.iconst 1, 1) := by decide +kernel
theorem dX3_send_28 : decode cX3_send 28 = .ok (.aaload, 1) := by decide +kernel
theorem dX3_send_29 : decode cX3_send 29 = .ok (.aload_n 0, 1) := by decide +kernel
theorem dX3_send_30 : decode cX3_send 30 = .ok (.getfield 20, 3) := by decide +kernel
theorem dX3_send_33 : decode cX3_send 33 = .ok (.iload_n 2, 1) := by decide +kernel
theorem dX3_send_34 : decode cX3_send 34 = .ok (.iastore, 1) := by decide +kernel
theorem dX3_send_35 : decode cX3_send 35 = .ok (.aload_n 0, 1) := by decide +kernel
theorem dX3_send_36 : decode cX3_send 36 = .ok (.getfield 13, 3) := by decide +kernel
theorem dX3_send_39 : decode cX3_send 39 = .ok (.iconst 2, 1) := by decide +kernel
theorem dX3_send_40 : decode cX3_send 40 = .ok (.aaload, 1) := by decide +kernel
theorem dX3_send_41 : decode cX3_send 41 = .ok (.aload_n 0, 1) := by decide +kernel
theorem dX3_send_42 : decode cX3_send 42 = .ok (.getfield 20, 3) := by decide +kernel
theorem dX3_send_45 : decode cX3_send 45 = .ok (.iload_n 3, 1) := by decide +kernel
theorem dX3_send_46 : decode cX3_send 46 = .ok (.iastore, 1) := by decide +kernel
theorem dX3_send_47 : decode cX3_send 47 = .ok (.aload_n 0, 1) := by decide +kernel
theorem dX3_send_48 : decode cX3_send 48 = .ok (.getfield 13, 3) := by decide +kernel
theorem dX3_send_51 : decode cX3_send 51 = .ok (.iconst 3, 1) := by decide +kernel
theorem dX3_send_52 : decode cX3_send 52 = .ok (.aaload, 1) := by decide +kernel
theorem dX3_send_53 : decode cX3_send 53 = .ok (.aload_n 0, 1) := by decide +kernel
theorem dX3_send_54 : decode cX3_send 54 = .ok (.getfield 20, 3) := by decide +kernel
theorem dX3_send_57 : decode cX3_send 57 = .ok (.iload 4, 2) := by decide +kernel
theorem dX3_send_59 : decode cX3_send 59 = .ok (.iastore, 1) := by decide +kernel
theorem dX3_send_60 : decode cX3_send 60 = .ok (.aload_n 0, 1) := by decide +kernel
theorem dX3_send_61 : decode cX3_send 61 = .ok (.getfield 13, 3) := by decide +kernel
theorem dX3_send_64 : decode cX3_send 64 = .ok (.iconst 4, 1) := by decide +kernel
theorem dX3_send_65 : decode cX3_send 65 = .ok (.aaload, 1) := by decide +kernel
theorem dX3_send_66 : decode cX3_send 66 = .ok (.aload_n 0, 1) := by decide +kernel
theorem dX3_send_67 : decode cX3_send 67 = .ok (.getfield 20, 3) := by decide +kernel
theorem dX3_send_70 : decode cX3_send 70 = .ok (.iload 5, 2) := by decide +kernel
theorem dX3_send_72 : decode cX3_send 72 = .ok (.iastore, 1) := by decide +kernel
theorem dX3_send_73 : decode cX3_send 73 = .ok (.aload_n 0, 1) := by decide +kernel
theorem dX3_send_74 : decode cX3_send 74 = .ok (.dup, 1) := by decide +kernel
theorem dX3_send_75 : decode cX3_send 75 = .ok (.getfield 20, 3) := by decide +kernel
theorem dX3_send_78 : decode cX3_send 78 = .ok (.iconst 1, 1) := by decide +kernel
theorem dX3_send_79 : decode cX3_send 79 = .ok (.iadd, 1) := by decide +kernel
theorem dX3_send_80 : decode cX3_send 80 = .ok (.putfield 20, 3) := by decide +kernel
theorem dX3_send_83 : decode cX3_send 83 = .ok (.aload_n 0, 1) := by decide +kernel
theorem dX3_send_84 : decode cX3_send 84 = .ok (.getfield 16, 3) := by decide +kernel
theorem dX3_send_87 : decode cX3_send 87 = .ok (.iload_n 1, 1) := by decide +kernel
theorem dX3_send_88 : decode cX3_send 88 = .ok (.iconst 2, 1) := by decide +kernel
theorem dX3_send_89 : decode cX3_send 89 = .ok (.if_icmp .ge 7, 3) := by decide +kernel
theorem dX3_send_92 : decode cX3_send 92 = .ok (.iload_n 1, 1) := by decide +kernel
theorem dX3_send_93 : decode cX3_send 93 = .ok (.goto 4, 3) := by decide +kernel
theorem dX3_send_96 : decode cX3_send 96 = .ok (.iconst 2, 1) := by decide +kernel
theorem dX3_send_97 : decode cX3_send 97 = .ok (.dup2, 1) := by decide +kernel
theorem dX3_send_98 : decode cX3_send 98 = .ok (.iaload, 1) := by decide +kernel
theorem dX3_send_99 : decode cX3_send 99 = .ok (.iconst 1, 1) := by decide +kernel
theorem dX3_send_100 : decode cX3_send 100 = .ok (.iadd, 1) := by decide +kernel
theorem dX3_send_101 : decode cX3_send 101 = .ok (.iastore, 1) := by decide +kernel
theorem dX3_send_102 : decode cX3_send 102 = .ok (.return_, 1) := by decide +kernel
theorem dX3_remove_0 : decode cX3_remove 0 = .ok (.aload_n 0, 1) := by decide +kernel
theorem dX3_remove_1 : decode cX3_remove 1 = .ok (.dup, 1) := by decide +kernel
theorem dX3_remove_2 : decode cX3_remove 2 = .ok (.getfield 20, 3) := by decide +kernel
theorem dX3_remove_5 : decode cX3_remove 5 = .ok (.iconst 1, 1) := by decide +kernel
theorem dX3_remove_6 : decode cX3_remove 6 = .ok (.isub, 1) := by decide +kernel
theorem dX3_remove_7 : decode cX3_remove 7 = .ok (.putfield 20, 3) := by decide +kernel
theorem dX3_remove_10 : decode cX3_remove 10 = .ok (.iconst 0, 1) := by decide +kernel
theorem dX3_remove_11 : decode cX3_remove 11 = .ok (.istore_n 2, 1) := by decide +kernel
theorem dX3_remove_12 : decode cX3_remove 12 = .ok (.iload_n 2, 1) := by decide +kernel
theorem dX3_remove_13 : decode cX3_remove 13 = .ok (.iconst 5, 1) := by decide +kernel
theorem dX3_remove_14 : decode cX3_remove 14 = .ok (.if_icmp .ge 34, 3) := by decide +kernel
theorem dX3_remove_17 : decode cX3_remove 17 = .ok (.aload_n 0, 1) := by decide +kernel
theorem dX3_remove_18 : decode cX3_remove 18 = .ok (.getfield 13, 3) := by decide +kernel
theorem dX3_remove_21 : decode cX3_remove 21 = .ok (.iload_n 2, 1) := by decide +kernel
theorem dX3_remove_22 : decode cX3_remove 22 = .ok (.aaload, 1) := by decide +kernel
theorem dX3_remove_23 : decode cX3_remove 23 = .ok (.iload_n 1, 1) := by decide +kernel
theorem dX3_remove_24 : decode cX3_remove 24 = .ok (.iconst 1, 1) := by decide +kernel
theorem dX3_remove_25 : decode cX3_remove 25 = .ok (.iadd, 1) := by decide +kernel
theorem dX3_remove_26 : decode cX3_remove 26 = .ok (.aload_n 0, 1) := by decide +kernel
theorem dX3_remove_27 : decode cX3_remove 27 = .ok (.getfield 13, 3) := by decide +kernel
theorem dX3_remove_30 : decode cX3_remove 30 = .ok (.iload_n 2, 1) := by decide +kernel
theorem dX3_remove_31 : decode cX3_remove 31 = .ok (.aaload, 1) := by decide +kernel
theorem dX3_remove_32 : decode cX3_remove 32 = .ok (.iload_n 1, 1) := by decide +kernel
theorem dX3_remove_33 : decode cX3_remove 33 = .ok (.aload_n 0, 1) := by decide +kernel
theorem dX3_remove_34 : decode cX3_remove 34 = .ok (.getfield 20, 3) := by decide +kernel
theorem dX3_remove_37 : decode cX3_remove 37 = .ok (.iload_n 1, 1) := by decide +kernel
theorem dX3_remove_38 : decode cX3_remove 38 = .ok (.isub, 1) := by decide +kernel
theorem dX3_remove_39 : decode cX3_remove 39 = .ok (.invokestatic 30, 3) := by decide +kernel
theorem dX3_remove_42 : decode cX3_remove 42 = .ok (.iinc 2 1, 3) := by decide +kernel
theorem dX3_remove_45 : decode cX3_remove 45 = .ok (.goto (-33), 3) := by decide +kernel
theorem dX3_remove_48 : decode cX3_remove 48 = .ok (.return_, 1) := by decide +kernel
theorem dX6_init_0 : decode cX6_init 0 = .ok (.aload_n 0, 1) := by decide +kernel
theorem dX6_init_1 : decode cX6_init 1 = .ok (.invokespecial 3, 3) := by decide +kernel
theorem dX6_init_4 : decode cX6_init 4 = .ok (.aload_n 0, 1) := by decide +kernel
theorem dX6_init_5 : decode cX6_init 5 = .ok (.bipush 24, 2) := by decide +kernel
theorem dX6_init_7 : decode cX6_init 7 = .ok (.newarray .int, 2) := by decide +kernel
theorem dX6_init_9 : decode cX6_init 9 = .ok (.putfield 9, 3) := by decide +kernel
theorem dX6_init_12 : decode cX6_init 12 = .ok (.aload_n 0, 1) := by decide +kernel
theorem dX6_init_13 : decode cX6_init 13 = .ok (.bipush 24, 2) := by decide +kernel
theorem dX6_init_15 : decode cX6_init 15 = .ok (.newarray .int, 2) := by decide +kernel
theorem dX6_init_17 : decode cX6_init 17 = .ok (.putfield 15, 3) := by decide +kernel
theorem dX6_init_20 : decode cX6_init 20 = .ok (.aload_n 0, 1) := by decide +kernel
theorem dX6_init_21 : decode cX6_init 21 = .ok (.bipush 24, 2) := by decide +kernel
theorem dX6_init_23 : decode cX6_init 23 = .ok (.newarray .int, 2) := by decide +kernel
theorem dX6_init_25 : decode cX6_init 25 = .ok (.putfield 18, 3) := by decide +kernel
theorem dX6_init_28 : decode cX6_init 28 = .ok (.return_, 1) := by decide +kernel
theorem dX6_plant_0 : decode cX6_plant 0 = .ok (.aload_n 0, 1) := by decide +kernel
theorem dX6_plant_1 : decode cX6_plant 1 = .ok (.getfield 9, 3) := by decide +kernel
theorem dX6_plant_4 : decode cX6_plant 4 = .ok (.iload_n 1, 1) := by decide +kernel
theorem dX6_plant_5 : decode cX6_plant 5 = .ok (.iconst (-1), 1) := by decide +kernel
theorem dX6_plant_6 : decode cX6_plant 6 = .ok (.iastore, 1) := by decide +kernel
theorem dX6_plant_7 : decode cX6_plant 7 = .ok (.aload_n 0, 1) := by decide +kernel
theorem dX6_plant_8 : decode cX6_plant 8 = .ok (.getfield 15, 3) := by decide +kernel
theorem dX6_plant_11 : decode cX6_plant 11 = .ok (.iload_n 1, 1) := by decide +kernel
theorem dX6_plant_12 : decode cX6_plant 12 = .ok (.iconst 0, 1) := by decide +kernel
theorem dX6_plant_13 : decode cX6_plant 13 = .ok (.iastore, 1) := by decide +kernel
theorem dX6_plant_14 : decode cX6_plant 14 = .ok (.aload_n 0, 1) := by decide +kernel
theorem dX6_plant_15 : decode cX6_plant 15 = .ok (.getfield 18, 3) := by decide +kernel
theorem dX6_plant_18 : decode cX6_plant 18 = .ok (.iload_n 1, 1) := by decide +kernel
theorem dX6_plant_19 : decode cX6_plant 19 = .ok (.iconst 0, 1) := by decide +kernel
theorem dX6_plant_20 : decode cX6_plant 20 = .ok (.iastore, 1) := by decide +kernel
theorem dX6_plant_21 : decode cX6_plant 21 = .ok (.return_, 1) := by decide +kernel
theorem dX6_hang_0 : decode cX6_hang 0 = .ok (.aload_n 0, 1) := by decide +kernel
theorem dX6_hang_1 : decode cX6_hang 1 = .ok (.getfield 9, 3) := by decide +kernel
theorem dX6_hang_4 : decode cX6_hang 4 = .ok (.iload_n 1, 1) := by decide +kernel
theorem dX6_hang_5 : decode cX6_hang 5 = .ok (.iload_n 2, 1) := by decide +kernel
theorem dX6_hang_6 : decode cX6_hang 6 = .ok (.iastore, 1) := by decide +kernel
theorem dX6_hang_7 : decode cX6_hang 7 = .ok (.aload_n 0, 1) := by decide +kernel
theorem dX6_hang_8 : decode cX6_hang 8 = .ok (.getfield 15, 3) := by decide +kernel
theorem dX6_hang_11 : decode cX6_hang 11 = .ok (.iload_n 1, 1) := by decide +kernel
theorem dX6_hang_12 : decode cX6_hang 12 = .ok (.aload_n 0, 1) := by decide +kernel
theorem dX6_hang_13 : decode cX6_hang 13 = .ok (.getfield 15, 3) := by decide +kernel
theorem dX6_hang_16 : decode cX6_hang 16 = .ok (.iload_n 2, 1) := by decide +kernel
theorem dX6_hang_17 : decode cX6_hang 17 = .ok (.iaload, 1) := by decide +kernel
theorem dX6_hang_18 : decode cX6_hang 18 = .ok (.iconst 1, 1) := by decide +kernel
theorem dX6_hang_19 : decode cX6_hang 19 = .ok (.iadd, 1) := by decide +kernel
theorem dX6_hang_20 : decode cX6_hang 20 = .ok (.iastore, 1) := by decide +kernel
theorem dX6_hang_21 : decode cX6_hang 21 = .ok (.aload_n 0, 1) := by decide +kernel
theorem dX6_hang_22 : decode cX6_hang 22 = .ok (.getfield 18, 3) := by decide +kernel
theorem dX6_hang_25 : decode cX6_hang 25 = .ok (.iload_n 1, 1) := by decide +kernel
theorem dX6_hang_26 : decode cX6_hang 26 = .ok (.iconst 0, 1) := by decide +kernel
theorem dX6_hang_27 : decode cX6_hang 27 = .ok (.iastore, 1) := by decide +kernel
theorem dX6_hang_28 : decode cX6_hang 28 = .ok (.aload_n 0, 1) := by decide +kernel
theorem dX6_hang_29 : decode cX6_hang 29 = .ok (.getfield 18, 3) := by decide +kernel
theorem dX6_hang_32 : decode cX6_hang 32 = .ok (.iload_n 2, 1) := by decide +kernel
theorem dX6_hang_33 : decode cX6_hang 33 = .ok (.dup2, 1) := by decide +kernel
theorem dX6_hang_34 : decode cX6_hang 34 = .ok (.iaload, 1) := by decide +kernel
theorem dX6_hang_35 : decode cX6_hang 35 = .ok (.iconst 1, 1) := by decide +kernel
theorem dX6_hang_36 : decode cX6_hang 36 = .ok (.iload_n 1, 1) := by decide +kernel
theorem dX6_hang_37 : decode cX6_hang 37 = .ok (.ishl, 1) := by decide +kernel
theorem dX6_hang_38 : decode cX6_hang 38 = .ok (.ior, 1) := by decide +kernel
theorem dX6_hang_39 : decode cX6_hang 39 = .ok (.iastore, 1) := by decide +kernel
theorem dX6_hang_40 : decode cX6_hang 40 = .ok (.return_, 1) := by decide +kernel
theorem dX6_grow_0 : decode cX6_grow 0 = .ok (.aload_n 0, 1) := by decide +kernel
theorem dX6_grow_1 : decode cX6_grow 1 = .ok (.iload_n 2, 1) := by decide +kernel
theorem dX6_grow_2 : decode cX6_grow 2 = .ok (.invokevirtual 21, 3) := by decide +kernel
theorem dX6_grow_5 : decode cX6_grow 5 = .ok (.iconst 1, 1) := by decide +kernel
theorem dX6_grow_6 : decode cX6_grow 6 = .ok (.iload_n 2, 1) := by decide +kernel
theorem dX6_grow_7 : decode cX6_grow 7 = .ok (.ishl, 1) := by decide +kernel
theorem dX6_grow_8 : decode cX6_grow 8 = .ok (.istore 5, 2) := by decide +kernel
theorem dX6_grow_10 : decode cX6_grow 10 = .ok (.iload 5, 2) := by decide +kernel
theorem dX6_grow_12 : decode cX6_grow 12 = .ok (.istore 6, 2) := by decide +kernel
theorem dX6_grow_14 : decode cX6_grow 14 = .ok (.iconst 0, 1) := by decide +kernel
theorem dX6_grow_15 : decode cX6_grow 15 = .ok (.istore 7, 2) := by decide +kernel
theorem dX6_grow_17 : decode cX6_grow 17 = .ok (.iload 7, 2) := by decide +kernel
theorem dX6_grow_19 : decode cX6_grow 19 = .ok (.aload_n 1, 1) := by decide +kernel
theorem dX6_grow_20 : decode cX6_grow 20 = .ok (.getfield 25, 3) := by decide +kernel
theorem dX6_grow_23 : decode cX6_grow 23 = .ok (.if_icmp .ge 101, 3) := by decide +kernel
theorem dX6_grow_26 : decode cX6_grow 26 = .ok (.aload_n 1, 1) := by decide +kernel
theorem dX6_grow_27 : decode cX6_grow 27 = .ok (.iload 5, 2) := by decide +kernel
theorem dX6_grow_29 : decode cX6_grow 29 = .ok (.invokevirtual 31, 3) := by decide +kernel
theorem dX6_grow_32 : decode cX6_grow 32 = .ok (.iload_n 3, 1) := by decide +kernel
theorem dX6_grow_33 : decode cX6_grow 33 = .ok (.iand, 1) := by decide +kernel
theorem dX6_grow_34 : decode cX6_grow 34 = .ok (.istore 8, 2) := by decide +kernel
theorem dX6_grow_36 : decode cX6_grow 36 = .ok (.iload 8, 2) := by decide +kernel
theorem dX6_grow_38 : decode cX6_grow 38 = .ok (.ifCond .eq 19, 3) := by decide +kernel
theorem dX6_grow_41 : decode cX6_grow 41 = .ok (.iload 8, 2) := by decide +kernel
theorem dX6_grow_43 : decode cX6_grow 43 = .ok (.invokestatic 35, 3) := by decide +kernel
theorem dX6_grow_46 : decode cX6_grow 46 = .ok (.iload 4, 2) := by decide +kernel
theorem dX6_grow_48 : decode cX6_grow 48 = .ok (.iload 5, 2) := by decide +kernel
theorem dX6_grow_50 : decode cX6_grow 50 = .ok (.invokestatic 35, 3) := by decide +kernel
theorem dX6_grow_53 : decode cX6_grow 53 = .ok (.imul, 1) := by decide +kernel
theorem dX6_grow_54 : decode cX6_grow 54 = .ok (.if_icmp .ge 6, 3) := by decide +kernel
theorem dX6_grow_57 : decode cX6_grow 57 = .ok (.iload 5, 2) := by decide +kernel
theorem dX6_grow_59 : decode cX6_grow 59 = .ok (.ireturn, 1) := by decide +kernel
theorem dX6_grow_60 : decode cX6_grow 60 = .ok (.iconst 0, 1) := by decide +kernel
theorem dX6_grow_61 : decode cX6_grow 61 = .ok (.istore 9, 2) := by decide +kernel
theorem dX6_grow_63 : decode cX6_grow 63 = .ok (.iload 9, 2) := by decide +kernel
theorem dX6_grow_65 : decode cX6_grow 65 = .ok (.aload_n 1, 1) := by decide +kernel
theorem dX6_grow_66 : decode cX6_grow 66 = .ok (.getfield 25, 3) := by decide +kernel
theorem dX6_grow_69 : decode cX6_grow 69 = .ok (.if_icmp .ge 38, 3) := by decide +kernel
theorem dX6_grow_72 : decode cX6_grow 72 = .ok (.iload 8, 2) := by decide +kernel
theorem dX6_grow_74 : decode cX6_grow 74 = .ok (.iload 9, 2) := by decide +kernel
theorem dX6_grow_76 : decode cX6_grow 76 = .ok (.ishr, 1) := by decide +kernel
theorem dX6_grow_77 : decode cX6_grow 77 = .ok (.iconst 1, 1) := by decide +kernel
theorem dX6_grow_78 : decode cX6_grow 78 = .ok (.iand, 1) := by decide +kernel
theorem dX6_grow_79 : decode cX6_grow 79 = .ok (.ifCond .eq 22, 3) := by decide +kernel
theorem dX6_grow_82 : decode cX6_grow 82 = .ok (.aload_n 0, 1) := by decide +kernel
theorem dX6_grow_83 : decode cX6_grow 83 = .ok (.iload 9, 2) := by decide +kernel
theorem dX6_grow_85 : decode cX6_grow 85 = .ok (.aload_n 1, 1) := by decide +kernel
theorem dX6_grow_86 : decode cX6_grow 86 = .ok (.getfield 40, 3) := by decide +kernel
theorem dX6_grow_89 : decode cX6_grow 89 = .ok (.iload 9, 2) := by decide +kernel
theorem dX6_grow_91 : decode cX6_grow 91 = .ok (.iaload, 1) := by decide +kernel
theorem dX6_grow_92 : decode cX6_grow 92 = .ok (.iload 6, 2) := by decide +kernel
theorem dX6_grow_94 : decode cX6_grow 94 = .ok (.iand, 1) := by decide +kernel
theorem dX6_grow_95 : decode cX6_grow 95 = .ok (.invokestatic 43, 3) := by decide +kernel
theorem dX6_grow_98 : decode cX6_grow 98 = .ok (.invokevirtual 46, 3) := by decide +kernel
theorem dX6_grow_101 : decode cX6_grow 101 = .ok (.iinc 9 1, 3) := by decide +kernel
theorem dX6_grow_104 : decode cX6_grow 104 = .ok (.goto (-41), 3) := by decide +kernel
theorem dX6_grow_107 : decode cX6_grow 107 = .ok (.iload 5, 2) := by decide +kernel
theorem dX6_grow_109 : decode cX6_grow 109 = .ok (.iload 8, 2) := by decide +kernel
theorem dX6_grow_111 : decode cX6_grow 111 = .ok (.ior, 1) := by decide +kernel
theorem dX6_grow_112 : decode cX6_grow 112 = .ok (.istore 5, 2) := by decide +kernel
theorem dX6_grow_114 : decode cX6_grow 114 = .ok (.iload 8, 2) := by decide +kernel
theorem dX6_grow_116 : decode cX6_grow 116 = .ok (.istore 6, 2) := by decide +kernel
theorem dX6_grow_118 : decode cX6_grow 118 = .ok (.iinc 7 1, 3) := by decide +kernel
theorem dX6_grow_121 : decode cX6_grow 121 = .ok (.goto (-104), 3) := by decide +kernel
theorem dX6_grow_124 : decode cX6_grow 124 = .ok (.iload 5, 2) := by decide +kernel
theorem dX6_grow_126 : decode cX6_grow 126 = .ok (.ireturn, 1) := by decide +kernel
theorem dJ6_bitCount_0f7a4_0 : decode cJ6_bitCount_0f7a4 0 = .ok (.iload_n 0, 1) := by decide +kernel
theorem dJ6_bitCount_0f7a4_1 : decode cJ6_bitCount_0f7a4 1 = .ok (.iload_n 0, 1) := by decide +kernel
theorem dJ6_bitCount_0f7a4_2 : decode cJ6_bitCount_0f7a4 2 = .ok (.iconst 1, 1) := by decide +kernel
theorem dJ6_bitCount_0f7a4_3 : decode cJ6_bitCount_0f7a4 3 = .ok (.iushr, 1) := by decide +kernel
theorem dJ6_bitCount_0f7a4_4 : decode cJ6_bitCount_0f7a4 4 = .ok (.ldc_w 265, 3) := by decide +kernel
theorem dJ6_bitCount_0f7a4_7 : decode cJ6_bitCount_0f7a4 7 = .ok (.iand, 1) := by decide +kernel
theorem dJ6_bitCount_0f7a4_8 : decode cJ6_bitCount_0f7a4 8 = .ok (.isub, 1) := by decide +kernel
theorem dJ6_bitCount_0f7a4_9 : decode cJ6_bitCount_0f7a4 9 = .ok (.istore_n 0, 1) := by decide +kernel
theorem dJ6_bitCount_0f7a4_10 : decode cJ6_bitCount_0f7a4 10 = .ok (.iload_n 0, 1) := by decide +kernel
theorem dJ6_bitCount_0f7a4_11 : decode cJ6_bitCount_0f7a4 11 = .ok (.ldc_w 266, 3) := by decide +kernel
theorem dJ6_bitCount_0f7a4_14 : decode cJ6_bitCount_0f7a4 14 = .ok (.iand, 1) := by decide +kernel
theorem dJ6_bitCount_0f7a4_15 : decode cJ6_bitCount_0f7a4 15 = .ok (.iload_n 0, 1) := by decide +kernel
theorem dJ6_bitCount_0f7a4_16 : decode cJ6_bitCount_0f7a4 16 = .ok (.iconst 2, 1) := by decide +kernel
theorem dJ6_bitCount_0f7a4_17 : decode cJ6_bitCount_0f7a4 17 = .ok (.iushr, 1) := by decide +kernel
theorem dJ6_bitCount_0f7a4_18 : decode cJ6_bitCount_0f7a4 18 = .ok (.ldc_w 266, 3) := by decide +kernel
theorem dJ6_bitCount_0f7a4_21 : decode cJ6_bitCount_0f7a4 21 = .ok (.iand, 1) := by decide +kernel
theorem dJ6_bitCount_0f7a4_22 : decode cJ6_bitCount_0f7a4 22 = .ok (.iadd, 1) := by decide +kernel
theorem dJ6_bitCount_0f7a4_23 : decode cJ6_bitCount_0f7a4 23 = .ok (.istore_n 0, 1) := by decide +kernel
theorem dJ6_bitCount_0f7a4_24 : decode cJ6_bitCount_0f7a4 24 = .ok (.iload_n 0, 1) := by decide +kernel
theorem dJ6_bitCount_0f7a4_25 : decode cJ6_bitCount_0f7a4 25 = .ok (.iload_n 0, 1) := by decide +kernel
theorem dJ6_bitCount_0f7a4_26 : decode cJ6_bitCount_0f7a4 26 = .ok (.iconst 4, 1) := by decide +kernel
theorem dJ6_bitCount_0f7a4_27 : decode cJ6_bitCount_0f7a4 27 = .ok (.iushr, 1) := by decide +kernel
theorem dJ6_bitCount_0f7a4_28 : decode cJ6_bitCount_0f7a4 28 = .ok (.iadd, 1) := by decide +kernel
theorem dJ6_bitCount_0f7a4_29 : decode cJ6_bitCount_0f7a4 29 = .ok (.ldc_w 267, 3) := by decide +kernel
theorem dJ6_bitCount_0f7a4_32 : decode cJ6_bitCount_0f7a4 32 = .ok (.iand, 1) := by decide +kernel
theorem dJ6_bitCount_0f7a4_33 : decode cJ6_bitCount_0f7a4 33 = .ok (.istore_n 0, 1) := by decide +kernel
theorem dJ6_bitCount_0f7a4_34 : decode cJ6_bitCount_0f7a4 34 = .ok (.iload_n 0, 1) := by decide +kernel
theorem dJ6_bitCount_0f7a4_35 : decode cJ6_bitCount_0f7a4 35 = .ok (.iload_n 0, 1) := by decide +kernel
theorem dJ6_bitCount_0f7a4_36 : decode cJ6_bitCount_0f7a4 36 = .ok (.bipush 8, 2) := by decide +kernel
theorem dJ6_bitCount_0f7a4_38 : decode cJ6_bitCount_0f7a4 38 = .ok (.iushr, 1) := by decide +kernel
theorem dJ6_bitCount_0f7a4_39 : decode cJ6_bitCount_0f7a4 39 = .ok (.iadd, 1) := by decide +kernel
theorem dJ6_bitCount_0f7a4_40 : decode cJ6_bitCount_0f7a4 40 = .ok (.istore_n 0, 1) := by decide +kernel
theorem dJ6_bitCount_0f7a4_41 : decode cJ6_bitCount_0f7a4 41 = .ok (.iload_n 0, 1) := by decide +kernel
theorem dJ6_bitCount_0f7a4_42 : decode cJ6_bitCount_0f7a4 42 = .ok (.iload_n 0, 1) := by decide +kernel
theorem dJ6_bitCount_0f7a4_43 : decode cJ6_bitCount_0f7a4 43 = .ok (.bipush 16, 2) := by decide +kernel
theorem dJ6_bitCount_0f7a4_45 : decode cJ6_bitCount_0f7a4 45 = .ok (.iushr, 1) := by decide +kernel
theorem dJ6_bitCount_0f7a4_46 : decode cJ6_bitCount_0f7a4 46 = .ok (.iadd, 1) := by decide +kernel
theorem dJ6_bitCount_0f7a4_47 : decode cJ6_bitCount_0f7a4 47 = .ok (.istore_n 0, 1) := by decide +kernel
theorem dJ6_bitCount_0f7a4_48 : decode cJ6_bitCount_0f7a4 48 = .ok (.iload_n 0, 1) := by decide +kernel
theorem dJ6_bitCount_0f7a4_49 : decode cJ6_bitCount_0f7a4 49 = .ok (.bipush 63, 2) := by decide +kernel
theorem dJ6_bitCount_0f7a4_51 : decode cJ6_bitCount_0f7a4 51 = .ok (.iand, 1) := by decide +kernel
theorem dJ6_bitCount_0f7a4_52 : decode cJ6_bitCount_0f7a4 52 = .ok (.ireturn, 1) := by decide +kernel
theorem dJ9_max_7cf53_0 : decode cJ9_max_7cf53 0 = .ok (.iload_n 0, 1) := by decide +kernel
theorem dJ9_max_7cf53_1 : decode cJ9_max_7cf53 1 = .ok (.iload_n 1, 1) := by decide +kernel
theorem dJ9_max_7cf53_2 : decode cJ9_max_7cf53 2 = .ok (.if_icmp .lt 7, 3) := by decide +kernel
theorem dJ9_max_7cf53_5 : decode cJ9_max_7cf53 5 = .ok (.iload_n 0, 1) := by decide +kernel
theorem dJ9_max_7cf53_6 : decode cJ9_max_7cf53 6 = .ok (.goto 4, 3) := by decide +kernel
theorem dJ9_max_7cf53_9 : decode cJ9_max_7cf53 9 = .ok (.iload_n 1, 1) := by decide +kernel
theorem dJ9_max_7cf53_10 : decode cJ9_max_7cf53 10 = .ok (.ireturn, 1) := by decide +kernel
theorem dJ7_fill_53178_0 : decode cJ7_fill_53178 0 = .ok (.iconst 0, 1) := by decide +kernel
theorem dJ7_fill_53178_1 : decode cJ7_fill_53178 1 = .ok (.istore_n 2, 1) := by decide +kernel
theorem dJ7_fill_53178_2 : decode cJ7_fill_53178 2 = .ok (.aload_n 0, 1) := by decide +kernel
theorem dJ7_fill_53178_3 : decode cJ7_fill_53178 3 = .ok (.arraylength, 1) := by decide +kernel
theorem dJ7_fill_53178_4 : decode cJ7_fill_53178 4 = .ok (.istore_n 3, 1) := by decide +kernel
theorem dJ7_fill_53178_5 : decode cJ7_fill_53178 5 = .ok (.iload_n 2, 1) := by decide +kernel
theorem dJ7_fill_53178_6 : decode cJ7_fill_53178 6 = .ok (.iload_n 3, 1) := by decide +kernel
theorem dJ7_fill_53178_7 : decode cJ7_fill_53178 7 = .ok (.if_icmp .ge 13, 3) := by decide +kernel
theorem dJ7_fill_53178_10 : decode cJ7_fill_53178 10 = .ok (.aload_n 0, 1) := by decide +kernel
theorem dJ7_fill_53178_11 : decode cJ7_fill_53178 11 = .ok (.iload_n 2, 1) := by decide +kernel
theorem dJ7_fill_53178_12 : decode cJ7_fill_53178 12 = .ok (.iload_n 1, 1) := by decide +kernel
theorem dJ7_fill_53178_13 : decode cJ7_fill_53178 13 = .ok (.iastore, 1) := by decide +kernel
theorem dJ7_fill_53178_14 : decode cJ7_fill_53178 14 = .ok (.iinc 2 1, 3) := by decide +kernel
theorem dJ7_fill_53178_17 : decode cJ7_fill_53178 17 = .ok (.goto (-12), 3) := by decide +kernel
theorem dJ7_fill_53178_20 : decode cJ7_fill_53178 20 = .ok (.return_, 1) := by decide +kernel
