theorem dX0_init_0 : decode cX0_init 0 = .ok (.aload_n 0, 1) := by decide +kernel
theorem dX0_init_1 : decode cX0_init 1 = .ok (.invokespecial 3, 3) := by decide +kernel
theorem dX0_init_4 : decode cX0_init 4 = .ok (.aload_n 0, 1) := by decide +kernel
theorem dX0_init_5 : decode cX0_init 5 = .ok (.iconst 0, 1) := by decide +kernel
theorem dX0_init_6 : decode cX0_init 6 = .ok (.putfield 9, 3) := by decide +kernel
theorem dX0_init_9 : decode cX0_init 9 = .ok (.aload_n 0, 1) := by decide +kernel
theorem dX0_init_10 : decode cX0_init 10 = .ok (.iconst 0, 1) := by decide +kernel
theorem dX0_init_11 : decode cX0_init 11 = .ok (.putfield 15, 3) := by decide +kernel
theorem dX0_init_14 : decode cX0_init 14 = .ok (.aload_n 0, 1) := by decide +kernel
theorem dX0_init_15 : decode cX0_init 15 = .ok (.new 18, 3) := by decide +kernel
theorem dX0_init_18 : decode cX0_init 18 = .ok (.dup, 1) := by decide +kernel
theorem dX0_init_19 : decode cX0_init 19 = .ok (.invokespecial 20, 3) := by decide +kernel
theorem dX0_init_22 : decode cX0_init 22 = .ok (.putfield 21, 3) := by decide +kernel
theorem dX0_init_25 : decode cX0_init 25 = .ok (.aload_n 0, 1) := by decide +kernel
theorem dX0_init_26 : decode cX0_init 26 = .ok (.bipush 24, 2) := by decide +kernel
theorem dX0_init_28 : decode cX0_init 28 = .ok (.newarray .int, 2) := by decide +kernel
theorem dX0_init_30 : decode cX0_init 30 = .ok (.putfield 25, 3) := by decide +kernel
theorem dX0_init_33 : decode cX0_init 33 = .ok (.aload_n 0, 1) := by decide +kernel
theorem dX0_init_34 : decode cX0_init 34 = .ok (.bipush 24, 2) := by decide +kernel
theorem dX0_init_36 : decode cX0_init 36 = .ok (.newarray .int, 2) := by decide +kernel
theorem dX0_init_38 : decode cX0_init 38 = .ok (.putfield 29, 3) := by decide +kernel
theorem dX0_init_41 : decode cX0_init 41 = .ok (.aload_n 0, 1) := by decide +kernel
theorem dX0_init_42 : decode cX0_init 42 = .ok (.sipush 576, 3) := by decide +kernel
theorem dX0_init_45 : decode cX0_init 45 = .ok (.newarray .int, 2) := by decide +kernel
theorem dX0_init_47 : decode cX0_init 47 = .ok (.putfield 32, 3) := by decide +kernel
theorem dX0_init_50 : decode cX0_init 50 = .ok (.return_, 1) := by decide +kernel
theorem dX0_make_0 : decode cX0_make 0 = .ok (.aload_n 0, 1) := by decide +kernel
theorem dX0_make_1 : decode cX0_make 1 = .ok (.iconst 0, 1) := by decide +kernel
theorem dX0_make_2 : decode cX0_make 2 = .ok (.putfield 9, 3) := by decide +kernel
theorem dX0_make_5 : decode cX0_make 5 = .ok (.aload_n 1, 1) := by decide +kernel
theorem dX0_make_6 : decode cX0_make 6 = .ok (.invokevirtual 35, 3) := by decide +kernel
theorem dX0_make_9 : decode cX0_make 9 = .ok (.istore_n 3, 1) := by decide +kernel
theorem dX0_make_10 : decode cX0_make 10 = .ok (.iconst 0, 1) := by decide +kernel
theorem dX0_make_11 : decode cX0_make 11 = .ok (.istore 4, 2) := by decide +kernel
theorem dX0_make_13 : decode cX0_make 13 = .ok (.iload 4, 2) := by decide +kernel
theorem dX0_make_15 : decode cX0_make 15 = .ok (.aload_n 1, 1) := by decide +kernel
theorem dX0_make_16 : decode cX0_make 16 = .ok (.getfield 41, 3) := by decide +kernel
theorem dX0_make_19 : decode cX0_make 19 = .ok (.if_icmp .ge 51, 3) := by decide +kernel
theorem dX0_make_22 : decode cX0_make 22 = .ok (.iload_n 3, 1) := by decide +kernel
theorem dX0_make_23 : decode cX0_make 23 = .ok (.iload 4, 2) := by decide +kernel
theorem dX0_make_25 : decode cX0_make 25 = .ok (.ishr, 1) := by decide +kernel
theorem dX0_make_26 : decode cX0_make 26 = .ok (.iconst 1, 1) := by decide +kernel
theorem dX0_make_27 : decode cX0_make 27 = .ok (.iand, 1) := by decide +kernel
theorem dX0_make_28 : decode cX0_make 28 = .ok (.ifCond .eq 36, 3) := by decide +kernel
theorem dX0_make_31 : decode cX0_make 31 = .ok (.aload_n 0, 1) := by decide +kernel
theorem dX0_make_32 : decode cX0_make 32 = .ok (.getfield 21, 3) := by decide +kernel
theorem dX0_make_35 : decode cX0_make 35 = .ok (.aload_n 1, 1) := by decide +kernel
theorem dX0_make_36 : decode cX0_make 36 = .ok (.iload 4, 2) := by decide +kernel
theorem dX0_make_38 : decode cX0_make 38 = .ok (.iload_n 3, 1) := by decide +kernel
theorem dX0_make_39 : decode cX0_make 39 = .ok (.iload_n 2, 1) := by decide +kernel
theorem dX0_make_40 : decode cX0_make 40 = .ok (.iconst 1, 1) := by decide +kernel
theorem dX0_make_41 : decode cX0_make 41 = .ok (.isub, 1) := by decide +kernel
theorem dX0_make_42 : decode cX0_make 42 = .ok (.invokevirtual 42, 3) := by decide +kernel
theorem dX0_make_45 : decode cX0_make 45 = .ok (.istore 5, 2) := by decide +kernel
theorem dX0_make_47 : decode cX0_make 47 = .ok (.aload_n 0, 1) := by decide +kernel
theorem dX0_make_48 : decode cX0_make 48 = .ok (.iload 5, 2) := by decide +kernel
theorem dX0_make_50 : decode cX0_make 50 = .ok (.aload_n 1, 1) := by decide +kernel
theorem dX0_make_51 : decode cX0_make 51 = .ok (.getfield 41, 3) := by decide +kernel
theorem dX0_make_54 : decode cX0_make 54 = .ok (.invokevirtual 46, 3) := by decide +kernel
theorem dX0_make_57 : decode cX0_make 57 = .ok (.iload_n 3, 1) := by decide +kernel
theorem dX0_make_58 : decode cX0_make 58 = .ok (.iload 5, 2) := by decide +kernel
theorem dX0_make_60 : decode cX0_make 60 = .ok (.iconst (-1), 1) := by decide +kernel
theorem dX0_make_61 : decode cX0_make 61 = .ok (.ixor, 1) := by decide +kernel
theorem dX0_make_62 : decode cX0_make 62 = .ok (.iand, 1) := by decide +kernel
theorem dX0_make_63 : decode cX0_make 63 = .ok (.istore_n 3, 1) := by decide +kernel
theorem dX0_make_64 : decode cX0_make 64 = .ok (.iinc 4 1, 3) := by decide +kernel
theorem dX0_make_67 : decode cX0_make 67 = .ok (.goto (-54), 3) := by decide +kernel
theorem dX0_make_70 : decode cX0_make 70 = .ok (.aload_n 0, 1) := by decide +kernel
theorem dX0_make_71 : decode cX0_make 71 = .ok (.aload_n 1, 1) := by decide +kernel
theorem dX0_make_72 : decode cX0_make 72 = .ok (.invokevirtual 50, 3) := by decide +kernel
theorem dX0_make_75 : decode cX0_make 75 = .ok (.return_, 1) := by decide +kernel
theorem dX0_number_0 : decode cX0_number 0 = .ok (.iconst 0, 1) := by decide +kernel
theorem dX0_number_1 : decode cX0_number 1 = .ok (.istore_n 3, 1) := by decide +kernel
theorem dX0_number_2 : decode cX0_number 2 = .ok (.iload_n 3, 1) := by decide +kernel
theorem dX0_number_3 : decode cX0_number 3 = .ok (.iload_n 2, 1) := by decide +kernel
theorem dX0_number_4 : decode cX0_number 4 = .ok (.if_icmp .ge 27, 3) := by decide +kernel
theorem dX0_number_7 : decode cX0_number 7 = .ok (.iload_n 1, 1) := by decide +kernel
theorem dX0_number_8 : decode cX0_number 8 = .ok (.iload_n 3, 1) := by decide +kernel
theorem dX0_number_9 : decode cX0_number 9 = .ok (.ishr, 1) := by decide +kernel
theorem dX0_number_10 : decode cX0_number 10 = .ok (.iconst 1, 1) := by decide +kernel
theorem dX0_number_11 : decode cX0_number 11 = .ok (.iand, 1) := by decide +kernel
theorem dX0_number_12 : decode cX0_number 12 = .ok (.ifCond .eq 13, 3) := by decide +kernel
theorem dX0_number_15 : decode cX0_number 15 = .ok (.aload_n 0, 1) := by decide +kernel
theorem dX0_number_16 : decode cX0_number 16 = .ok (.getfield 25, 3) := by decide +kernel
theorem dX0_number_19 : decode cX0_number 19 = .ok (.iload_n 3, 1) := by decide +kernel
theorem dX0_number_20 : decode cX0_number 20 = .ok (.aload_n 0, 1) := by decide +kernel
theorem dX0_number_21 : decode cX0_number 21 = .ok (.getfield 9, 3) := by decide +kernel
theorem dX0_number_24 : decode cX0_number 24 = .ok (.iastore, 1) := by decide +kernel
theorem dX0_number_25 : decode cX0_number 25 = .ok (.iinc 3 1, 3) := by decide +kernel
theorem dX0_number_28 : decode cX0_number 28 = .ok (.goto (-26), 3) := by decide +kernel
theorem dX0_number_31 : decode cX0_number 31 = .ok (.aload_n 0, 1) := by decide +kernel
theorem dX0_number_32 : decode cX0_number 32 = .ok (.dup, 1) := by decide +kernel
theorem dX0_number_33 : decode cX0_number 33 = .ok (.getfield 9, 3) := by decide +kernel
theorem dX0_number_36 : decode cX0_number 36 = .ok (.iconst 1, 1) := by decide +kernel
theorem dX0_number_37 : decode cX0_number 37 = .ok (.iadd, 1) := by decide +kernel
theorem dX0_number_38 : decode cX0_number 38 = .ok (.putfield 9, 3) := by decide +kernel
theorem dX0_number_41 : decode cX0_number 41 = .ok (.return_, 1) := by decide +kernel
theorem dX0_choose_0 : decode cX0_choose 0 = .ok (.aload_n 0, 1) := by decide +kernel
theorem dX0_choose_1 : decode cX0_choose 1 = .ok (.iconst 0, 1) := by decide +kernel
theorem dX0_choose_2 : decode cX0_choose 2 = .ok (.putfield 15, 3) := by decide +kernel
theorem dX0_choose_5 : decode cX0_choose 5 = .ok (.aload_n 0, 1) := by decide +kernel
theorem dX0_choose_6 : decode cX0_choose 6 = .ok (.getfield 32, 3) := by decide +kernel
theorem dX0_choose_9 : decode cX0_choose 9 = .ok (.iconst (-1), 1) := by decide +kernel
theorem dX0_choose_10 : decode cX0_choose 10 = .ok (.invokestatic 54, 3) := by decide +kernel
theorem dX0_choose_13 : decode cX0_choose 13 = .ok (.aload_n 0, 1) := by decide +kernel
theorem dX0_choose_14 : decode cX0_choose 14 = .ok (.getfield 29, 3) := by decide +kernel
theorem dX0_choose_17 : decode cX0_choose 17 = .ok (.iconst 0, 1) := by decide +kernel
theorem dX0_choose_18 : decode cX0_choose 18 = .ok (.invokestatic 54, 3) := by decide +kernel
theorem dX0_choose_21 : decode cX0_choose 21 = .ok (.iconst 0, 1) := by decide +kernel
theorem dX0_choose_22 : decode cX0_choose 22 = .ok (.istore_n 2, 1) := by decide +kernel
theorem dX0_choose_23 : decode cX0_choose 23 = .ok (.iload_n 2, 1) := by decide +kernel
theorem dX0_choose_24 : decode cX0_choose 24 = .ok (.aload_n 1, 1) := by decide +kernel
theorem dX0_choose_25 : decode cX0_choose 25 = .ok (.getfield 60, 3) := by decide +kernel
theorem dX0_choose_28 : decode cX0_choose 28 = .ok (.if_icmp .ge 136, 3) := by decide +kernel
theorem dX0_choose_31 : decode cX0_choose 31 = .ok (.aload_n 1, 1) := by decide +kernel
theorem dX0_choose_32 : decode cX0_choose 32 = .ok (.getfield 63, 3) := by decide +kernel
theorem dX0_choose_35 : decode cX0_choose 35 = .ok (.iload_n 2, 1) := by decide +kernel
theorem dX0_choose_36 : decode cX0_choose 36 = .ok (.iaload, 1) := by decide +kernel
theorem dX0_choose_37 : decode cX0_choose 37 = .ok (.istore_n 3, 1) := by decide +kernel
theorem dX0_choose_38 : decode cX0_choose 38 = .ok (.aload_n 1, 1) := by decide +kernel
theorem dX0_choose_39 : decode cX0_choose 39 = .ok (.getfield 66, 3) := by decide +kernel
theorem dX0_choose_42 : decode cX0_choose 42 = .ok (.iload_n 2, 1) := by decide +kernel
theorem dX0_choose_43 : decode cX0_choose 43 = .ok (.iaload, 1) := by decide +kernel
theorem dX0_choose_44 : decode cX0_choose 44 = .ok (.istore 4, 2) := by decide +kernel
theorem dX0_choose_46 : decode cX0_choose 46 = .ok (.aload_n 0, 1) := by decide +kernel
theorem dX0_choose_47 : decode cX0_choose 47 = .ok (.getfield 25, 3) := by decide +kernel
theorem dX0_choose_50 : decode cX0_choose 50 = .ok (.iload_n 3, 1) := by decide +kernel
theorem dX0_choose_51 : decode cX0_choose 51 = .ok (.iaload, 1) := by decide +kernel
theorem dX0_choose_52 : decode cX0_choose 52 = .ok (.bipush 24, 2) := by decide +kernel
theorem dX0_choose_54 : decode cX0_choose 54 = .ok (.imul, 1) := by decide +kernel
theorem dX0_choose_55 : decode cX0_choose 55 = .ok (.aload_n 0, 1) := by decide +kernel
theorem dX0_choose_56 : decode cX0_choose 56 = .ok (.getfield 25, 3) := by decide +kernel
theorem dX0_choose_59 : decode cX0_choose 59 = .ok (.iload 4, 2) := by decide +kernel
theorem dX0_choose_61 : decode cX0_choose 61 = .ok (.iaload, 1) := by decide +kernel
theorem dX0_choose_62 : decode cX0_choose 62 = .ok (.iadd, 1) := by decide +kernel
theorem dX0_choose_63 : decode cX0_choose 63 = .ok (.istore 5, 2) := by decide +kernel
theorem dX0_choose_65 : decode cX0_choose 65 = .ok (.aload_n 0, 1) := by decide +kernel
theorem dX0_choose_66 : decode cX0_choose 66 = .ok (.getfield 25, 3) := by decide +kernel
theorem dX0_choose_69 : decode cX0_choose 69 = .ok (.iload_n 3, 1) := by decide +kernel
theorem dX0_choose_70 : decode cX0_choose 70 = .ok (.iaload, 1) := by decide +kernel
theorem dX0_choose_71 : decode cX0_choose 71 = .ok (.aload_n 0, 1) := by decide +kernel
theorem dX0_choose_72 : decode cX0_choose 72 = .ok (.getfield 25, 3) := by decide +kernel
theorem dX0_choose_75 : decode cX0_choose 75 = .ok (.iload 4, 2) := by decide +kernel
theorem dX0_choose_77 : decode cX0_choose 77 = .ok (.iaload, 1) := by decide +kernel
theorem dX0_choose_78 : decode cX0_choose 78 = .ok (.if_icmp .eq 80, 3) := by decide +kernel
theorem dX0_choose_81 : decode cX0_choose 81 = .ok (.aload_n 0, 1) := by decide +kernel
theorem dX0_choose_82 : decode cX0_choose 82 = .ok (.getfield 32, 3) := by decide +kernel
theorem dX0_choose_85 : decode cX0_choose 85 = .ok (.iload 5, 2) := by decide +kernel
theorem dX0_choose_87 : decode cX0_choose 87 = .ok (.iaload, 1) := by decide +kernel
theorem dX0_choose_88 : decode cX0_choose 88 = .ok (.ifCond .ge 70, 3) := by decide +kernel
theorem dX0_choose_91 : decode cX0_choose 91 = .ok (.aload_n 0, 1) := by decide +kernel
theorem dX0_choose_92 : decode cX0_choose 92 = .ok (.getfield 32, 3) := by decide +kernel
theorem dX0_choose_95 : decode cX0_choose 95 = .ok (.iload 5, 2) := by decide +kernel
theorem dX0_choose_97 : decode cX0_choose 97 = .ok (.iload_n 2, 1) := by decide +kernel
theorem dX0_choose_98 : decode cX0_choose 98 = .ok (.iastore, 1) := by decide +kernel
theorem dX0_choose_99 : decode cX0_choose 99 = .ok (.aload_n 0, 1) := by decide +kernel
theorem dX0_choose_100 : decode cX0_choose 100 = .ok (.getfield 32, 3) := by decide +kernel
theorem dX0_choose_103 : decode cX0_choose 103 = .ok (.aload_n 0, 1) := by decide +kernel
theorem dX0_choose_104 : decode cX0_choose 104 = .ok (.getfield 25, 3) := by decide +kernel
theorem dX0_choose_107 : decode cX0_choose 107 = .ok (.iload 4, 2) := by decide +kernel
theorem dX0_choose_109 : decode cX0_choose 109 = .ok (.iaload, 1) := by decide +kernel
theorem dX0_choose_110 : decode cX0_choose 110 = .ok (.bipush 24, 2) := by decide +kernel
theorem dX0_choose_112 : decode cX0_choose 112 = .ok (.imul, 1) := by decide +kernel
theorem dX0_choose_113 : decode cX0_choose 113 = .ok (.aload_n 0, 1) := by decide +kernel
theorem dX0_choose_114 : decode cX0_choose 114 = .ok (.getfield 25, 3) := by decide +kernel
theorem dX0_choose_117 : decode cX0_choose 117 = .ok (.iload_n 3, 1) := by decide +kernel
theorem dX0_choose_118 : decode cX0_choose 118 = .ok (.iaload, 1) := by decide +kernel
theorem dX0_choose_119 : decode cX0_choose 119 = .ok (.iadd, 1) := by decide +kernel
theorem dX0_choose_120 : decode cX0_choose 120 = .ok (.iload_n 2, 1) := by decide +kernel
theorem dX0_choose_121 : decode cX0_choose 121 = .ok (.iastore, 1) := by decide +kernel
theorem dX0_choose_122 : decode cX0_choose 122 = .ok (.aload_n 0, 1) := by decide +kernel
theorem dX0_choose_123 : decode cX0_choose 123 = .ok (.getfield 29, 3) := by decide +kernel
theorem dX0_choose_126 : decode cX0_choose 126 = .ok (.iload_n 3, 1) := by decide +kernel
theorem dX0_choose_127 : decode cX0_choose 127 = .ok (.dup2, 1) := by decide +kernel
theorem dX0_choose_128 : decode cX0_choose 128 = .ok (.iaload, 1) := by decide +kernel
theorem dX0_choose_129 : decode cX0_choose 129 = .ok (.iconst 1, 1) := by decide +kernel
theorem dX0_choose_130 : decode cX0_choose 130 = .ok (.iload 4, 2) := by decide +kernel
theorem dX0_choose_132 : decode cX0_choose 132 = .ok (.ishl, 1) := by decide +kernel
theorem dX0_choose_133 : decode cX0_choose 133 = .ok (.ior, 1) := by decide +kernel
theorem dX0_choose_134 : decode cX0_choose 134 = .ok (.iastore, 1) := by decide +kernel
theorem dX0_choose_135 : decode cX0_choose 135 = .ok (.aload_n 0, 1) := by decide +kernel
theorem dX0_choose_136 : decode cX0_choose 136 = .ok (.getfield 29, 3) := by decide +kernel
theorem dX0_choose_139 : decode cX0_choose 139 = .ok (.iload 4, 2) := by decide +kernel
theorem dX0_choose_141 : decode cX0_choose 141 = .ok (.dup2, 1) := by decide +kernel
theorem dX0_choose_142 : decode cX0_choose 142 = .ok (.iaload, 1) := by decide +kernel
theorem dX0_choose_143 : decode cX0_choose 143 = .ok (.iconst 1, 1) := by decide +kernel
theorem dX0_choose_144 : decode cX0_choose 144 = .ok (.iload_n 3, 1) := by decide +kernel
theorem dX0_choose_145 : decode cX0_choose 145 = .ok (.ishl, 1) := by decide +kernel
theorem dX0_choose_146 : decode cX0_choose 146 = .ok (.ior, 1) := by decide +kernel
theorem dX0_choose_147 : decode cX0_choose 147 = .ok (.iastore, 1) := by decide +kernel
theorem dX0_choose_148 : decode cX0_choose 148 = .ok (.aload_n 0, 1) := by decide +kernel
theorem dX0_choose_149 : decode cX0_choose 149 = .ok (.dup, 1) := by decide +kernel
theorem dX0_choose_150 : decode cX0_choose 150 = .ok (.getfield 15, 3) := by decide +kernel
theorem dX0_choose_153 : decode cX0_choose 153 = .ok (.iconst 1, 1) := by decide +kernel
theorem dX0_choose_154 : decode cX0_choose 154 = .ok (.iadd, 1) := by decide +kernel
theorem dX0_choose_155 : decode cX0_choose 155 = .ok (.putfield 15, 3) := by decide +kernel
theorem dX0_choose_158 : decode cX0_choose 158 = .ok (.iinc 2 1, 3) := by decide +kernel
theorem dX0_choose_161 : decode cX0_choose 161 = .ok (.goto (-138), 3) := by decide +kernel
theorem dX0_choose_164 : decode cX0_choose 164 = .ok (.return_, 1) := by decide +kernel
theorem dX1_init_0 : decode cX1_init 0 = .ok (.aload_n 0, 1) := by decide +kernel
theorem dX1_init_1 : decode cX1_init 1 = .ok (.invokespecial 3, 3) := by decide +kernel
theorem dX1_init_4 : decode cX1_init 4 = .ok (.aload_n 0, 1) := by decide +kernel
theorem dX1_init_5 : decode cX1_init 5 = .ok (.sipush 192, 3) := by decide +kernel
theorem dX1_init_8 : decode cX1_init 8 = .ok (.newarray .int, 2) := by decide +kernel
theorem dX1_init_10 : decode cX1_init 10 = .ok (.putfield 9, 3) := by decide +kernel
theorem dX1_init_13 : decode cX1_init 13 = .ok (.aload_n 0, 1) := by decide +kernel
theorem dX1_init_14 : decode cX1_init 14 = .ok (.bipush 48, 2) := by decide +kernel
theorem dX1_init_16 : decode cX1_init 16 = .ok (.newarray .int, 2) := by decide +kernel
theorem dX1_init_18 : decode cX1_init 18 = .ok (.putfield 15, 3) := by decide +kernel
theorem dX1_init_21 : decode cX1_init 21 = .ok (.aload_n 0, 1) := by decide +kernel
theorem dX1_init_22 : decode cX1_init 22 = .ok (.sipush 1152, 3) := by decide +kernel
theorem dX1_init_25 : decode cX1_init 25 = .ok (.newarray .int, 2) := by decide +kernel
theorem dX1_init_27 : decode cX1_init 27 = .ok (.putfield 18, 3) := by decide +kernel
theorem dX1_init_30 : decode cX1_init 30 = .ok (.aload_n 0, 1) := by decide +kernel
theorem dX1_init_31 : decode cX1_init 31 = .ok (.bipush 24, 2) := by decide +kernel
theorem dX1_init_33 : decode cX1_init 33 = .ok (.newarray .int, 2) := by decide +kernel
theorem dX1_init_35 : decode cX1_init 35 = .ok (.putfield 21, 3) := by decide +kernel
theorem dX1_init_38 : decode cX1_init 38 = .ok (.aload_n 0, 1) := by decide +kernel
theorem dX1_init_39 : decode cX1_init 39 = .ok (.iconst 0, 1) := by decide +kernel
theorem dX1_init_40 : decode cX1_init 40 = .ok (.putfield 24, 3) := by decide +kernel
theorem dX1_init_43 : decode cX1_init 43 = .ok (.aload_n 0, 1) := by decide +kernel
theorem dX1_init_44 : decode cX1_init 44 = .ok (.iconst 0, 1) := by decide +kernel
theorem dX1_init_45 : decode cX1_init 45 = .ok (.putfield 28, 3) := by decide +kernel
theorem dX1_init_48 : decode cX1_init 48 = .ok (.aload_n 0, 1) := by decide +kernel
theorem dX1_init_49 : decode cX1_init 49 = .ok (.iconst 0, 1) := by decide +kernel
theorem dX1_init_50 : decode cX1_init 50 = .ok (.putfield 31, 3) := by decide +kernel
theorem dX1_init_53 : decode cX1_init 53 = .ok (.aload_n 0, 1) := by decide +kernel
theorem dX1_init_54 : decode cX1_init 54 = .ok (.aload_n 1, 1) := by decide +kernel
theorem dX1_init_55 : decode cX1_init 55 = .ok (.putfield 34, 3) := by decide +kernel
theorem dX1_init_58 : decode cX1_init 58 = .ok (.aload_n 0, 1) := by decide +kernel
theorem dX1_init_59 : decode cX1_init 59 = .ok (.aload_n 2, 1) := by decide +kernel
theorem dX1_init_60 : decode cX1_init 60 = .ok (.putfield 38, 3) := by decide +kernel
theorem dX1_init_63 : decode cX1_init 63 = .ok (.return_, 1) := by decide +kernel
theorem dX1_begin_0 : decode cX1_begin 0 = .ok (.aload_n 1, 1) := by decide +kernel
theorem dX1_begin_1 : decode cX1_begin 1 = .ok (.iconst 0, 1) := by decide +kernel
theorem dX1_begin_2 : decode cX1_begin 2 = .ok (.aload_n 0, 1) := by decide +kernel
theorem dX1_begin_3 : decode cX1_begin 3 = .ok (.getfield 9, 3) := by decide +kernel
theorem dX1_begin_6 : decode cX1_begin 6 = .ok (.iconst 0, 1) := by decide +kernel
theorem dX1_begin_7 : decode cX1_begin 7 = .ok (.aload_n 0, 1) := by decide +kernel
theorem dX1_begin_8 : decode cX1_begin 8 = .ok (.getfield 9, 3) := by decide +kernel
theorem dX1_begin_11 : decode cX1_begin 11 = .ok (.arraylength, 1) := by decide +kernel
theorem dX1_begin_12 : decode cX1_begin 12 = .ok (.invokestatic 42, 3) := by decide +kernel
theorem dX1_begin_15 : decode cX1_begin 15 = .ok (.aload_n 0, 1) := by decide +kernel
theorem dX1_begin_16 : decode cX1_begin 16 = .ok (.getfield 15, 3) := by decide +kernel
theorem dX1_begin_19 : decode cX1_begin 19 = .ok (.iconst 0, 1) := by decide +kernel
theorem dX1_begin_20 : decode cX1_begin 20 = .ok (.invokestatic 48, 3) := by decide +kernel
theorem dX1_begin_23 : decode cX1_begin 23 = .ok (.return_, 1) := by decide +kernel
theorem dX1_accept_0 : decode cX1_accept 0 = .ok (.aload_n 0, 1) := by decide +kernel
theorem dX1_accept_1 : decode cX1_accept 1 = .ok (.getfield 38, 3) := by decide +kernel
theorem dX1_accept_4 : decode cX1_accept 4 = .ok (.getfield 54, 3) := by decide +kernel
theorem dX1_accept_7 : decode cX1_accept 7 = .ok (.iload_n 1, 1) := by decide +kernel
theorem dX1_accept_8 : decode cX1_accept 8 = .ok (.bipush 24, 2) := by decide +kernel
theorem dX1_accept_10 : decode cX1_accept 10 = .ok (.imul, 1) := by decide +kernel
theorem dX1_accept_11 : decode cX1_accept 11 = .ok (.iload_n 2, 1) := by decide +kernel
theorem dX1_accept_12 : decode cX1_accept 12 = .ok (.iadd, 1) := by decide +kernel
theorem dX1_accept_13 : decode cX1_accept 13 = .ok (.iaload, 1) := by decide +kernel
theorem dX1_accept_14 : decode cX1_accept 14 = .ok (.istore 5, 2) := by decide +kernel
theorem dX1_accept_16 : decode cX1_accept 16 = .ok (.iload_n 1, 1) := by decide +kernel
theorem dX1_accept_17 : decode cX1_accept 17 = .ok (.iload_n 3, 1) := by decide +kernel
theorem dX1_accept_18 : decode cX1_accept 18 = .ok (.invokestatic 59, 3) := by decide +kernel
theorem dX1_accept_21 : decode cX1_accept 21 = .ok (.istore 6, 2) := by decide +kernel
theorem dX1_accept_23 : decode cX1_accept 23 = .ok (.aload_n 0, 1) := by decide +kernel
theorem dX1_accept_24 : decode cX1_accept 24 = .ok (.getfield 15, 3) := by decide +kernel
theorem dX1_accept_27 : decode cX1_accept 27 = .ok (.iload 6, 2) := by decide +kernel
theorem dX1_accept_29 : decode cX1_accept 29 = .ok (.dup2, 1) := by decide +kernel
theorem dX1_accept_30 : decode cX1_accept 30 = .ok (.iaload, 1) := by decide +kernel
theorem dX1_accept_31 : decode cX1_accept 31 = .ok (.iconst 1, 1) := by decide +kernel
theorem dX1_accept_32 : decode cX1_accept 32 = .ok (.iload 5, 2) := by decide +kernel
theorem dX1_accept_34 : decode cX1_accept 34 = .ok (.ishl, 1) := by decide +kernel
theorem dX1_accept_35 : decode cX1_accept 35 = .ok (.ior, 1) := by decide +kernel
theorem dX1_accept_36 : decode cX1_accept 36 = .ok (.iastore, 1) := by decide +kernel
theorem dX1_accept_37 : decode cX1_accept 37 = .ok (.aload_n 0, 1) := by decide +kernel
theorem dX1_accept_38 : decode cX1_accept 38 = .ok (.getfield 18, 3) := by decide +kernel
theorem dX1_accept_41 : decode cX1_accept 41 = .ok (.iload 6, 2) := by decide +kernel
theorem dX1_accept_43 : decode cX1_accept 43 = .ok (.bipush 24, 2) := by decide +kernel
theorem dX1_accept_45 : decode cX1_accept 45 = .ok (.imul, 1) := by decide +kernel
theorem dX1_accept_46 : decode cX1_accept 46 = .ok (.iload 5, 2) := by decide +kernel
theorem dX1_accept_48 : decode cX1_accept 48 = .ok (.iadd, 1) := by decide +kernel
theorem dX1_accept_49 : decode cX1_accept 49 = .ok (.iload 4, 2) := by decide +kernel
theorem dX1_accept_51 : decode cX1_accept 51 = .ok (.iastore, 1) := by decide +kernel
theorem dX1_accept_52 : decode cX1_accept 52 = .ok (.return_, 1) := by decide +kernel
theorem dX1_passOn_0 : decode cX1_passOn 0 = .ok (.iconst 0, 1) := by decide +kernel
theorem dX1_passOn_1 : decode cX1_passOn 1 = .ok (.istore_n 3, 1) := by decide +kernel
theorem dX1_passOn_2 : decode cX1_passOn 2 = .ok (.iload_n 3, 1) := by decide +kernel
theorem dX1_passOn_3 : decode cX1_passOn 3 = .ok (.aload_n 0, 1) := by decide +kernel
theorem dX1_passOn_4 : decode cX1_passOn 4 = .ok (.getfield 38, 3) := by decide +kernel
theorem dX1_passOn_7 : decode cX1_passOn 7 = .ok (.getfield 63, 3) := by decide +kernel
theorem dX1_passOn_10 : decode cX1_passOn 10 = .ok (.iload_n 1, 1) := by decide +kernel
theorem dX1_passOn_11 : decode cX1_passOn 11 = .ok (.iaload, 1) := by decide +kernel
theorem dX1_passOn_12 : decode cX1_passOn 12 = .ok (.if_icmp .ge 43, 3) := by decide +kernel
theorem dX1_passOn_15 : decode cX1_passOn 15 = .ok (.aload_n 0, 1) := by decide +kernel
theorem dX1_passOn_16 : decode cX1_passOn 16 = .ok (.iload_n 3, 1) := by decide +kernel
theorem dX1_passOn_17 : decode cX1_passOn 17 = .ok (.invokevirtual 66, 3) := by decide +kernel
theorem dX1_passOn_20 : decode cX1_passOn 20 = .ok (.ifCond .eq 29, 3) := by decide +kernel
theorem dX1_passOn_23 : decode cX1_passOn 23 = .ok (.aload_n 0, 1) := by decide +kernel
theorem dX1_passOn_24 : decode cX1_passOn 24 = .ok (.aload_n 0, 1) := by decide +kernel
theorem dX1_passOn_25 : decode cX1_passOn 25 = .ok (.getfield 38, 3) := by decide +kernel
theorem dX1_passOn_28 : decode cX1_passOn 28 = .ok (.getfield 70, 3) := by decide +kernel
theorem dX1_passOn_31 : decode cX1_passOn 31 = .ok (.iload_n 1, 1) := by decide +kernel
theorem dX1_passOn_32 : decode cX1_passOn 32 = .ok (.bipush 24, 2) := by decide +kernel
theorem dX1_passOn_34 : decode cX1_passOn 34 = .ok (.imul, 1) := by decide +kernel
theorem dX1_passOn_35 : decode cX1_passOn 35 = .ok (.iload_n 3, 1) := by decide +kernel
theorem dX1_passOn_36 : decode cX1_passOn 36 = .ok (.iadd, 1) := by decide +kernel
theorem dX1_passOn_37 : decode cX1_passOn 37 = .ok (.iaload, 1) := by decide +kernel
theorem dX1_passOn_38 : decode cX1_passOn 38 = .ok (.iload_n 1, 1) := by decide +kernel
theorem dX1_passOn_39 : decode cX1_passOn 39 = .ok (.iload_n 2, 1) := by decide +kernel
theorem dX1_passOn_40 : decode cX1_passOn 40 = .ok (.aload_n 0, 1) := by decide +kernel
theorem dX1_passOn_41 : decode cX1_passOn 41 = .ok (.getfield 21, 3) := by decide +kernel
theorem dX1_passOn_44 : decode cX1_passOn 44 = .ok (.iload_n 3, 1) := by decide +kernel
theorem dX1_passOn_45 : decode cX1_passOn 45 = .ok (.iaload, 1) := by decide +kernel
theorem dX1_passOn_46 : decode cX1_passOn 46 = .ok (.invokevirtual 73, 3) := by decide +kernel
theorem dX1_passOn_49 : decode cX1_passOn 49 = .ok (.iinc 3 1, 3) := by decide +kernel
theorem dX1_passOn_52 : decode cX1_passOn 52 = .ok (.goto (-50), 3) := by decide +kernel
theorem dX1_passOn_55 : decode cX1_passOn 55 = .ok (.return_, 1) := by decide +kernel
theorem dX1_goesBy_0 : decode cX1_goesBy 0 = .ok (.aload_n 0, 1) := by decide +kernel
theorem dX1_goesBy_1 : decode cX1_goesBy 1 = .ok (.getfield 24, 3) := by decide +kernel
theorem dX1_goesBy_4 : decode cX1_goesBy 4 = .ok (.iload_n 1, 1) := by decide +kernel
theorem dX1_goesBy_5 : decode cX1_goesBy 5 = .ok (.ishr, 1) := by decide +kernel
theorem dX1_goesBy_6 : decode cX1_goesBy 6 = .ok (.iconst 1, 1) := by decide +kernel
theorem dX1_goesBy_7 : decode cX1_goesBy 7 = .ok (.iand, 1) := by decide +kernel
theorem dX1_goesBy_8 : decode cX1_goesBy 8 = .ok (.ifCond .eq 7, 3) := by decide +kernel
theorem dX1_goesBy_11 : decode cX1_goesBy 11 = .ok (.iconst 1, 1) := by decide +kernel
theorem dX1_goesBy_12 : decode cX1_goesBy 12 = .ok (.goto 4, 3) := by decide +kernel
theorem dX1_goesBy_15 : decode cX1_goesBy 15 = .ok (.iconst 0, 1) := by decide +kernel
theorem dX1_goesBy_16 : decode cX1_goesBy 16 = .ok (.ireturn, 1) := by decide +kernel
theorem dX1_doRound_0 : decode cX1_doRound 0 = .ok (.aload_n 0, 1) := by decide +kernel
theorem dX1_doRound_1 : decode cX1_doRound 1 = .ok (.iload_n 1, 1) := by decide +kernel
theorem dX1_doRound_2 : decode cX1_doRound 2 = .ok (.putfield 28, 3) := by decide +kernel
theorem dX1_doRound_5 : decode cX1_doRound 5 = .ok (.aload_n 0, 1) := by decide +kernel
theorem dX1_doRound_6 : decode cX1_doRound 6 = .ok (.iload_n 2, 1) := by decide +kernel
theorem dX1_doRound_7 : decode cX1_doRound 7 = .ok (.putfield 31, 3) := by decide +kernel
theorem dX1_doRound_10 : decode cX1_doRound 10 = .ok (.aload_n 0, 1) := by decide +kernel
theorem dX1_doRound_11 : decode cX1_doRound 11 = .ok (.iconst 0, 1) := by decide +kernel
theorem dX1_doRound_12 : decode cX1_doRound 12 = .ok (.putfield 24, 3) := by decide +kernel
theorem dX1_doRound_15 : decode cX1_doRound 15 = .ok (.iconst 0, 1) := by decide +kernel
theorem dX1_doRound_16 : decode cX1_doRound 16 = .ok (.istore_n 3, 1) := by decide +kernel
theorem dX1_doRound_17 : decode cX1_doRound 17 = .ok (.iload_n 3, 1) := by decide +kernel
theorem dX1_doRound_18 : decode cX1_doRound 18 = .ok (.aload_n 0, 1) := by decide +kernel
theorem dX1_doRound_19 : decode cX1_doRound 19 = .ok (.getfield 34, 3) := by decide +kernel
theorem dX1_doRound_22 : decode cX1_doRound 22 = .ok (.getfield 77, 3) := by decide +kernel
theorem dX1_doRound_25 : decode cX1_doRound 25 = .ok (.if_icmp .ge 126, 3) := by decide +kernel
theorem dX1_doRound_28 : decode cX1_doRound 28 = .ok (.aload_n 0, 1) := by decide +kernel
theorem dX1_doRound_29 : decode cX1_doRound 29 = .ok (.getfield 34, 3) := by decide +kernel
theorem dX1_doRound_32 : decode cX1_doRound 32 = .ok (.getfield 82, 3) := by decide +kernel
theorem dX1_doRound_35 : decode cX1_doRound 35 = .ok (.iload_n 3, 1) := by decide +kernel
theorem dX1_doRound_36 : decode cX1_doRound 36 = .ok (.iaload, 1) := by decide +kernel
theorem dX1_doRound_37 : decode cX1_doRound 37 = .ok (.bipush 15, 2) := by decide +kernel
theorem dX1_doRound_39 : decode cX1_doRound 39 = .ok (.if_icmp .eq 15, 3) := by decide +kernel
theorem dX1_doRound_42 : decode cX1_doRound 42 = .ok (.iload_n 3, 1) := by decide +kernel
theorem dX1_doRound_43 : decode cX1_doRound 43 = .ok (.aload_n 0, 1) := by decide +kernel
theorem dX1_doRound_44 : decode cX1_doRound 44 = .ok (.iload_n 3, 1) := by decide +kernel
theorem dX1_doRound_45 : decode cX1_doRound 45 = .ok (.iconst 0, 1) := by decide +kernel
theorem dX1_doRound_46 : decode cX1_doRound 46 = .ok (.invokevirtual 85, 3) := by decide +kernel
theorem dX1_doRound_49 : decode cX1_doRound 49 = .ok (.iadd, 1) := by decide +kernel
theorem dX1_doRound_50 : decode cX1_doRound 50 = .ok (.istore_n 3, 1) := by decide +kernel
theorem dX1_doRound_51 : decode cX1_doRound 51 = .ok (.goto 94, 3) := by decide +kernel
theorem dX1_doRound_54 : decode cX1_doRound 54 = .ok (.iload_n 3, 1) := by decide +kernel
theorem dX1_doRound_55 : decode cX1_doRound 55 = .ok (.aload_n 0, 1) := by decide +kernel
theorem dX1_doRound_56 : decode cX1_doRound 56 = .ok (.getfield 34, 3) := by decide +kernel
theorem dX1_doRound_59 : decode cX1_doRound 59 = .ok (.getfield 88, 3) := by decide +kernel
theorem dX1_doRound_62 : decode cX1_doRound 62 = .ok (.iload_n 3, 1) := by decide +kernel
theorem dX1_doRound_63 : decode cX1_doRound 63 = .ok (.iaload, 1) := by decide +kernel
theorem dX1_doRound_64 : decode cX1_doRound 64 = .ok (.iadd, 1) := by decide +kernel
theorem dX1_doRound_65 : decode cX1_doRound 65 = .ok (.istore 4, 2) := by decide +kernel
theorem dX1_doRound_67 : decode cX1_doRound 67 = .ok (.iconst 0, 1) := by decide +kernel
theorem dX1_doRound_68 : decode cX1_doRound 68 = .ok (.istore 5, 2) := by decide +kernel
theorem dX1_doRound_70 : decode cX1_doRound 70 = .ok (.iload 5, 2) := by decide +kernel
theorem dX1_doRound_72 : decode cX1_doRound 72 = .ok (.aload_n 0, 1) := by decide +kernel
theorem dX1_doRound_73 : decode cX1_doRound 73 = .ok (.getfield 38, 3) := by decide +kernel
theorem dX1_doRound_76 : decode cX1_doRound 76 = .ok (.getfield 63, 3) := by decide +kernel
theorem dX1_doRound_79 : decode cX1_doRound 79 = .ok (.iload_n 1, 1) := by decide +kernel
theorem dX1_doRound_80 : decode cX1_doRound 80 = .ok (.iaload, 1) := by decide +kernel
theorem dX1_doRound_81 : decode cX1_doRound 81 = .ok (.if_icmp .ge 61, 3) := by decide +kernel
theorem dX1_doRound_84 : decode cX1_doRound 84 = .ok (.aload_n 0, 1) := by decide +kernel
theorem dX1_doRound_85 : decode cX1_doRound 85 = .ok (.getfield 9, 3) := by decide +kernel
theorem dX1_doRound_88 : decode cX1_doRound 88 = .ok (.iload_n 1, 1) := by decide +kernel
theorem dX1_doRound_89 : decode cX1_doRound 89 = .ok (.bipush 8, 2) := by decide +kernel
theorem dX1_doRound_91 : decode cX1_doRound 91 = .ok (.imul, 1) := by decide +kernel
theorem dX1_doRound_92 : decode cX1_doRound 92 = .ok (.aload_n 0, 1) := by decide +kernel
theorem dX1_doRound_93 : decode cX1_doRound 93 = .ok (.getfield 34, 3) := by decide +kernel
theorem dX1_doRound_96 : decode cX1_doRound 96 = .ok (.getfield 91, 3) := by decide +kernel
theorem dX1_doRound_99 : decode cX1_doRound 99 = .ok (.iload_n 3, 1) := by decide +kernel
theorem dX1_doRound_100 : decode cX1_doRound 100 = .ok (.iaload, 1) := by decide +kernel
theorem dX1_doRound_101 : decode cX1_doRound 101 = .ok (.iadd, 1) := by decide +kernel
theorem dX1_doRound_102 : decode cX1_doRound 102 = .ok (.iload 5, 2) := by decide +kernel
theorem dX1_doRound_104 : decode cX1_doRound 104 = .ok (.iastore, 1) := by decide +kernel
theorem dX1_doRound_105 : decode cX1_doRound 105 = .ok (.iload_n 3, 1) := by decide +kernel
theorem dX1_doRound_106 : decode cX1_doRound 106 = .ok (.iconst 1, 1) := by decide +kernel
theorem dX1_doRound_107 : decode cX1_doRound 107 = .ok (.iadd, 1) := by decide +kernel
theorem dX1_doRound_108 : decode cX1_doRound 108 = .ok (.istore 6, 2) := by decide +kernel
theorem dX1_doRound_110 : decode cX1_doRound 110 = .ok (.iload 6, 2) := by decide +kernel
theorem dX1_doRound_112 : decode cX1_doRound 112 = .ok (.iload 4, 2) := by decide +kernel
theorem dX1_doRound_114 : decode cX1_doRound 114 = .ok (.if_icmp .gt 22, 3) := by decide +kernel
theorem dX1_doRound_117 : decode cX1_doRound 117 = .ok (.iload 6, 2) := by decide +kernel
theorem dX1_doRound_119 : decode cX1_doRound 119 = .ok (.aload_n 0, 1) := by decide +kernel
theorem dX1_doRound_120 : decode cX1_doRound 120 = .ok (.iload 6, 2) := by decide +kernel
theorem dX1_doRound_122 : decode cX1_doRound 122 = .ok (.iload 5, 2) := by decide +kernel
theorem dX1_doRound_124 : decode cX1_doRound 124 = .ok (.invokevirtual 85, 3) := by decide +kernel
theorem dX1_doRound_127 : decode cX1_doRound 127 = .ok (.iadd, 1) := by decide +kernel
theorem dX1_doRound_128 : decode cX1_doRound 128 = .ok (.istore 6, 2) := by decide +kernel
theorem dX1_doRound_130 : decode cX1_doRound 130 = .ok (.iinc 6 1, 3) := by decide +kernel
theorem dX1_doRound_133 : decode cX1_doRound 133 = .ok (.goto (-23), 3) := by decide +kernel
theorem dX1_doRound_136 : decode cX1_doRound 136 = .ok (.iinc 5 1, 3) := by decide +kernel
theorem dX1_doRound_139 : decode cX1_doRound 139 = .ok (.goto (-69), 3) := by decide +kernel
theorem dX1_doRound_142 : decode cX1_doRound 142 = .ok (.iload 4, 2) := by decide +kernel
theorem dX1_doRound_144 : decode cX1_doRound 144 = .ok (.istore_n 3, 1) := by decide +kernel
theorem dX1_doRound_145 : decode cX1_doRound 145 = .ok (.iinc 3 1, 3) := by decide +kernel
theorem dX1_doRound_148 : decode cX1_doRound 148 = .ok (.goto (-131), 3) := by decide +kernel
theorem dX1_doRound_151 : decode cX1_doRound 151 = .ok (.aload_n 0, 1) := by decide +kernel
theorem dX1_doRound_152 : decode cX1_doRound 152 = .ok (.getfield 15, 3) := by decide +kernel
theorem dX1_doRound_155 : decode cX1_doRound 155 = .ok (.iload_n 1, 1) := by decide +kernel
theorem dX1_doRound_156 : decode cX1_doRound 156 = .ok (.iload_n 2, 1) := by decide +kernel
theorem dX1_doRound_157 : decode cX1_doRound 157 = .ok (.iconst 1, 1) := by decide +kernel
theorem dX1_doRound_158 : decode cX1_doRound 158 = .ok (.isub, 1) := by decide +kernel
theorem dX1_doRound_159 : decode cX1_doRound 159 = .ok (.invokestatic 59, 3) := by decide +kernel
theorem dX1_doRound_162 : decode cX1_doRound 162 = .ok (.iconst 0, 1) := by decide +kernel
theorem dX1_doRound_163 : decode cX1_doRound 163 = .ok (.iastore, 1) := by decide +kernel
theorem dX1_doRound_164 : decode cX1_doRound 164 = .ok (.return_, 1) := by decide +kernel
theorem dX1_boxOf_0 : decode cX1_boxOf 0 = .ok (.iload_n 1, 1) := by decide +kernel
theorem dX1_boxOf_1 : decode cX1_boxOf 1 = .ok (.iconst 1, 1) := by decide +kernel
theorem dX1_boxOf_2 : decode cX1_boxOf 2 = .ok (.iand, 1) := by decide +kernel
theorem dX1_boxOf_3 : decode cX1_boxOf 3 = .ok (.bipush 24, 2) := by decide +kernel
theorem dX1_boxOf_5 : decode cX1_boxOf 5 = .ok (.imul, 1) := by decide +kernel
theorem dX1_boxOf_6 : decode cX1_boxOf 6 = .ok (.iload_n 0, 1) := by decide +kernel
theorem dX1_boxOf_7 : decode cX1_boxOf 7 = .ok (.iadd, 1) := by decide +kernel
theorem dX1_boxOf_8 : decode cX1_boxOf 8 = .ok (.ireturn, 1) := by decide +kernel
theorem dX1_doWord_0 : decode cX1_doWord 0 = .ok (.aload_n 0, 1) := by decide +kernel
theorem dX1_doWord_1 : decode cX1_doWord 1 = .ok (.getfield 28, 3) := by decide +kernel
theorem dX1_doWord_4 : decode cX1_doWord 4 = .ok (.bipush 8, 2) := by decide +kernel
theorem dX1_doWord_6 : decode cX1_doWord 6 = .ok (.imul, 1) := by decide +kernel
theorem dX1_doWord_7 : decode cX1_doWord 7 = .ok (.aload_n 0, 1) := by decide +kernel
theorem dX1_doWord_8 : decode cX1_doWord 8 = .ok (.getfield 34, 3) := by decide +kernel
theorem dX1_doWord_11 : decode cX1_doWord 11 = .ok (.getfield 91, 3) := by decide +kernel
theorem dX1_doWord_14 : decode cX1_doWord 14 = .ok (.iload_n 1, 1) := by decide +kernel
theorem dX1_doWord_15 : decode cX1_doWord 15 = .ok (.iaload, 1) := by decide +kernel
theorem dX1_doWord_16 : decode cX1_doWord 16 = .ok (.iadd, 1) := by decide +kernel
theorem dX1_doWord_17 : decode cX1_doWord 17 = .ok (.istore_n 3, 1) := by decide +kernel
theorem dX1_doWord_18 : decode cX1_doWord 18 = .ok (.aload_n 0, 1) := by decide +kernel
theorem dX1_doWord_19 : decode cX1_doWord 19 = .ok (.getfield 34, 3) := by decide +kernel
theorem dX1_doWord_22 : decode cX1_doWord 22 = .ok (.getfield 82, 3) := by decide +kernel
theorem dX1_doWord_25 : decode cX1_doWord 25 = .ok (.iload_n 1, 1) := by decide +kernel
theorem dX1_doWord_26 : decode cX1_doWord 26 = .ok (.iaload, 1) := by decide +kernel
theorem dX1_doWord_27 : decode cX1_doWord 27 = .ok (.tableswitch 243 0 21 #[150, 243, 243, 243, 243, 243, 243, 243, 243, 243, 243, 243, 243, 243, 101, 243, 167, 167, 124, 199, 211, 223], 101) := by decide +kernel
theorem dX1_doWord_128 : decode cX1_doWord 128 = .ok (.aload_n 0, 1) := by decide +kernel
theorem dX1_doWord_129 : decode cX1_doWord 129 = .ok (.getfield 9, 3) := by decide +kernel
theorem dX1_doWord_132 : decode cX1_doWord 132 = .ok (.iload_n 3, 1) := by decide +kernel
theorem dX1_doWord_133 : decode cX1_doWord 133 = .ok (.iaload, 1) := by decide +kernel
theorem dX1_doWord_134 : decode cX1_doWord 134 = .ok (.ifCond .ne 15, 3) := by decide +kernel
theorem dX1_doWord_137 : decode cX1_doWord 137 = .ok (.aload_n 0, 1) := by decide +kernel
theorem dX1_doWord_138 : decode cX1_doWord 138 = .ok (.getfield 34, 3) := by decide +kernel
theorem dX1_doWord_141 : decode cX1_doWord 141 = .ok (.getfield 88, 3) := by decide +kernel
theorem dX1_doWord_144 : decode cX1_doWord 144 = .ok (.iload_n 1, 1) := by decide +kernel
theorem dX1_doWord_145 : decode cX1_doWord 145 = .ok (.iaload, 1) := by decide +kernel
theorem dX1_doWord_146 : decode cX1_doWord 146 = .ok (.goto 4, 3) := by decide +kernel
theorem dX1_doWord_149 : decode cX1_doWord 149 = .ok (.iconst 0, 1) := by decide +kernel
theorem dX1_doWord_150 : decode cX1_doWord 150 = .ok (.ireturn, 1) := by decide +kernel
theorem dX1_doWord_151 : decode cX1_doWord 151 = .ok (.aload_n 0, 1) := by decide +kernel
theorem dX1_doWord_152 : decode cX1_doWord 152 = .ok (.dup, 1) := by decide +kernel
theorem dX1_doWord_153 : decode cX1_doWord 153 = .ok (.getfield 24, 3) := by decide +kernel
theorem dX1_doWord_156 : decode cX1_doWord 156 = .ok (.iconst 1, 1) := by decide +kernel
theorem dX1_doWord_157 : decode cX1_doWord 157 = .ok (.iload_n 2, 1) := by decide +kernel
theorem dX1_doWord_158 : decode cX1_doWord 158 = .ok (.ishl, 1) := by decide +kernel
theorem dX1_doWord_159 : decode cX1_doWord 159 = .ok (.ior, 1) := by decide +kernel
theorem dX1_doWord_160 : decode cX1_doWord 160 = .ok (.putfield 24, 3) := by decide +kernel
theorem dX1_doWord_163 : decode cX1_doWord 163 = .ok (.aload_n 0, 1) := by decide +kernel
theorem dX1_doWord_164 : decode cX1_doWord 164 = .ok (.getfield 21, 3) := by decide +kernel
theorem dX1_doWord_167 : decode cX1_doWord 167 = .ok (.iload_n 2, 1) := by decide +kernel
theorem dX1_doWord_168 : decode cX1_doWord 168 = .ok (.aload_n 0, 1) := by decide +kernel
theorem dX1_doWord_169 : decode cX1_doWord 169 = .ok (.getfield 9, 3) := by decide +kernel
theorem dX1_doWord_172 : decode cX1_doWord 172 = .ok (.iload_n 3, 1) := by decide +kernel
theorem dX1_doWord_173 : decode cX1_doWord 173 = .ok (.iaload, 1) := by decide +kernel
theorem dX1_doWord_174 : decode cX1_doWord 174 = .ok (.iastore, 1) := by decide +kernel
theorem dX1_doWord_175 : decode cX1_doWord 175 = .ok (.iconst 0, 1) := by decide +kernel
theorem dX1_doWord_176 : decode cX1_doWord 176 = .ok (.ireturn, 1) := by decide +kernel
theorem dX1_doWord_177 : decode cX1_doWord 177 = .ok (.aload_n 0, 1) := by decide +kernel
theorem dX1_doWord_178 : decode cX1_doWord 178 = .ok (.getfield 9, 3) := by decide +kernel
theorem dX1_doWord_181 : decode cX1_doWord 181 = .ok (.iload_n 3, 1) := by decide +kernel
theorem dX1_doWord_182 : decode cX1_doWord 182 = .ok (.aload_n 0, 1) := by decide +kernel
theorem dX1_doWord_183 : decode cX1_doWord 183 = .ok (.getfield 34, 3) := by decide +kernel
theorem dX1_doWord_186 : decode cX1_doWord 186 = .ok (.getfield 88, 3) := by decide +kernel
theorem dX1_doWord_189 : decode cX1_doWord 189 = .ok (.iload_n 1, 1) := by decide +kernel
theorem dX1_doWord_190 : decode cX1_doWord 190 = .ok (.iaload, 1) := by decide +kernel
theorem dX1_doWord_191 : decode cX1_doWord 191 = .ok (.iastore, 1) := by decide +kernel
theorem dX1_doWord_192 : decode cX1_doWord 192 = .ok (.iconst 0, 1) := by decide +kernel
theorem dX1_doWord_193 : decode cX1_doWord 193 = .ok (.ireturn, 1) := by decide +kernel
theorem dX1_doWord_194 : decode cX1_doWord 194 = .ok (.aload_n 0, 1) := by decide +kernel
theorem dX1_doWord_195 : decode cX1_doWord 195 = .ok (.getfield 9, 3) := by decide +kernel
theorem dX1_doWord_198 : decode cX1_doWord 198 = .ok (.iload_n 3, 1) := by decide +kernel
theorem dX1_doWord_199 : decode cX1_doWord 199 = .ok (.aload_n 0, 1) := by decide +kernel
theorem dX1_doWord_200 : decode cX1_doWord 200 = .ok (.iload_n 2, 1) := by decide +kernel
theorem dX1_doWord_201 : decode cX1_doWord 201 = .ok (.aload_n 0, 1) := by decide +kernel
theorem dX1_doWord_202 : decode cX1_doWord 202 = .ok (.getfield 34, 3) := by decide +kernel
theorem dX1_doWord_205 : decode cX1_doWord 205 = .ok (.getfield 82, 3) := by decide +kernel
theorem dX1_doWord_208 : decode cX1_doWord 208 = .ok (.iload_n 1, 1) := by decide +kernel
theorem dX1_doWord_209 : decode cX1_doWord 209 = .ok (.iaload, 1) := by decide +kernel
theorem dX1_doWord_210 : decode cX1_doWord 210 = .ok (.bipush 17, 2) := by decide +kernel
theorem dX1_doWord_212 : decode cX1_doWord 212 = .ok (.if_icmp .ne 7, 3) := by decide +kernel
theorem dX1_doWord_215 : decode cX1_doWord 215 = .ok (.iconst 1, 1) := by decide +kernel
theorem dX1_doWord_216 : decode cX1_doWord 216 = .ok (.goto 4, 3) := by decide +kernel
theorem dX1_doWord_219 : decode cX1_doWord 219 = .ok (.iconst 0, 1) := by decide +kernel
theorem dX1_doWord_220 : decode cX1_doWord 220 = .ok (.invokevirtual 94, 3) := by decide +kernel
theorem dX1_doWord_223 : decode cX1_doWord 223 = .ok (.iastore, 1) := by decide +kernel
theorem dX1_doWord_224 : decode cX1_doWord 224 = .ok (.iconst 0, 1) := by decide +kernel
theorem dX1_doWord_225 : decode cX1_doWord 225 = .ok (.ireturn, 1) := by decide +kernel
theorem dX1_doWord_226 : decode cX1_doWord 226 = .ok (.aload_n 0, 1) := by decide +kernel
theorem dX1_doWord_227 : decode cX1_doWord 227 = .ok (.getfield 9, 3) := by decide +kernel
theorem dX1_doWord_230 : decode cX1_doWord 230 = .ok (.iload_n 3, 1) := by decide +kernel
theorem dX1_doWord_231 : decode cX1_doWord 231 = .ok (.aload_n 0, 1) := by decide +kernel
theorem dX1_doWord_232 : decode cX1_doWord 232 = .ok (.getfield 31, 3) := by decide +kernel
theorem dX1_doWord_235 : decode cX1_doWord 235 = .ok (.iastore, 1) := by decide +kernel
theorem dX1_doWord_236 : decode cX1_doWord 236 = .ok (.iconst 0, 1) := by decide +kernel
theorem dX1_doWord_237 : decode cX1_doWord 237 = .ok (.ireturn, 1) := by decide +kernel
theorem dX1_doWord_238 : decode cX1_doWord 238 = .ok (.aload_n 0, 1) := by decide +kernel
theorem dX1_doWord_239 : decode cX1_doWord 239 = .ok (.getfield 9, 3) := by decide +kernel
theorem dX1_doWord_242 : decode cX1_doWord 242 = .ok (.iload_n 3, 1) := by decide +kernel
theorem dX1_doWord_243 : decode cX1_doWord 243 = .ok (.aload_n 0, 1) := by decide +kernel
theorem dX1_doWord_244 : decode cX1_doWord 244 = .ok (.getfield 28, 3) := by decide +kernel
theorem dX1_doWord_247 : decode cX1_doWord 247 = .ok (.iastore, 1) := by decide +kernel
theorem dX1_doWord_248 : decode cX1_doWord 248 = .ok (.iconst 0, 1) := by decide +kernel
theorem dX1_doWord_249 : decode cX1_doWord 249 = .ok (.ireturn, 1) := by decide +kernel
theorem dX1_doWord_250 : decode cX1_doWord 250 = .ok (.aload_n 0, 1) := by decide +kernel
theorem dX1_doWord_251 : decode cX1_doWord 251 = .ok (.getfield 9, 3) := by decide +kernel
theorem dX1_doWord_254 : decode cX1_doWord 254 = .ok (.iload_n 3, 1) := by decide +kernel
theorem dX1_doWord_255 : decode cX1_doWord 255 = .ok (.aload_n 0, 1) := by decide +kernel
theorem dX1_doWord_256 : decode cX1_doWord 256 = .ok (.getfield 38, 3) := by decide +kernel
theorem dX1_doWord_259 : decode cX1_doWord 259 = .ok (.getfield 63, 3) := by decide +kernel
theorem dX1_doWord_262 : decode cX1_doWord 262 = .ok (.aload_n 0, 1) := by decide +kernel
theorem dX1_doWord_263 : decode cX1_doWord 263 = .ok (.getfield 28, 3) := by decide +kernel
theorem dX1_doWord_266 : decode cX1_doWord 266 = .ok (.iaload, 1) := by decide +kernel
theorem dX1_doWord_267 : decode cX1_doWord 267 = .ok (.iastore, 1) := by decide +kernel
theorem dX1_doWord_268 : decode cX1_doWord 268 = .ok (.iconst 0, 1) := by decide +kernel
theorem dX1_doWord_269 : decode cX1_doWord 269 = .ok (.ireturn, 1) := by decide +kernel
theorem dX1_doWord_270 : decode cX1_doWord 270 = .ok (.aload_n 0, 1) := by decide +kernel
theorem dX1_doWord_271 : decode cX1_doWord 271 = .ok (.getfield 9, 3) := by decide +kernel
theorem dX1_doWord_274 : decode cX1_doWord 274 = .ok (.iload_n 3, 1) := by decide +kernel
theorem dX1_doWord_275 : decode cX1_doWord 275 = .ok (.aload_n 0, 1) := by decide +kernel
theorem dX1_doWord_276 : decode cX1_doWord 276 = .ok (.iload_n 1, 1) := by decide +kernel
theorem dX1_doWord_277 : decode cX1_doWord 277 = .ok (.invokevirtual 98, 3) := by decide +kernel
theorem dX1_doWord_280 : decode cX1_doWord 280 = .ok (.iastore, 1) := by decide +kernel
theorem dX1_doWord_281 : decode cX1_doWord 281 = .ok (.iconst 0, 1) := by decide +kernel
theorem dX1_doWord_282 : decode cX1_doWord 282 = .ok (.ireturn, 1) := by decide +kernel
theorem dX1_received_0 : decode cX1_received 0 = .ok (.aload_n 0, 1) := by decide +kernel
theorem dX1_received_1 : decode cX1_received 1 = .ok (.getfield 28, 3) := by decide +kernel
theorem dX1_received_4 : decode cX1_received 4 = .ok (.aload_n 0, 1) := by decide +kernel
theorem dX1_received_5 : decode cX1_received 5 = .ok (.getfield 31, 3) := by decide +kernel
theorem dX1_received_8 : decode cX1_received 8 = .ok (.iconst 1, 1) := by decide +kernel
theorem dX1_received_9 : decode cX1_received 9 = .ok (.isub, 1) := by decide +kernel
theorem dX1_received_10 : decode cX1_received 10 = .ok (.invokestatic 59, 3) := by decide +kernel
theorem dX1_received_13 : decode cX1_received 13 = .ok (.istore_n 3, 1) := by decide +kernel
theorem dX1_received_14 : decode cX1_received 14 = .ok (.aload_n 0, 1) := by decide +kernel
theorem dX1_received_15 : decode cX1_received 15 = .ok (.getfield 15, 3) := by decide +kernel
theorem dX1_received_18 : decode cX1_received 18 = .ok (.iload_n 3, 1) := by decide +kernel
theorem dX1_received_19 : decode cX1_received 19 = .ok (.iaload, 1) := by decide +kernel
theorem dX1_received_20 : decode cX1_received 20 = .ok (.iload_n 1, 1) := by decide +kernel
theorem dX1_received_21 : decode cX1_received 21 = .ok (.ishr, 1) := by decide +kernel
theorem dX1_received_22 : decode cX1_received 22 = .ok (.iconst 1, 1) := by decide +kernel
theorem dX1_received_23 : decode cX1_received 23 = .ok (.iand, 1) := by decide +kernel
theorem dX1_received_24 : decode cX1_received 24 = .ok (.ifCond .ne 5, 3) := by decide +kernel
theorem dX1_received_27 : decode cX1_received 27 = .ok (.iconst 0, 1) := by decide +kernel
theorem dX1_received_28 : decode cX1_received 28 = .ok (.ireturn, 1) := by decide +kernel
theorem dX1_received_29 : decode cX1_received 29 = .ok (.iload_n 2, 1) := by decide +kernel
theorem dX1_received_30 : decode cX1_received 30 = .ok (.ifCond .eq 17, 3) := by decide +kernel
theorem dX1_received_33 : decode cX1_received 33 = .ok (.aload_n 0, 1) := by decide +kernel
theorem dX1_received_34 : decode cX1_received 34 = .ok (.getfield 18, 3) := by decide +kernel
theorem dX1_received_37 : decode cX1_received 37 = .ok (.iload_n 3, 1) := by decide +kernel
theorem dX1_received_38 : decode cX1_received 38 = .ok (.bipush 24, 2) := by decide +kernel
theorem dX1_received_40 : decode cX1_received 40 = .ok (.imul, 1) := by decide +kernel
theorem dX1_received_41 : decode cX1_received 41 = .ok (.iload_n 1, 1) := by decide +kernel
theorem dX1_received_42 : decode cX1_received 42 = .ok (.iadd, 1) := by decide +kernel
theorem dX1_received_43 : decode cX1_received 43 = .ok (.iaload, 1) := by decide +kernel
theorem dX1_received_44 : decode cX1_received 44 = .ok (.goto 4, 3) := by decide +kernel
theorem dX1_received_47 : decode cX1_received 47 = .ok (.iconst 1, 1) := by decide +kernel
theorem dX1_received_48 : decode cX1_received 48 = .ok (.ireturn, 1) := by decide +kernel
theorem dX1_reckoned_0 : decode cX1_reckoned 0 = .ok (.aload_n 0, 1) := by decide +kernel
theorem dX1_reckoned_1 : decode cX1_reckoned 1 = .ok (.getfield 9, 3) := by decide +kernel
theorem dX1_reckoned_4 : decode cX1_reckoned 4 = .ok (.aload_n 0, 1) := by decide +kernel
theorem dX1_reckoned_5 : decode cX1_reckoned 5 = .ok (.getfield 28, 3) := by decide +kernel
theorem dX1_reckoned_8 : decode cX1_reckoned 8 = .ok (.bipush 8, 2) := by decide +kernel
theorem dX1_reckoned_10 : decode cX1_reckoned 10 = .ok (.imul, 1) := by decide +kernel
theorem dX1_reckoned_11 : decode cX1_reckoned 11 = .ok (.aload_n 0, 1) := by decide +kernel
theorem dX1_reckoned_12 : decode cX1_reckoned 12 = .ok (.getfield 34, 3) := by decide +kernel
theorem dX1_reckoned_15 : decode cX1_reckoned 15 = .ok (.getfield 88, 3) := by decide +kernel
theorem dX1_reckoned_18 : decode cX1_reckoned 18 = .ok (.iload_n 1, 1) := by decide +kernel
theorem dX1_reckoned_19 : decode cX1_reckoned 19 = .ok (.iaload, 1) := by decide +kernel
theorem dX1_reckoned_20 : decode cX1_reckoned 20 = .ok (.iadd, 1) := by decide +kernel
theorem dX1_reckoned_21 : decode cX1_reckoned 21 = .ok (.iaload, 1) := by decide +kernel
theorem dX1_reckoned_22 : decode cX1_reckoned 22 = .ok (.istore_n 2, 1) := by decide +kernel
theorem dX1_reckoned_23 : decode cX1_reckoned 23 = .ok (.aload_n 0, 1) := by decide +kernel
theorem dX1_reckoned_24 : decode cX1_reckoned 24 = .ok (.getfield 34, 3) := by decide +kernel
theorem dX1_reckoned_27 : decode cX1_reckoned 27 = .ok (.getfield 82, 3) := by decide +kernel
theorem dX1_reckoned_30 : decode cX1_reckoned 30 = .ok (.iload_n 1, 1) := by decide +kernel
theorem dX1_reckoned_31 : decode cX1_reckoned 31 = .ok (.iaload, 1) := by decide +kernel
theorem dX1_reckoned_32 : decode cX1_reckoned 32 = .ok (.lookupswitch 56 #[(1, 36), (12, 38), (13, 45)], 36) := by decide +kernel
theorem dX1_reckoned_68 : decode cX1_reckoned 68 = .ok (.iload_n 2, 1) := by decide +kernel
theorem dX1_reckoned_69 : decode cX1_reckoned 69 = .ok (.ireturn, 1) := by decide +kernel
theorem dX1_reckoned_70 : decode cX1_reckoned 70 = .ok (.iconst 1, 1) := by decide +kernel
theorem dX1_reckoned_71 : decode cX1_reckoned 71 = .ok (.iload_n 2, 1) := by decide +kernel
theorem dX1_reckoned_72 : decode cX1_reckoned 72 = .ok (.bipush 31, 2) := by decide +kernel
theorem dX1_reckoned_74 : decode cX1_reckoned 74 = .ok (.iand, 1) := by decide +kernel
theorem dX1_reckoned_75 : decode cX1_reckoned 75 = .ok (.ishl, 1) := by decide +kernel
theorem dX1_reckoned_76 : decode cX1_reckoned 76 = .ok (.ireturn, 1) := by decide +kernel
theorem dX1_reckoned_77 : decode cX1_reckoned 77 = .ok (.iload_n 2, 1) := by decide +kernel
theorem dX1_reckoned_78 : decode cX1_reckoned 78 = .ok (.iload_n 2, 1) := by decide +kernel
theorem dX1_reckoned_79 : decode cX1_reckoned 79 = .ok (.iconst 1, 1) := by decide +kernel
theorem dX1_reckoned_80 : decode cX1_reckoned 80 = .ok (.iadd, 1) := by decide +kernel
theorem dX1_reckoned_81 : decode cX1_reckoned 81 = .ok (.iconst (-1), 1) := by decide +kernel
theorem dX1_reckoned_82 : decode cX1_reckoned 82 = .ok (.ixor, 1) := by decide +kernel
theorem dX1_reckoned_83 : decode cX1_reckoned 83 = .ok (.iand, 1) := by decide +kernel
theorem dX1_reckoned_84 : decode cX1_reckoned 84 = .ok (.invokestatic 102, 3) := by decide +kernel
theorem dX1_reckoned_87 : decode cX1_reckoned 87 = .ok (.ireturn, 1) := by decide +kernel
theorem dX1_reckoned_88 : decode cX1_reckoned 88 = .ok (.aload_n 0, 1) := by decide +kernel
theorem dX1_reckoned_89 : decode cX1_reckoned 89 = .ok (.getfield 9, 3) := by decide +kernel
theorem dX1_reckoned_92 : decode cX1_reckoned 92 = .ok (.aload_n 0, 1) := by decide +kernel
theorem dX1_reckoned_93 : decode cX1_reckoned 93 = .ok (.getfield 28, 3) := by decide +kernel
theorem dX1_reckoned_96 : decode cX1_reckoned 96 = .ok (.bipush 8, 2) := by decide +kernel
theorem dX1_reckoned_98 : decode cX1_reckoned 98 = .ok (.imul, 1) := by decide +kernel
theorem dX1_reckoned_99 : decode cX1_reckoned 99 = .ok (.aload_n 0, 1) := by decide +kernel
theorem dX1_reckoned_100 : decode cX1_reckoned 100 = .ok (.getfield 34, 3) := by decide +kernel
theorem dX1_reckoned_103 : decode cX1_reckoned 103 = .ok (.getfield 107, 3) := by decide +kernel
theorem dX1_reckoned_106 : decode cX1_reckoned 106 = .ok (.iload_n 1, 1) := by decide +kernel
theorem dX1_reckoned_107 : decode cX1_reckoned 107 = .ok (.iaload, 1) := by decide +kernel
theorem dX1_reckoned_108 : decode cX1_reckoned 108 = .ok (.iadd, 1) := by decide +kernel
theorem dX1_reckoned_109 : decode cX1_reckoned 109 = .ok (.iaload, 1) := by decide +kernel
theorem dX1_reckoned_110 : decode cX1_reckoned 110 = .ok (.istore_n 3, 1) := by decide +kernel
theorem dX1_reckoned_111 : decode cX1_reckoned 111 = .ok (.aload_n 0, 1) := by decide +kernel
theorem dX1_reckoned_112 : decode cX1_reckoned 112 = .ok (.getfield 34, 3) := by decide +kernel
theorem dX1_reckoned_115 : decode cX1_reckoned 115 = .ok (.getfield 82, 3) := by decide +kernel
theorem dX1_reckoned_118 : decode cX1_reckoned 118 = .ok (.iload_n 1, 1) := by decide +kernel
theorem dX1_reckoned_119 : decode cX1_reckoned 119 = .ok (.iaload, 1) := by decide +kernel
theorem dX1_reckoned_120 : decode cX1_reckoned 120 = .ok (.iload_n 2, 1) := by decide +kernel
theorem dX1_reckoned_121 : decode cX1_reckoned 121 = .ok (.iload_n 3, 1) := by decide +kernel
theorem dX1_reckoned_122 : decode cX1_reckoned 122 = .ok (.invokestatic 110, 3) := by decide +kernel
theorem dX1_reckoned_125 : decode cX1_reckoned 125 = .ok (.ireturn, 1) := by decide +kernel
theorem dX1_combined_0 : decode cX1_combined 0 = .ok (.iload_n 0, 1) := by decide +kernel
theorem dX1_combined_1 : decode cX1_combined 1 = .ok (.tableswitch 115 2 10 #[51, 55, 59, 63, 74, 85, 96, 107, 111], 51) := by decide +kernel
theorem dX1_combined_52 : decode cX1_combined 52 = .ok (.iload_n 1, 1) := by decide +kernel
theorem dX1_combined_53 : decode cX1_combined 53 = .ok (.iload_n 2, 1) := by decide +kernel
theorem dX1_combined_54 : decode cX1_combined 54 = .ok (.iadd, 1) := by decide +kernel
theorem dX1_combined_55 : decode cX1_combined 55 = .ok (.ireturn, 1) := by decide +kernel
theorem dX1_combined_56 : decode cX1_combined 56 = .ok (.iload_n 1, 1) := by decide +kernel
theorem dX1_combined_57 : decode cX1_combined 57 = .ok (.iload_n 2, 1) := by decide +kernel
theorem dX1_combined_58 : decode cX1_combined 58 = .ok (.isub, 1) := by decide +kernel
theorem dX1_combined_59 : decode cX1_combined 59 = .ok (.ireturn, 1) := by decide +kernel
theorem dX1_combined_60 : decode cX1_combined 60 = .ok (.iload_n 1, 1) := by decide +kernel
theorem dX1_combined_61 : decode cX1_combined 61 = .ok (.iload_n 2, 1) := by decide +kernel
theorem dX1_combined_62 : decode cX1_combined 62 = .ok (.imul, 1) := by decide +kernel
theorem dX1_combined_63 : decode cX1_combined 63 = .ok (.ireturn, 1) := by decide +kernel
theorem dX1_combined_64 : decode cX1_combined 64 = .ok (.iload_n 1, 1) := by decide +kernel
theorem dX1_combined_65 : decode cX1_combined 65 = .ok (.iload_n 2, 1) := by decide +kernel
theorem dX1_combined_66 : decode cX1_combined 66 = .ok (.if_icmp .ge 7, 3) := by decide +kernel
theorem dX1_combined_69 : decode cX1_combined 69 = .ok (.iload_n 1, 1) := by decide +kernel
theorem dX1_combined_70 : decode cX1_combined 70 = .ok (.goto 4, 3) := by decide +kernel
theorem dX1_combined_73 : decode cX1_combined 73 = .ok (.iload_n 2, 1) := by decide +kernel
theorem dX1_combined_74 : decode cX1_combined 74 = .ok (.ireturn, 1) := by decide +kernel
theorem dX1_combined_75 : decode cX1_combined 75 = .ok (.iload_n 1, 1) := by decide +kernel
theorem dX1_combined_76 : decode cX1_combined 76 = .ok (.iload_n 2, 1) := by decide +kernel
theorem dX1_combined_77 : decode cX1_combined 77 = .ok (.if_icmp .le 7, 3) := by decide +kernel
theorem dX1_combined_80 : decode cX1_combined 80 = .ok (.iload_n 1, 1) := by decide +kernel
theorem dX1_combined_81 : decode cX1_combined 81 = .ok (.goto 4, 3) := by decide +kernel
theorem dX1_combined_84 : decode cX1_combined 84 = .ok (.iload_n 2, 1) := by decide +kernel
theorem dX1_combined_85 : decode cX1_combined 85 = .ok (.ireturn, 1) := by decide +kernel
theorem dX1_combined_86 : decode cX1_combined 86 = .ok (.iload_n 1, 1) := by decide +kernel
theorem dX1_combined_87 : decode cX1_combined 87 = .ok (.iload_n 2, 1) := by decide +kernel
theorem dX1_combined_88 : decode cX1_combined 88 = .ok (.if_icmp .ge 7, 3) := by decide +kernel
theorem dX1_combined_91 : decode cX1_combined 91 = .ok (.iconst 1, 1) := by decide +kernel
theorem dX1_combined_92 : decode cX1_combined 92 = .ok (.goto 4, 3) := by decide +kernel
theorem dX1_combined_95 : decode cX1_combined 95 = .ok (.iconst 0, 1) := by decide +kernel
theorem dX1_combined_96 : decode cX1_combined 96 = .ok (.ireturn, 1) := by decide +kernel
theorem dX1_combined_97 : decode cX1_combined 97 = .ok (.iload_n 1, 1) := by decide +kernel
theorem dX1_combined_98 : decode cX1_combined 98 = .ok (.iload_n 2, 1) := by decide +kernel
theorem dX1_combined_99 : decode cX1_combined 99 = .ok (.if_icmp .ne 7, 3) := by decide +kernel
theorem dX1_combined_102 : decode cX1_combined 102 = .ok (.iconst 1, 1) := by decide +kernel
theorem dX1_combined_103 : decode cX1_combined 103 = .ok (.goto 4, 3) := by decide +kernel
theorem dX1_combined_106 : decode cX1_combined 106 = .ok (.iconst 0, 1) := by decide +kernel
theorem dX1_combined_107 : decode cX1_combined 107 = .ok (.ireturn, 1) := by decide +kernel
theorem dX1_combined_108 : decode cX1_combined 108 = .ok (.iload_n 1, 1) := by decide +kernel
theorem dX1_combined_109 : decode cX1_combined 109 = .ok (.iload_n 2, 1) := by decide +kernel
theorem dX1_combined_110 : decode cX1_combined 110 = .ok (.iand, 1) := by decide +kernel
theorem dX1_combined_111 : decode cX1_combined 111 = .ok (.ireturn, 1) := by decide +kernel
theorem dX1_combined_112 : decode cX1_combined 112 = .ok (.iload_n 1, 1) := by decide +kernel
theorem dX1_combined_113 : decode cX1_combined 113 = .ok (.iload_n 2, 1) := by decide +kernel
theorem dX1_combined_114 : decode cX1_combined 114 = .ok (.ior, 1) := by decide +kernel
theorem dX1_combined_115 : decode cX1_combined 115 = .ok (.ireturn, 1) := by decide +kernel
theorem dX1_combined_116 : decode cX1_combined 116 = .ok (.iload_n 1, 1) := by decide +kernel
theorem dX1_combined_117 : decode cX1_combined 117 = .ok (.iload_n 2, 1) := by decide +kernel
theorem dX1_combined_118 : decode cX1_combined 118 = .ok (.ixor, 1) := by decide +kernel
theorem dX1_combined_119 : decode cX1_combined 119 = .ok (.ireturn, 1) := by decide +kernel
theorem dX2_init_0 : decode cX2_init 0 = .ok (.aload_n 0, 1) := by decide +kernel
theorem dX2_init_1 : decode cX2_init 1 = .ok (.invokespecial 3, 3) := by decide +kernel
theorem dX2_init_4 : decode cX2_init 4 = .ok (.aload_n 0, 1) := by decide +kernel
theorem dX2_init_5 : decode cX2_init 5 = .ok (.iconst 0, 1) := by decide +kernel
theorem dX2_init_6 : decode cX2_init 6 = .ok (.putfield 9, 3) := by decide +kernel
theorem dX2_init_9 : decode cX2_init 9 = .ok (.aload_n 0, 1) := by decide +kernel
theorem dX2_init_10 : decode cX2_init 10 = .ok (.iconst 0, 1) := by decide +kernel
theorem dX2_init_11 : decode cX2_init 11 = .ok (.putfield 15, 3) := by decide +kernel
theorem dX2_init_14 : decode cX2_init 14 = .ok (.aload_n 0, 1) := by decide +kernel
theorem dX2_init_15 : decode cX2_init 15 = .ok (.bipush 60, 2) := by decide +kernel
theorem dX2_init_17 : decode cX2_init 17 = .ok (.newarray .int, 2) := by decide +kernel
theorem dX2_init_19 : decode cX2_init 19 = .ok (.putfield 18, 3) := by decide +kernel
theorem dX2_init_22 : decode cX2_init 22 = .ok (.aload_n 0, 1) := by decide +kernel
theorem dX2_init_23 : decode cX2_init 23 = .ok (.bipush 60, 2) := by decide +kernel
theorem dX2_init_25 : decode cX2_init 25 = .ok (.newarray .int, 2) := by decide +kernel
theorem dX2_init_27 : decode cX2_init 27 = .ok (.putfield 22, 3) := by decide +kernel
theorem dX2_init_30 : decode cX2_init 30 = .ok (.aload_n 0, 1) := by decide +kernel
theorem dX2_init_31 : decode cX2_init 31 = .ok (.bipush 24, 2) := by decide +kernel
theorem dX2_init_33 : decode cX2_init 33 = .ok (.newarray .int, 2) := by decide +kernel
theorem dX2_init_35 : decode cX2_init 35 = .ok (.putfield 25, 3) := by decide +kernel
theorem dX2_init_38 : decode cX2_init 38 = .ok (.aload_n 0, 1) := by decide +kernel
theorem dX2_init_39 : decode cX2_init 39 = .ok (.bipush 24, 2) := by decide +kernel
theorem dX2_init_41 : decode cX2_init 41 = .ok (.newarray .int, 2) := by decide +kernel
theorem dX2_init_43 : decode cX2_init 43 = .ok (.putfield 28, 3) := by decide +kernel
theorem dX2_init_46 : decode cX2_init 46 = .ok (.aload_n 0, 1) := by decide +kernel
theorem dX2_init_47 : decode cX2_init 47 = .ok (.sipush 576, 3) := by decide +kernel
theorem dX2_init_50 : decode cX2_init 50 = .ok (.newarray .int, 2) := by decide +kernel
theorem dX2_init_52 : decode cX2_init 52 = .ok (.putfield 31, 3) := by decide +kernel
theorem dX2_init_55 : decode cX2_init 55 = .ok (.aload_n 0, 1) := by decide +kernel
theorem dX2_init_56 : decode cX2_init 56 = .ok (.sipush 576, 3) := by decide +kernel
theorem dX2_init_59 : decode cX2_init 59 = .ok (.newarray .int, 2) := by decide +kernel
theorem dX2_init_61 : decode cX2_init 61 = .ok (.putfield 34, 3) := by decide +kernel
theorem dX2_init_64 : decode cX2_init 64 = .ok (.return_, 1) := by decide +kernel
theorem dX2_empty_0 : decode cX2_empty 0 = .ok (.aload_n 0, 1) := by decide +kernel
theorem dX2_empty_1 : decode cX2_empty 1 = .ok (.iload_n 1, 1) := by decide +kernel
theorem dX2_empty_2 : decode cX2_empty 2 = .ok (.putfield 9, 3) := by decide +kernel
theorem dX2_empty_5 : decode cX2_empty 5 = .ok (.aload_n 0, 1) := by decide +kernel
theorem dX2_empty_6 : decode cX2_empty 6 = .ok (.iconst 0, 1) := by decide +kernel
theorem dX2_empty_7 : decode cX2_empty 7 = .ok (.putfield 15, 3) := by decide +kernel
theorem dX2_empty_10 : decode cX2_empty 10 = .ok (.aload_n 0, 1) := by decide +kernel
theorem dX2_empty_11 : decode cX2_empty 11 = .ok (.getfield 25, 3) := by decide +kernel
theorem dX2_empty_14 : decode cX2_empty 14 = .ok (.iconst 0, 1) := by decide +kernel
theorem dX2_empty_15 : decode cX2_empty 15 = .ok (.invokestatic 37, 3) := by decide +kernel
theorem dX2_empty_18 : decode cX2_empty 18 = .ok (.aload_n 0, 1) := by decide +kernel
theorem dX2_empty_19 : decode cX2_empty 19 = .ok (.getfield 28, 3) := by decide +kernel
theorem dX2_empty_22 : decode cX2_empty 22 = .ok (.iconst 0, 1) := by decide +kernel
theorem dX2_empty_23 : decode cX2_empty 23 = .ok (.invokestatic 37, 3) := by decide +kernel
theorem dX2_empty_26 : decode cX2_empty 26 = .ok (.return_, 1) := by decide +kernel
theorem dX2_areLinked_0 : decode cX2_areLinked 0 = .ok (.aload_n 0, 1) := by decide +kernel
theorem dX2_areLinked_1 : decode cX2_areLinked 1 = .ok (.getfield 28, 3) := by decide +kernel
theorem dX2_areLinked_4 : decode cX2_areLinked 4 = .ok (.iload_n 1, 1) := by decide +kernel
theorem dX2_areLinked_5 : decode cX2_areLinked 5 = .ok (.iaload, 1) := by decide +kernel
theorem dX2_areLinked_6 : decode cX2_areLinked 6 = .ok (.iload_n 2, 1) := by decide +kernel
theorem dX2_areLinked_7 : decode cX2_areLinked 7 = .ok (.ishr, 1) := by decide +kernel
theorem dX2_areLinked_8 : decode cX2_areLinked 8 = .ok (.iconst 1, 1) := by decide +kernel
theorem dX2_areLinked_9 : decode cX2_areLinked 9 = .ok (.iand, 1) := by decide +kernel
theorem dX2_areLinked_10 : decode cX2_areLinked 10 = .ok (.ifCond .eq 7, 3) := by decide +kernel
theorem dX2_areLinked_13 : decode cX2_areLinked 13 = .ok (.iconst 1, 1) := by decide +kernel
theorem dX2_areLinked_14 : decode cX2_areLinked 14 = .ok (.goto 4, 3) := by decide +kernel
theorem dX2_areLinked_17 : decode cX2_areLinked 17 = .ok (.iconst 0, 1) := by decide +kernel
theorem dX2_areLinked_18 : decode cX2_areLinked 18 = .ok (.ireturn, 1) := by decide +kernel
theorem dX2_join_0 : decode cX2_join 0 = .ok (.aload_n 0, 1) := by decide +kernel
theorem dX2_join_1 : decode cX2_join 1 = .ok (.getfield 18, 3) := by decide +kernel
theorem dX2_join_4 : decode cX2_join 4 = .ok (.aload_n 0, 1) := by decide +kernel
theorem dX2_join_5 : decode cX2_join 5 = .ok (.getfield 15, 3) := by decide +kernel
theorem dX2_join_8 : decode cX2_join 8 = .ok (.iload_n 1, 1) := by decide +kernel
theorem dX2_join_9 : decode cX2_join 9 = .ok (.iastore, 1) := by decide +kernel
theorem dX2_join_10 : decode cX2_join 10 = .ok (.aload_n 0, 1) := by decide +kernel
theorem dX2_join_11 : decode cX2_join 11 = .ok (.getfield 22, 3) := by decide +kernel
theorem dX2_join_14 : decode cX2_join 14 = .ok (.aload_n 0, 1) := by decide +kernel
theorem dX2_join_15 : decode cX2_join 15 = .ok (.getfield 15, 3) := by decide +kernel
theorem dX2_join_18 : decode cX2_join 18 = .ok (.iload_n 2, 1) := by decide +kernel
theorem dX2_join_19 : decode cX2_join 19 = .ok (.iastore, 1) := by decide +kernel
theorem dX2_join_20 : decode cX2_join 20 = .ok (.aload_n 0, 1) := by decide +kernel
theorem dX2_join_21 : decode cX2_join 21 = .ok (.iload_n 1, 1) := by decide +kernel
theorem dX2_join_22 : decode cX2_join 22 = .ok (.iload_n 2, 1) := by decide +kernel
theorem dX2_join_23 : decode cX2_join 23 = .ok (.invokevirtual 43, 3) := by decide +kernel
theorem dX2_join_26 : decode cX2_join 26 = .ok (.aload_n 0, 1) := by decide +kernel
theorem dX2_join_27 : decode cX2_join 27 = .ok (.iload_n 2, 1) := by decide +kernel
theorem dX2_join_28 : decode cX2_join 28 = .ok (.iload_n 1, 1) := by decide +kernel
theorem dX2_join_29 : decode cX2_join 29 = .ok (.invokevirtual 43, 3) := by decide +kernel
theorem dX2_join_32 : decode cX2_join 32 = .ok (.aload_n 0, 1) := by decide +kernel
theorem dX2_join_33 : decode cX2_join 33 = .ok (.dup, 1) := by decide +kernel
theorem dX2_join_34 : decode cX2_join 34 = .ok (.getfield 15, 3) := by decide +kernel
theorem dX2_join_37 : decode cX2_join 37 = .ok (.iconst 1, 1) := by decide +kernel
theorem dX2_join_38 : decode cX2_join 38 = .ok (.iadd, 1) := by decide +kernel
theorem dX2_join_39 : decode cX2_join 39 = .ok (.putfield 15, 3) := by decide +kernel
theorem dX2_join_42 : decode cX2_join 42 = .ok (.aload_n 0, 1) := by decide +kernel
theorem dX2_join_43 : decode cX2_join 43 = .ok (.getfield 15, 3) := by decide +kernel
theorem dX2_join_46 : decode cX2_join 46 = .ok (.iconst 1, 1) := by decide +kernel
theorem dX2_join_47 : decode cX2_join 47 = .ok (.isub, 1) := by decide +kernel
theorem dX2_join_48 : decode cX2_join 48 = .ok (.ireturn, 1) := by decide +kernel
theorem dX2_addPort_0 : decode cX2_addPort 0 = .ok (.aload_n 0, 1) := by decide +kernel
theorem dX2_addPort_1 : decode cX2_addPort 1 = .ok (.getfield 31, 3) := by decide +kernel
theorem dX2_addPort_4 : decode cX2_addPort 4 = .ok (.iload_n 1, 1) := by decide +kernel
theorem dX2_addPort_5 : decode cX2_addPort 5 = .ok (.bipush 24, 2) := by decide +kernel
theorem dX2_addPort_7 : decode cX2_addPort 7 = .ok (.imul, 1) := by decide +kernel
theorem dX2_addPort_8 : decode cX2_addPort 8 = .ok (.aload_n 0, 1) := by decide +kernel
theorem dX2_addPort_9 : decode cX2_addPort 9 = .ok (.getfield 25, 3) := by decide +kernel
theorem dX2_addPort_12 : decode cX2_addPort 12 = .ok (.iload_n 1, 1) := by decide +kernel
theorem dX2_addPort_13 : decode cX2_addPort 13 = .ok (.iaload, 1) := by decide +kernel
theorem dX2_addPort_14 : decode cX2_addPort 14 = .ok (.iadd, 1) := by decide +kernel
theorem dX2_addPort_15 : decode cX2_addPort 15 = .ok (.iload_n 2, 1) := by decide +kernel
theorem dX2_addPort_16 : decode cX2_addPort 16 = .ok (.iastore, 1) := by decide +kernel
theorem dX2_addPort_17 : decode cX2_addPort 17 = .ok (.aload_n 0, 1) := by decide +kernel
theorem dX2_addPort_18 : decode cX2_addPort 18 = .ok (.getfield 34, 3) := by decide +kernel
theorem dX2_addPort_21 : decode cX2_addPort 21 = .ok (.iload_n 1, 1) := by decide +kernel
theorem dX2_addPort_22 : decode cX2_addPort 22 = .ok (.bipush 24, 2) := by decide +kernel
theorem dX2_addPort_24 : decode cX2_addPort 24 = .ok (.imul, 1) := by decide +kernel
theorem dX2_addPort_25 : decode cX2_addPort 25 = .ok (.iload_n 2, 1) := by decide +kernel
theorem dX2_addPort_26 : decode cX2_addPort 26 = .ok (.iadd, 1) := by decide +kernel
theorem dX2_addPort_27 : decode cX2_addPort 27 = .ok (.aload_n 0, 1) := by decide +kernel
theorem dX2_addPort_28 : decode cX2_addPort 28 = .ok (.getfield 25, 3) := by decide +kernel
theorem dX2_addPort_31 : decode cX2_addPort 31 = .ok (.iload_n 1, 1) := by decide +kernel
theorem dX2_addPort_32 : decode cX2_addPort 32 = .ok (.iaload, 1) := by decide +kernel
theorem dX2_addPort_33 : decode cX2_addPort 33 = .ok (.iastore, 1) := by decide +kernel
theorem dX2_addPort_34 : decode cX2_addPort 34 = .ok (.aload_n 0, 1) := by decide +kernel
theorem dX2_addPort_35 : decode cX2_addPort 35 = .ok (.getfield 28, 3) := by decide +kernel
theorem dX2_addPort_38 : decode cX2_addPort 38 = .ok (.iload_n 1, 1) := by decide +kernel
theorem dX2_addPort_39 : decode cX2_addPort 39 = .ok (.dup2, 1) := by decide +kernel
theorem dX2_addPort_40 : decode cX2_addPort 40 = .ok (.iaload, 1) := by decide +kernel
theorem dX2_addPort_41 : decode cX2_addPort 41 = .ok (.iconst 1, 1) := by decide +kernel
theorem dX2_addPort_42 : decode cX2_addPort 42 = .ok (.iload_n 2, 1) := by decide +kernel
theorem dX2_addPort_43 : decode cX2_addPort 43 = .ok (.ishl, 1) := by decide +kernel
theorem dX2_addPort_44 : decode cX2_addPort 44 = .ok (.ior, 1) := by decide +kernel
theorem dX2_addPort_45 : decode cX2_addPort 45 = .ok (.iastore, 1) := by decide +kernel
theorem dX2_addPort_46 : decode cX2_addPort 46 = .ok (.aload_n 0, 1) := by decide +kernel
theorem dX2_addPort_47 : decode cX2_addPort 47 = .ok (.getfield 25, 3) := by decide +kernel
theorem dX2_addPort_50 : decode cX2_addPort 50 = .ok (.iload_n 1, 1) := by decide +kernel
theorem dX2_addPort_51 : decode cX2_addPort 51 = .ok (.dup2, 1) := by decide +kernel
theorem dX2_addPort_52 : decode cX2_addPort 52 = .ok (.iaload, 1) := by decide +kernel
theorem dX2_addPort_53 : decode cX2_addPort 53 = .ok (.iconst 1, 1) := by decide +kernel
theorem dX2_addPort_54 : decode cX2_addPort 54 = .ok (.iadd, 1) := by decide +kernel
theorem dX2_addPort_55 : decode cX2_addPort 55 = .ok (.iastore, 1) := by decide +kernel
theorem dX2_addPort_56 : decode cX2_addPort 56 = .ok (.return_, 1) := by decide +kernel
theorem dX2_nextTo_0 : decode cX2_nextTo 0 = .ok (.iconst 0, 1) := by decide +kernel
theorem dX2_nextTo_1 : decode cX2_nextTo 1 = .ok (.istore_n 2, 1) := by decide +kernel
theorem dX2_nextTo_2 : decode cX2_nextTo 2 = .ok (.iconst 0, 1) := by decide +kernel
theorem dX2_nextTo_3 : decode cX2_nextTo 3 = .ok (.istore_n 3, 1) := by decide +kernel
theorem dX2_nextTo_4 : decode cX2_nextTo 4 = .ok (.iload_n 3, 1) := by decide +kernel
theorem dX2_nextTo_5 : decode cX2_nextTo 5 = .ok (.aload_n 0, 1) := by decide +kernel
theorem dX2_nextTo_6 : decode cX2_nextTo 6 = .ok (.getfield 9, 3) := by decide +kernel
theorem dX2_nextTo_9 : decode cX2_nextTo 9 = .ok (.if_icmp .ge 26, 3) := by decide +kernel
theorem dX2_nextTo_12 : decode cX2_nextTo 12 = .ok (.iload_n 1, 1) := by decide +kernel
theorem dX2_nextTo_13 : decode cX2_nextTo 13 = .ok (.iload_n 3, 1) := by decide +kernel
theorem dX2_nextTo_14 : decode cX2_nextTo 14 = .ok (.ishr, 1) := by decide +kernel
theorem dX2_nextTo_15 : decode cX2_nextTo 15 = .ok (.iconst 1, 1) := by decide +kernel
theorem dX2_nextTo_16 : decode cX2_nextTo 16 = .ok (.iand, 1) := by decide +kernel
theorem dX2_nextTo_17 : decode cX2_nextTo 17 = .ok (.ifCond .eq 12, 3) := by decide +kernel
theorem dX2_nextTo_20 : decode cX2_nextTo 20 = .ok (.iload_n 2, 1) := by decide +kernel
theorem dX2_nextTo_21 : decode cX2_nextTo 21 = .ok (.aload_n 0, 1) := by decide +kernel
theorem dX2_nextTo_22 : decode cX2_nextTo 22 = .ok (.getfield 28, 3) := by decide +kernel
theorem dX2_nextTo_25 : decode cX2_nextTo 25 = .ok (.iload_n 3, 1) := by decide +kernel
theorem dX2_nextTo_26 : decode cX2_nextTo 26 = .ok (.iaload, 1) := by decide +kernel
theorem dX2_nextTo_27 : decode cX2_nextTo 27 = .ok (.ior, 1) := by decide +kernel
theorem dX2_nextTo_28 : decode cX2_nextTo 28 = .ok (.istore_n 2, 1) := by decide +kernel
theorem dX2_nextTo_29 : decode cX2_nextTo 29 = .ok (.iinc 3 1, 3) := by decide +kernel
theorem dX2_nextTo_32 : decode cX2_nextTo 32 = .ok (.goto (-28), 3) := by decide +kernel
theorem dX2_nextTo_35 : decode cX2_nextTo 35 = .ok (.iload_n 2, 1) := by decide +kernel
theorem dX2_nextTo_36 : decode cX2_nextTo 36 = .ok (.iload_n 1, 1) := by decide +kernel
theorem dX2_nextTo_37 : decode cX2_nextTo 37 = .ok (.iconst (-1), 1) := by decide +kernel
theorem dX2_nextTo_38 : decode cX2_nextTo 38 = .ok (.ixor, 1) := by decide +kernel
theorem dX2_nextTo_39 : decode cX2_nextTo 39 = .ok (.iand, 1) := by decide +kernel
theorem dX2_nextTo_40 : decode cX2_nextTo 40 = .ok (.ireturn, 1) := by decide +kernel
theorem dX2_allNodes_0 : decode cX2_allNodes 0 = .ok (.iconst 1, 1) := by decide +kernel
theorem dX2_allNodes_1 : decode cX2_allNodes 1 = .ok (.aload_n 0, 1) := by decide +kernel
theorem dX2_allNodes_2 : decode cX2_allNodes 2 = .ok (.getfield 9, 3) := by decide +kernel
theorem dX2_allNodes_5 : decode cX2_allNodes 5 = .ok (.ishl, 1) := by decide +kernel
theorem dX2_allNodes_6 : decode cX2_allNodes 6 = .ok (.iconst 1, 1) := by decide +kernel
theorem dX2_allNodes_7 : decode cX2_allNodes 7 = .ok (.isub, 1) := by decide +kernel
theorem dX2_allNodes_8 : decode cX2_allNodes 8 = .ok (.ireturn, 1) := by decide +kernel
theorem dX2_isConnected_0 : decode cX2_isConnected 0 = .ok (.iconst 1, 1) := by decide +kernel
theorem dX2_isConnected_1 : decode cX2_isConnected 1 = .ok (.istore_n 1, 1) := by decide +kernel
theorem dX2_isConnected_2 : decode cX2_isConnected 2 = .ok (.iconst 1, 1) := by decide +kernel
theorem dX2_isConnected_3 : decode cX2_isConnected 3 = .ok (.istore_n 2, 1) := by decide +kernel
theorem dX2_isConnected_4 : decode cX2_isConnected 4 = .ok (.iload_n 2, 1) := by decide +kernel
theorem dX2_isConnected_5 : decode cX2_isConnected 5 = .ok (.aload_n 0, 1) := by decide +kernel
theorem dX2_isConnected_6 : decode cX2_isConnected 6 = .ok (.getfield 9, 3) := by decide +kernel
theorem dX2_isConnected_9 : decode cX2_isConnected 9 = .ok (.if_icmp .ge 17, 3) := by decide +kernel
theorem dX2_isConnected_12 : decode cX2_isConnected 12 = .ok (.iload_n 1, 1) := by decide +kernel
theorem dX2_isConnected_13 : decode cX2_isConnected 13 = .ok (.aload_n 0, 1) := by decide +kernel
theorem dX2_isConnected_14 : decode cX2_isConnected 14 = .ok (.iload_n 1, 1) := by decide +kernel
theorem dX2_isConnected_15 : decode cX2_isConnected 15 = .ok (.invokevirtual 47, 3) := by decide +kernel
theorem dX2_isConnected_18 : decode cX2_isConnected 18 = .ok (.ior, 1) := by decide +kernel
theorem dX2_isConnected_19 : decode cX2_isConnected 19 = .ok (.istore_n 1, 1) := by decide +kernel
theorem dX2_isConnected_20 : decode cX2_isConnected 20 = .ok (.iinc 2 1, 3) := by decide +kernel
theorem dX2_isConnected_23 : decode cX2_isConnected 23 = .ok (.goto (-19), 3) := by decide +kernel
theorem dX2_isConnected_26 : decode cX2_isConnected 26 = .ok (.aload_n 0, 1) := by decide +kernel
theorem dX2_isConnected_27 : decode cX2_isConnected 27 = .ok (.getfield 9, 3) := by decide +kernel
theorem dX2_isConnected_30 : decode cX2_isConnected 30 = .ok (.ifCond .le 15, 3) := by decide +kernel
theorem dX2_isConnected_33 : decode cX2_isConnected 33 = .ok (.iload_n 1, 1) := by decide +kernel
theorem dX2_isConnected_34 : decode cX2_isConnected 34 = .ok (.aload_n 0, 1) := by decide +kernel
theorem dX2_isConnected_35 : decode cX2_isConnected 35 = .ok (.invokevirtual 51, 3) := by decide +kernel
theorem dX2_isConnected_38 : decode cX2_isConnected 38 = .ok (.if_icmp .ne 7, 3) := by decide +kernel
theorem dX2_isConnected_41 : decode cX2_isConnected 41 = .ok (.iconst 1, 1) := by decide +kernel
theorem dX2_isConnected_42 : decode cX2_isConnected 42 = .ok (.goto 4, 3) := by decide +kernel
theorem dX2_isConnected_45 : decode cX2_isConnected 45 = .ok (.iconst 0, 1) := by decide +kernel
theorem dX2_isConnected_46 : decode cX2_isConnected 46 = .ok (.ireturn, 1) := by decide +kernel
theorem dX3_init_0 : decode cX3_init 0 = .ok (.aload_n 0, 1) := by decide +kernel
theorem dX3_init_1 : decode cX3_init 1 = .ok (.invokespecial 3, 3) := by decide +kernel
theorem dX3_init_4 : decode cX3_init 4 = .ok (.aload_n 0, 1) := by decide +kernel
theorem dX3_init_5 : decode cX3_init 5 = .ok (.iconst 5, 1) := by decide +kernel
theorem dX3_init_6 : decode cX3_init 6 = .ok (.sipush 512, 3) := by decide +kernel
theorem dX3_init_9 : decode cX3_init 9 = .ok (.multianewarray 11 2, 4) := by decide +kernel
theorem dX3_init_13 : decode cX3_init 13 = .ok (.putfield 13, 3) := by decide +kernel
theorem dX3_init_16 : decode cX3_init 16 = .ok (.aload_n 0, 1) := by decide +kernel
theorem dX3_init_17 : decode cX3_init 17 = .ok (.iconst 3, 1) := by decide +kernel
theorem dX3_init_18 : decode cX3_init 18 = .ok (.newarray .int, 2) := by decide +kernel
theorem dX3_init_20 : decode cX3_init 20 = .ok (.putfield 16, 3) := by decide +kernel
theorem dX3_init_23 : decode cX3_init 23 = .ok (.aload_n 0, 1) := by decide +kernel
theorem dX3_init_24 : decode cX3_init 24 = .ok (.iconst 0, 1) := by decide +kernel
theorem dX3_init_25 : decode cX3_init 25 = .ok (.putfield 20, 3) := by decide +kernel
theorem dX3_init_28 : decode cX3_init 28 = .ok (.return_, 1) := by decide +kernel
theorem dX3_empty_0 : decode cX3_empty 0 = .ok (.aload_n 0, 1) := by decide +kernel
theorem dX3_empty_1 : decode cX3_empty 1 = .ok (.iconst 0, 1) := by decide +kernel
theorem dX3_empty_2 : decode cX3_empty 2 = .ok (.putfield 20, 3) := by decide +kernel
theorem dX3_empty_5 : decode cX3_empty 5 = .ok (.aload_n 0, 1) := by decide +kernel
theorem dX3_empty_6 : decode cX3_empty 6 = .ok (.getfield 16, 3) := by decide +kernel
theorem dX3_empty_9 : decode cX3_empty 9 = .ok (.iconst 0, 1) := by decide +kernel
theorem dX3_empty_10 : decode cX3_empty 10 = .ok (.invokestatic 24, 3) := by decide +kernel
theorem dX3_empty_13 : decode cX3_empty 13 = .ok (.return_, 1) := by decide +kernel
theorem dX3_send_0 : decode cX3_send 0 = .ok (.aload_n 0, 1) := by decide +kernel
theorem dX3_send_1 : decode cX3_send 1 = .ok (.getfield 20, 3) := by decide +kernel
theorem dX3_send_4 : decode cX3_send 4 = .ok (.sipush 512, 3) := by decide +kernel
theorem dX3_send_7 : decode cX3_send 7 = .ok (.if_icmp .lt 4, 3) := by decide +kernel
theorem dX3_send_10 : decode cX3_send 10 = .ok (.return_, 1) := by decide +kernel
theorem dX3_send_11 : decode cX3_send 11 = .ok (.aload_n 0, 1) := by decide +kernel
theorem dX3_send_12 : decode cX3_send 12 = .ok (.getfield 13, 3) := by decide +kernel
theorem dX3_send_15 : decode cX3_send 15 = .ok (.iconst 0, 1) := by decide +kernel
theorem dX3_send_16 : decode cX3_send 16 = .ok (.aaload, 1) := by decide +kernel
theorem dX3_send_17 : decode cX3_send 17 = .ok (.aload_n 0, 1) := by decide +kernel
theorem dX3_send_18 : decode cX3_send 18 = .ok (.getfield 20, 3) := by decide +kernel
theorem dX3_send_21 : decode cX3_send 21 = .ok (.iload_n 1, 1) := by decide +kernel
theorem dX3_send_22 : decode cX3_send 22 = .ok (.iastore, 1) := by decide +kernel
theorem dX3_send_23 : decode cX3_send 23 = .ok (.aload_n 0, 1) := by decide +kernel
theorem dX3_send_24 : decode cX3_send 24 = .ok (.getfield 13, 3) := by decide +kernel
theorem dX3_send_27 : decode cX3_send 27 = .ok (.iconst 1, 1) := by decide +kernel
theorem dX3_send_28 : decode cX3_send 28 = .ok (.aaload, 1) := by decide +kernel
theorem dX3_send_29 : decode cX3_send 29 = .ok (.aload_n 0, 1) := by decide +kernel
theorem dX3_send_30 : decode cX3_send 30 = .ok (.getfield 20, 3) := by decide +kernel
theorem dX3_send_33 : decode cX3_send 33 = .ok (.iload_n 2, 1) := by decide +kernel
theorem dX3_send_34 : decode cX3_send 34 = .ok (.iastore, 1) := by decide +kernel
theorem dX3_send_35 : decode cX3_send 35 = .ok (.aload_n 0, 1) := by decide +kernel
theorem dX3_send_36 : decode cX3_send 36 = .ok (.getfield 13, 3) := by decide +kernel
theorem dX3_send_39 : decode cX3_send 39 = .ok (.iconst 2, 1) := by decide +kernel
theorem dX3_send_40 : decode cX3_send 40 = .ok (.aaload, 1) := by decide +kernel
theorem dX3_send_41 : decode cX3_send 41 = .ok (.aload_n 0, 1) := by decide +kernel
theorem dX3_send_42 : decode cX3_send 42 = .ok (.getfield 20, 3) := by decide +kernel
theorem dX3_send_45 : decode cX3_send 45 = .ok (.iload_n 3, 1) := by decide +kernel
theorem dX3_send_46 : decode cX3_send 46 = .ok (.iastore, 1) := by decide +kernel
theorem dX3_send_47 : decode cX3_send 47 = .ok (.aload_n 0, 1) := by decide +kernel
theorem dX3_send_48 : decode cX3_send 48 = .ok (.getfield 13, 3) := by decide +kernel
theorem dX3_send_51 : decode cX3_send 51 = .ok (.iconst 3, 1) := by decide +kernel
theorem dX3_send_52 : decode cX3_send 52 = .ok (.aaload, 1) := by decide +kernel
theorem dX3_send_53 : decode cX3_send 53 = .ok (.aload_n 0, 1) := by decide +kernel
theorem dX3_send_54 : decode cX3_send 54 = .ok (.getfield 20, 3) := by decide +kernel
theorem dX3_send_57 : decode cX3_send 57 = .ok (.iload 4, 2) := by decide +kernel
theorem dX3_send_59 : decode cX3_send 59 = .ok (.iastore, 1) := by decide +kernel
theorem dX3_send_60 : decode cX3_send 60 = .ok (.aload_n 0, 1) := by decide +kernel
theorem dX3_send_61 : decode cX3_send 61 = .ok (.getfield 13, 3) := by decide +kernel
theorem dX3_send_64 : decode cX3_send 64 = .ok (.iconst 4, 1) := by decide +kernel
theorem dX3_send_65 : decode cX3_send 65 = .ok (.aaload, 1) := by decide +kernel
theorem dX3_send_66 : decode cX3_send 66 = .ok (.aload_n 0, 1) := by decide +kernel
theorem dX3_send_67 : decode cX3_send 67 = .ok (.getfield 20, 3) := by decide +kernel
theorem dX3_send_70 : decode cX3_send 70 = .ok (.iload 5, 2) := by decide +kernel
theorem dX3_send_72 : decode cX3_send 72 = .ok (.iastore, 1) := by decide +kernel
theorem dX3_send_73 : decode cX3_send 73 = .ok (.aload_n 0, 1) := by decide +kernel
theorem dX3_send_74 : decode cX3_send 74 = .ok (.dup, 1) := by decide +kernel
theorem dX3_send_75 : decode cX3_send 75 = .ok (.getfield 20, 3) := by decide +kernel
theorem dX3_send_78 : decode cX3_send 78 = .ok (.iconst 1, 1) := by decide +kernel
theorem dX3_send_79 : decode cX3_send 79 = .ok (.iadd, 1) := by decide +kernel
theorem dX3_send_80 : decode cX3_send 80 = .ok (.putfield 20, 3) := by decide +kernel
theorem dX3_send_83 : decode cX3_send 83 = .ok (.aload_n 0, 1) := by decide +kernel
theorem dX3_send_84 : decode cX3_send 84 = .ok (.getfield 16, 3) := by decide +kernel
theorem dX3_send_87 : decode cX3_send 87 = .ok (.iload_n 1, 1) := by decide +kernel
theorem dX3_send_88 : decode cX3_send 88 = .ok (.iconst 2, 1) := by decide +kernel
theorem dX3_send_89 : decode cX3_send 89 = .ok (.if_icmp .ge 7, 3) := by decide +kernel
theorem dX3_send_92 : decode cX3_send 92 = .ok (.iload_n 1, 1) := by decide +kernel
theorem dX3_send_93 : decode cX3_send 93 = .ok (.goto 4, 3) := by decide +kernel
theorem dX3_send_96 : decode cX3_send 96 = .ok (.iconst 2, 1) := by decide +kernel
theorem dX3_send_97 : decode cX3_send 97 = .ok (.dup2, 1) := by decide +kernel
theorem dX3_send_98 : decode cX3_send 98 = .ok (.iaload, 1) := by decide +kernel
theorem dX3_send_99 : decode cX3_send 99 = .ok (.iconst 1, 1) := by decide +kernel
theorem dX3_send_100 : decode cX3_send 100 = .ok (.iadd, 1) := by decide +kernel
theorem dX3_send_101 : decode cX3_send 101 = .ok (.iastore, 1) := by decide +kernel
theorem dX3_send_102 : decode cX3_send 102 = .ok (.return_, 1) := by decide +kernel
theorem dX3_remove_0 : decode cX3_remove 0 = .ok (.aload_n 0, 1) := by decide +kernel
theorem dX3_remove_1 : decode cX3_remove 1 = .ok (.dup, 1) := by decide +kernel
theorem dX3_remove_2 : decode cX3_remove 2 = .ok (.getfield 20, 3) := by decide +kernel
theorem dX3_remove_5 : decode cX3_remove 5 = .ok (.iconst 1, 1) := by decide +kernel
theorem dX3_remove_6 : decode cX3_remove 6 = .ok (.isub, 1) := by decide +kernel
theorem dX3_remove_7 : decode cX3_remove 7 = .ok (.putfield 20, 3) := by decide +kernel
theorem dX3_remove_10 : decode cX3_remove 10 = .ok (.iconst 0, 1) := by decide +kernel
theorem dX3_remove_11 : decode cX3_remove 11 = .ok (.istore_n 2, 1) := by decide +kernel
theorem dX3_remove_12 : decode cX3_remove 12 = .ok (.iload_n 2, 1) := by decide +kernel
theorem dX3_remove_13 : decode cX3_remove 13 = .ok (.iconst 5, 1) := by decide +kernel
theorem dX3_remove_14 : decode cX3_remove 14 = .ok (.if_icmp .ge 34, 3) := by decide +kernel
theorem dX3_remove_17 : decode cX3_remove 17 = .ok (.aload_n 0, 1) := by decide +kernel
theorem dX3_remove_18 : decode cX3_remove 18 = .ok (.getfield 13, 3) := by decide +kernel
theorem dX3_remove_21 : decode cX3_remove 21 = .ok (.iload_n 2, 1) := by decide +kernel
theorem dX3_remove_22 : decode cX3_remove 22 = .ok (.aaload, 1) := by decide +kernel
theorem dX3_remove_23 : decode cX3_remove 23 = .ok (.iload_n 1, 1) := by decide +kernel
theorem dX3_remove_24 : decode cX3_remove 24 = .ok (.iconst 1, 1) := by decide +kernel
theorem dX3_remove_25 : decode cX3_remove 25 = .ok (.iadd, 1) := by decide +kernel
theorem dX3_remove_26 : decode cX3_remove 26 = .ok (.aload_n 0, 1) := by decide +kernel
theorem dX3_remove_27 : decode cX3_remove 27 = .ok (.getfield 13, 3) := by decide +kernel
theorem dX3_remove_30 : decode cX3_remove 30 = .ok (.iload_n 2, 1) := by decide +kernel
theorem dX3_remove_31 : decode cX3_remove 31 = .ok (.aaload, 1) := by decide +kernel
theorem dX3_remove_32 : decode cX3_remove 32 = .ok (.iload_n 1, 1) := by decide +kernel
theorem dX3_remove_33 : decode cX3_remove 33 = .ok (.aload_n 0, 1) := by decide +kernel
theorem dX3_remove_34 : decode cX3_remove 34 = .ok (.getfield 20, 3) := by decide +kernel
theorem dX3_remove_37 : decode cX3_remove 37 = .ok (.iload_n 1, 1) := by decide +kernel
theorem dX3_remove_38 : decode cX3_remove 38 = .ok (.isub, 1) := by decide +kernel
theorem dX3_remove_39 : decode cX3_remove 39 = .ok (.invokestatic 30, 3) := by decide +kernel
theorem dX3_remove_42 : decode cX3_remove 42 = .ok (.iinc 2 1, 3) := by decide +kernel
theorem dX3_remove_45 : decode cX3_remove 45 = .ok (.goto (-33), 3) := by decide +kernel
theorem dX3_remove_48 : decode cX3_remove 48 = .ok (.return_, 1) := by decide +kernel
theorem dX6_init_0 : decode cX6_init 0 = .ok (.aload_n 0, 1) := by decide +kernel
theorem dX6_init_1 : decode cX6_init 1 = .ok (.invokespecial 3, 3) := by decide +kernel
theorem dX6_init_4 : decode cX6_init 4 = .ok (.aload_n 0, 1) := by decide +kernel
theorem dX6_init_5 : decode cX6_init 5 = .ok (.bipush 24, 2) := by decide +kernel
theorem dX6_init_7 : decode cX6_init 7 = .ok (.newarray .int, 2) := by decide +kernel
theorem dX6_init_9 : decode cX6_init 9 = .ok (.putfield 9, 3) := by decide +kernel
theorem dX6_init_12 : decode cX6_init 12 = .ok (.aload_n 0, 1) := by decide +kernel
theorem dX6_init_13 : decode cX6_init 13 = .ok (.bipush 24, 2) := by decide +kernel
theorem dX6_init_15 : decode cX6_init 15 = .ok (.newarray .int, 2) := by decide +kernel
theorem dX6_init_17 : decode cX6_init 17 = .ok (.putfield 15, 3) := by decide +kernel
theorem dX6_init_20 : decode cX6_init 20 = .ok (.aload_n 0, 1) := by decide +kernel
theorem dX6_init_21 : decode cX6_init 21 = .ok (.bipush 24, 2) := by decide +kernel
theorem dX6_init_23 : decode cX6_init 23 = .ok (.newarray .int, 2) := by decide +kernel
theorem dX6_init_25 : decode cX6_init 25 = .ok (.putfield 18, 3) := by decide +kernel
theorem dX6_init_28 : decode cX6_init 28 = .ok (.return_, 1) := by decide +kernel
theorem dX6_plant_0 : decode cX6_plant 0 = .ok (.aload_n 0, 1) := by decide +kernel
theorem dX6_plant_1 : decode cX6_plant 1 = .ok (.getfield 9, 3) := by decide +kernel
theorem dX6_plant_4 : decode cX6_plant 4 = .ok (.iload_n 1, 1) := by decide +kernel
theorem dX6_plant_5 : decode cX6_plant 5 = .ok (.iconst (-1), 1) := by decide +kernel
theorem dX6_plant_6 : decode cX6_plant 6 = .ok (.iastore, 1) := by decide +kernel
theorem dX6_plant_7 : decode cX6_plant 7 = .ok (.aload_n 0, 1) := by decide +kernel
theorem dX6_plant_8 : decode cX6_plant 8 = .ok (.getfield 15, 3) := by decide +kernel
theorem dX6_plant_11 : decode cX6_plant 11 = .ok (.iload_n 1, 1) := by decide +kernel
theorem dX6_plant_12 : decode cX6_plant 12 = .ok (.iconst 0, 1) := by decide +kernel
theorem dX6_plant_13 : decode cX6_plant 13 = .ok (.iastore, 1) := by decide +kernel
theorem dX6_plant_14 : decode cX6_plant 14 = .ok (.aload_n 0, 1) := by decide +kernel
theorem dX6_plant_15 : decode cX6_plant 15 = .ok (.getfield 18, 3) := by decide +kernel
theorem dX6_plant_18 : decode cX6_plant 18 = .ok (.iload_n 1, 1) := by decide +kernel
theorem dX6_plant_19 : decode cX6_plant 19 = .ok (.iconst 0, 1) := by decide +kernel
theorem dX6_plant_20 : decode cX6_plant 20 = .ok (.iastore, 1) := by decide +kernel
theorem dX6_plant_21 : decode cX6_plant 21 = .ok (.return_, 1) := by decide +kernel
theorem dX6_hang_0 : decode cX6_hang 0 = .ok (.aload_n 0, 1) := by decide +kernel
theorem dX6_hang_1 : decode cX6_hang 1 = .ok (.getfield 9, 3) := by decide +kernel
theorem dX6_hang_4 : decode cX6_hang 4 = .ok (.iload_n 1, 1) := by decide +kernel
theorem dX6_hang_5 : decode cX6_hang 5 = .ok (.iload_n 2, 1) := by decide +kernel
theorem dX6_hang_6 : decode cX6_hang 6 = .ok (.iastore, 1) := by decide +kernel
theorem dX6_hang_7 : decode cX6_hang 7 = .ok (.aload_n 0, 1) := by decide +kernel
theorem dX6_hang_8 : decode cX6_hang 8 = .ok (.getfield 15, 3) := by decide +kernel
theorem dX6_hang_11 : decode cX6_hang 11 = .ok (.iload_n 1, 1) := by decide +kernel
theorem dX6_hang_12 : decode cX6_hang 12 = .ok (.aload_n 0, 1) := by decide +kernel
theorem dX6_hang_13 : decode cX6_hang 13 = .ok (.getfield 15, 3) := by decide +kernel
theorem dX6_hang_16 : decode cX6_hang 16 = .ok (.iload_n 2, 1) := by decide +kernel
theorem dX6_hang_17 : decode cX6_hang 17 = .ok (.iaload, 1) := by decide +kernel
theorem dX6_hang_18 : decode cX6_hang 18 = .ok (.iconst 1, 1) := by decide +kernel
theorem dX6_hang_19 : decode cX6_hang 19 = .ok (.iadd, 1) := by decide +kernel
theorem dX6_hang_20 : decode cX6_hang 20 = .ok (.iastore, 1) := by decide +kernel
theorem dX6_hang_21 : decode cX6_hang 21 = .ok (.aload_n 0, 1) := by decide +kernel
theorem dX6_hang_22 : decode cX6_hang 22 = .ok (.getfield 18, 3) := by decide +kernel
theorem dX6_hang_25 : decode cX6_hang 25 = .ok (.iload_n 1, 1) := by decide +kernel
theorem dX6_hang_26 : decode cX6_hang 26 = .ok (.iconst 0, 1) := by decide +kernel
theorem dX6_hang_27 : decode cX6_hang 27 = .ok (.iastore, 1) := by decide +kernel
theorem dX6_hang_28 : decode cX6_hang 28 = .ok (.aload_n 0, 1) := by decide +kernel
theorem dX6_hang_29 : decode cX6_hang 29 = .ok (.getfield 18, 3) := by decide +kernel
theorem dX6_hang_32 : decode cX6_hang 32 = .ok (.iload_n 2, 1) := by decide +kernel
theorem dX6_hang_33 : decode cX6_hang 33 = .ok (.dup2, 1) := by decide +kernel
theorem dX6_hang_34 : decode cX6_hang 34 = .ok (.iaload, 1) := by decide +kernel
theorem dX6_hang_35 : decode cX6_hang 35 = .ok (.iconst 1, 1) := by decide +kernel
theorem dX6_hang_36 : decode cX6_hang 36 = .ok (.iload_n 1, 1) := by decide +kernel
theorem dX6_hang_37 : decode cX6_hang 37 = .ok (.ishl, 1) := by decide +kernel
theorem dX6_hang_38 : decode cX6_hang 38 = .ok (.ior, 1) := by decide +kernel
theorem dX6_hang_39 : decode cX6_hang 39 = .ok (.iastore, 1) := by decide +kernel
theorem dX6_hang_40 : decode cX6_hang 40 = .ok (.return_, 1) := by decide +kernel
theorem dX6_grow_0 : decode cX6_grow 0 = .ok (.aload_n 0, 1) := by decide +kernel
theorem dX6_grow_1 : decode cX6_grow 1 = .ok (.iload_n 2, 1) := by decide +kernel
theorem dX6_grow_2 : decode cX6_grow 2 = .ok (.invokevirtual 21, 3) := by decide +kernel
theorem dX6_grow_5 : decode cX6_grow 5 = .ok (.iconst 1, 1) := by decide +kernel
theorem dX6_grow_6 : decode cX6_grow 6 = .ok (.iload_n 2, 1) := by decide +kernel
theorem dX6_grow_7 : decode cX6_grow 7 = .ok (.ishl, 1) := by decide +kernel
theorem dX6_grow_8 : decode cX6_grow 8 = .ok (.istore 5, 2) := by decide +kernel
theorem dX6_grow_10 : decode cX6_grow 10 = .ok (.iload 5, 2) := by decide +kernel
theorem dX6_grow_12 : decode cX6_grow 12 = .ok (.istore 6, 2) := by decide +kernel
theorem dX6_grow_14 : decode cX6_grow 14 = .ok (.iconst 0, 1) := by decide +kernel
theorem dX6_grow_15 : decode cX6_grow 15 = .ok (.istore 7, 2) := by decide +kernel
theorem dX6_grow_17 : decode cX6_grow 17 = .ok (.iload 7, 2) := by decide +kernel
theorem dX6_grow_19 : decode cX6_grow 19 = .ok (.aload_n 1, 1) := by decide +kernel
theorem dX6_grow_20 : decode cX6_grow 20 = .ok (.getfield 25, 3) := by decide +kernel
theorem dX6_grow_23 : decode cX6_grow 23 = .ok (.if_icmp .ge 101, 3) := by decide +kernel
theorem dX6_grow_26 : decode cX6_grow 26 = .ok (.aload_n 1, 1) := by decide +kernel
theorem dX6_grow_27 : decode cX6_grow 27 = .ok (.iload 5, 2) := by decide +kernel
theorem dX6_grow_29 : decode cX6_grow 29 = .ok (.invokevirtual 31, 3) := by decide +kernel
theorem dX6_grow_32 : decode cX6_grow 32 = .ok (.iload_n 3, 1) := by decide +kernel
theorem dX6_grow_33 : decode cX6_grow 33 = .ok (.iand, 1) := by decide +kernel
theorem dX6_grow_34 : decode cX6_grow 34 = .ok (.istore 8, 2) := by decide +kernel
theorem dX6_grow_36 : decode cX6_grow 36 = .ok (.iload 8, 2) := by decide +kernel
theorem dX6_grow_38 : decode cX6_grow 38 = .ok (.ifCond .eq 19, 3) := by decide +kernel
theorem dX6_grow_41 : decode cX6_grow 41 = .ok (.iload 8, 2) := by decide +kernel
theorem dX6_grow_43 : decode cX6_grow 43 = .ok (.invokestatic 35, 3) := by decide +kernel
theorem dX6_grow_46 : decode cX6_grow 46 = .ok (.iload 4, 2) := by decide +kernel
theorem dX6_grow_48 : decode cX6_grow 48 = .ok (.iload 5, 2) := by decide +kernel
theorem dX6_grow_50 : decode cX6_grow 50 = .ok (.invokestatic 35, 3) := by decide +kernel
theorem dX6_grow_53 : decode cX6_grow 53 = .ok (.imul, 1) := by decide +kernel
theorem dX6_grow_54 : decode cX6_grow 54 = .ok (.if_icmp .ge 6, 3) := by decide +kernel
theorem dX6_grow_57 : decode cX6_grow 57 = .ok (.iload 5, 2) := by decide +kernel
theorem dX6_grow_59 : decode cX6_grow 59 = .ok (.ireturn, 1) := by decide +kernel
theorem dX6_grow_60 : decode cX6_grow 60 = .ok (.iconst 0, 1) := by decide +kernel
theorem dX6_grow_61 : decode cX6_grow 61 = .ok (.istore 9, 2) := by decide +kernel
theorem dX6_grow_63 : decode cX6_grow 63 = .ok (.iload 9, 2) := by decide +kernel
theorem dX6_grow_65 : decode cX6_grow 65 = .ok (.aload_n 1, 1) := by decide +kernel
theorem dX6_grow_66 : decode cX6_grow 66 = .ok (.getfield 25, 3) := by decide +kernel
theorem dX6_grow_69 : decode cX6_grow 69 = .ok (.if_icmp .ge 38, 3) := by decide +kernel
theorem dX6_grow_72 : decode cX6_grow 72 = .ok (.iload 8, 2) := by decide +kernel
theorem dX6_grow_74 : decode cX6_grow 74 = .ok (.iload 9, 2) := by decide +kernel
theorem dX6_grow_76 : decode cX6_grow 76 = .ok (.ishr, 1) := by decide +kernel
theorem dX6_grow_77 : decode cX6_grow 77 = .ok (.iconst 1, 1) := by decide +kernel
theorem dX6_grow_78 : decode cX6_grow 78 = .ok (.iand, 1) := by decide +kernel
theorem dX6_grow_79 : decode cX6_grow 79 = .ok (.ifCond .eq 22, 3) := by decide +kernel
theorem dX6_grow_82 : decode cX6_grow 82 = .ok (.aload_n 0, 1) := by decide +kernel
theorem dX6_grow_83 : decode cX6_grow 83 = .ok (.iload 9, 2) := by decide +kernel
theorem dX6_grow_85 : decode cX6_grow 85 = .ok (.aload_n 1, 1) := by decide +kernel
theorem dX6_grow_86 : decode cX6_grow 86 = .ok (.getfield 40, 3) := by decide +kernel
theorem dX6_grow_89 : decode cX6_grow 89 = .ok (.iload 9, 2) := by decide +kernel
theorem dX6_grow_91 : decode cX6_grow 91 = .ok (.iaload, 1) := by decide +kernel
theorem dX6_grow_92 : decode cX6_grow 92 = .ok (.iload 6, 2) := by decide +kernel
theorem dX6_grow_94 : decode cX6_grow 94 = .ok (.iand, 1) := by decide +kernel
theorem dX6_grow_95 : decode cX6_grow 95 = .ok (.invokestatic 43, 3) := by decide +kernel
theorem dX6_grow_98 : decode cX6_grow 98 = .ok (.invokevirtual 46, 3) := by decide +kernel
theorem dX6_grow_101 : decode cX6_grow 101 = .ok (.iinc 9 1, 3) := by decide +kernel
theorem dX6_grow_104 : decode cX6_grow 104 = .ok (.goto (-41), 3) := by decide +kernel
theorem dX6_grow_107 : decode cX6_grow 107 = .ok (.iload 5, 2) := by decide +kernel
theorem dX6_grow_109 : decode cX6_grow 109 = .ok (.iload 8, 2) := by decide +kernel
theorem dX6_grow_111 : decode cX6_grow 111 = .ok (.ior, 1) := by decide +kernel
theorem dX6_grow_112 : decode cX6_grow 112 = .ok (.istore 5, 2) := by decide +kernel
theorem dX6_grow_114 : decode cX6_grow 114 = .ok (.iload 8, 2) := by decide +kernel
theorem dX6_grow_116 : decode cX6_grow 116 = .ok (.istore 6, 2) := by decide +kernel
theorem dX6_grow_118 : decode cX6_grow 118 = .ok (.iinc 7 1, 3) := by decide +kernel
theorem dX6_grow_121 : decode cX6_grow 121 = .ok (.goto (-104), 3) := by decide +kernel
theorem dX6_grow_124 : decode cX6_grow 124 = .ok (.iload 5, 2) := by decide +kernel
theorem dX6_grow_126 : decode cX6_grow 126 = .ok (.ireturn, 1) := by decide +kernel
theorem dJ6_bitCount_0f7a4_0 : decode cJ6_bitCount_0f7a4 0 = .ok (.iload_n 0, 1) := by decide +kernel
theorem dJ6_bitCount_0f7a4_1 : decode cJ6_bitCount_0f7a4 1 = .ok (.iload_n 0, 1) := by decide +kernel
theorem dJ6_bitCount_0f7a4_2 : decode cJ6_bitCount_0f7a4 2 = .ok (.iconst 1, 1) := by decide +kernel
theorem dJ6_bitCount_0f7a4_3 : decode cJ6_bitCount_0f7a4 3 = .ok (.iushr, 1) := by decide +kernel
theorem dJ6_bitCount_0f7a4_4 : decode cJ6_bitCount_0f7a4 4 = .ok (.ldc_w 265, 3) := by decide +kernel
theorem dJ6_bitCount_0f7a4_7 : decode cJ6_bitCount_0f7a4 7 = .ok (.iand, 1) := by decide +kernel
theorem dJ6_bitCount_0f7a4_8 : decode cJ6_bitCount_0f7a4 8 = .ok (.isub, 1) := by decide +kernel
theorem dJ6_bitCount_0f7a4_9 : decode cJ6_bitCount_0f7a4 9 = .ok (.istore_n 0, 1) := by decide +kernel
theorem dJ6_bitCount_0f7a4_10 : decode cJ6_bitCount_0f7a4 10 = .ok (.iload_n 0, 1) := by decide +kernel
theorem dJ6_bitCount_0f7a4_11 : decode cJ6_bitCount_0f7a4 11 = .ok (.ldc_w 266, 3) := by decide +kernel
theorem dJ6_bitCount_0f7a4_14 : decode cJ6_bitCount_0f7a4 14 = .ok (.iand, 1) := by decide +kernel
theorem dJ6_bitCount_0f7a4_15 : decode cJ6_bitCount_0f7a4 15 = .ok (.iload_n 0, 1) := by decide +kernel
theorem dJ6_bitCount_0f7a4_16 : decode cJ6_bitCount_0f7a4 16 = .ok (.iconst 2, 1) := by decide +kernel
theorem dJ6_bitCount_0f7a4_17 : decode cJ6_bitCount_0f7a4 17 = .ok (.iushr, 1) := by decide +kernel
theorem dJ6_bitCount_0f7a4_18 : decode cJ6_bitCount_0f7a4 18 = .ok (.ldc_w 266, 3) := by decide +kernel
theorem dJ6_bitCount_0f7a4_21 : decode cJ6_bitCount_0f7a4 21 = .ok (.iand, 1) := by decide +kernel
theorem dJ6_bitCount_0f7a4_22 : decode cJ6_bitCount_0f7a4 22 = .ok (.iadd, 1) := by decide +kernel
theorem dJ6_bitCount_0f7a4_23 : decode cJ6_bitCount_0f7a4 23 = .ok (.istore_n 0, 1) := by decide +kernel
theorem dJ6_bitCount_0f7a4_24 : decode cJ6_bitCount_0f7a4 24 = .ok (.iload_n 0, 1) := by decide +kernel
theorem dJ6_bitCount_0f7a4_25 : decode cJ6_bitCount_0f7a4 25 = .ok (.iload_n 0, 1) := by decide +kernel
theorem dJ6_bitCount_0f7a4_26 : decode cJ6_bitCount_0f7a4 26 = .ok (.iconst 4, 1) := by decide +kernel
theorem dJ6_bitCount_0f7a4_27 : decode cJ6_bitCount_0f7a4 27 = .ok (.iushr, 1) := by decide +kernel
theorem dJ6_bitCount_0f7a4_28 : decode cJ6_bitCount_0f7a4 28 = .ok (.iadd, 1) := by decide +kernel
theorem dJ6_bitCount_0f7a4_29 : decode cJ6_bitCount_0f7a4 29 = .ok (.ldc_w 267, 3) := by decide +kernel
theorem dJ6_bitCount_0f7a4_32 : decode cJ6_bitCount_0f7a4 32 = .ok (.iand, 1) := by decide +kernel
theorem dJ6_bitCount_0f7a4_33 : decode cJ6_bitCount_0f7a4 33 = .ok (.istore_n 0, 1) := by decide +kernel
theorem dJ6_bitCount_0f7a4_34 : decode cJ6_bitCount_0f7a4 34 = .ok (.iload_n 0, 1) := by decide +kernel
theorem dJ6_bitCount_0f7a4_35 : decode cJ6_bitCount_0f7a4 35 = .ok (.iload_n 0, 1) := by decide +kernel
theorem dJ6_bitCount_0f7a4_36 : decode cJ6_bitCount_0f7a4 36 = .ok (.bipush 8, 2) := by decide +kernel
theorem dJ6_bitCount_0f7a4_38 : decode cJ6_bitCount_0f7a4 38 = .ok (.iushr, 1) := by decide +kernel
theorem dJ6_bitCount_0f7a4_39 : decode cJ6_bitCount_0f7a4 39 = .ok (.iadd, 1) := by decide +kernel
theorem dJ6_bitCount_0f7a4_40 : decode cJ6_bitCount_0f7a4 40 = .ok (.istore_n 0, 1) := by decide +kernel
theorem dJ6_bitCount_0f7a4_41 : decode cJ6_bitCount_0f7a4 41 = .ok (.iload_n 0, 1) := by decide +kernel
theorem dJ6_bitCount_0f7a4_42 : decode cJ6_bitCount_0f7a4 42 = .ok (.iload_n 0, 1) := by decide +kernel
theorem dJ6_bitCount_0f7a4_43 : decode cJ6_bitCount_0f7a4 43 = .ok (.bipush 16, 2) := by decide +kernel
theorem dJ6_bitCount_0f7a4_45 : decode cJ6_bitCount_0f7a4 45 = .ok (.iushr, 1) := by decide +kernel
theorem dJ6_bitCount_0f7a4_46 : decode cJ6_bitCount_0f7a4 46 = .ok (.iadd, 1) := by decide +kernel
theorem dJ6_bitCount_0f7a4_47 : decode cJ6_bitCount_0f7a4 47 = .ok (.istore_n 0, 1) := by decide +kernel
theorem dJ6_bitCount_0f7a4_48 : decode cJ6_bitCount_0f7a4 48 = .ok (.iload_n 0, 1) := by decide +kernel
theorem dJ6_bitCount_0f7a4_49 : decode cJ6_bitCount_0f7a4 49 = .ok (.bipush 63, 2) := by decide +kernel
theorem dJ6_bitCount_0f7a4_51 : decode cJ6_bitCount_0f7a4 51 = .ok (.iand, 1) := by decide +kernel
theorem dJ6_bitCount_0f7a4_52 : decode cJ6_bitCount_0f7a4 52 = .ok (.ireturn, 1) := by decide +kernel
theorem dJ9_max_7cf53_0 : decode cJ9_max_7cf53 0 = .ok (.iload_n 0, 1) := by decide +kernel
theorem dJ9_max_7cf53_1 : decode cJ9_max_7cf53 1 = .ok (.iload_n 1, 1) := by decide +kernel
theorem dJ9_max_7cf53_2 : decode cJ9_max_7cf53 2 = .ok (.if_icmp .lt 7, 3) := by decide +kernel
theorem dJ9_max_7cf53_5 : decode cJ9_max_7cf53 5 = .ok (.iload_n 0, 1) := by decide +kernel
theorem dJ9_max_7cf53_6 : decode cJ9_max_7cf53 6 = .ok (.goto 4, 3) := by decide +kernel
theorem dJ9_max_7cf53_9 : decode cJ9_max_7cf53 9 = .ok (.iload_n 1, 1) := by decide +kernel
theorem dJ9_max_7cf53_10 : decode cJ9_max_7cf53 10 = .ok (.ireturn, 1) := by decide +kernel
theorem dJ7_fill_53178_0 : decode cJ7_fill_53178 0 = .ok (.iconst 0, 1) := by decide +kernel
theorem dJ7_fill_53178_1 : decode cJ7_fill_53178 1 = .ok (.istore_n 2, 1) := by decide +kernel
theorem dJ7_fill_53178_2 : decode cJ7_fill_53178 2 = .ok (.aload_n 0, 1) := by decide +kernel
theorem dJ7_fill_53178_3 : decode cJ7_fill_53178 3 = .ok (.arraylength, 1) := by decide +kernel
theorem dJ7_fill_53178_4 : decode cJ7_fill_53178 4 = .ok (.istore_n 3, 1) := by decide +kernel
theorem dJ7_fill_53178_5 : decode cJ7_fill_53178 5 = .ok (.iload_n 2, 1) := by decide +kernel
theorem dJ7_fill_53178_6 : decode cJ7_fill_53178 6 = .ok (.iload_n 3, 1) := by decide +kernel
theorem dJ7_fill_53178_7 : decode cJ7_fill_53178 7 = .ok (.if_icmp .ge 13, 3) := by decide +kernel
theorem dJ7_fill_53178_10 : decode cJ7_fill_53178 10 = .ok (.aload_n 0, 1) := by decide +kernel
theorem dJ7_fill_53178_11 : decode cJ7_fill_53178 11 = .ok (.iload_n 2, 1) := by decide +kernel
theorem dJ7_fill_53178_12 : decode cJ7_fill_53178 12 = .ok (.iload_n 1, 1) := by decide +kernel
theorem dJ7_fill_53178_13 : decode cJ7_fill_53178 13 = .ok (.iastore, 1) := by decide +kernel
theorem dJ7_fill_53178_14 : decode cJ7_fill_53178 14 = .ok (.iinc 2 1, 3) := by decide +kernel
theorem dJ7_fill_53178_17 : decode cJ7_fill_53178 17 = .ok (.goto (-12), 3) := by decide +kernel
theorem dJ7_fill_53178_20 : decode cJ7_fill_53178 20 = .ok (.return_, 1) := by decide +kernel
